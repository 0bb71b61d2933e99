theorem dX4_init_0 : decode cX4_init 0 = .ok (.aload_n 0, 1) := by decide +kernel
theorem dX4_init_1 : decode cX4_init 1 = .ok (.invokespecial 3, 3) := by decide +kernel
theorem dX4_init_4 : decode cX4_init 4 = .ok (.aload_n 0, 1) := by decide +kernel
theorem dX4_init_5 : decode cX4_init 5 = .ok (.bipush 64, 2) := by decide +kernel
theorem dX4_init_7 : decode cX4_init 7 = .ok (.newarray .int, 2) := by decide +kernel
theorem dX4_init_9 : decode cX4_init 9 = .ok (.putfield 11, 3) := by decide +kernel
theorem dX4_init_12 : decode cX4_init 12 = .ok (.aload_n 0, 1) := by decide +kernel
theorem dX4_init_13 : decode cX4_init 13 = .ok (.bipush 64, 2) := by decide +kernel
theorem dX4_init_15 : decode cX4_init 15 = .ok (.newarray .int, 2) := by decide +kernel
theorem dX4_init_17 : decode cX4_init 17 = .ok (.putfield 15, 3) := by decide +kernel
theorem dX4_init_20 : decode cX4_init 20 = .ok (.aload_n 0, 1) := by decide +kernel
theorem dX4_init_21 : decode cX4_init 21 = .ok (.bipush 64, 2) := by decide +kernel
theorem dX4_init_23 : decode cX4_init 23 = .ok (.newarray .int, 2) := by decide +kernel
theorem dX4_init_25 : decode cX4_init 25 = .ok (.putfield 18, 3) := by decide +kernel
theorem dX4_init_28 : decode cX4_init 28 = .ok (.aload_n 0, 1) := by decide +kernel
theorem dX4_init_29 : decode cX4_init 29 = .ok (.bipush 64, 2) := by decide +kernel
theorem dX4_init_31 : decode cX4_init 31 = .ok (.newarray .int, 2) := by decide +kernel
theorem dX4_init_33 : decode cX4_init 33 = .ok (.putfield 21, 3) := by decide +kernel
theorem dX4_init_36 : decode cX4_init 36 = .ok (.aload_n 0, 1) := by decide +kernel
theorem dX4_init_37 : decode cX4_init 37 = .ok (.iconst 0, 1) := by decide +kernel
theorem dX4_init_38 : decode cX4_init 38 = .ok (.putfield 24, 3) := by decide +kernel
theorem dX4_init_41 : decode cX4_init 41 = .ok (.return_, 1) := by decide +kernel
theorem dX4_put_0 : decode cX4_put 0 = .ok (.aload_n 0, 1) := by decide +kernel
theorem dX4_put_1 : decode cX4_put 1 = .ok (.getfield 11, 3) := by decide +kernel
theorem dX4_put_4 : decode cX4_put 4 = .ok (.iload_n 1, 1) := by decide +kernel
theorem dX4_put_5 : decode cX4_put 5 = .ok (.iload_n 2, 1) := by decide +kernel
theorem dX4_put_6 : decode cX4_put 6 = .ok (.iastore, 1) := by decide +kernel
theorem dX4_put_7 : decode cX4_put 7 = .ok (.aload_n 0, 1) := by decide +kernel
theorem dX4_put_8 : decode cX4_put 8 = .ok (.getfield 15, 3) := by decide +kernel
theorem dX4_put_11 : decode cX4_put 11 = .ok (.iload_n 1, 1) := by decide +kernel
theorem dX4_put_12 : decode cX4_put 12 = .ok (.iload_n 3, 1) := by decide +kernel
theorem dX4_put_13 : decode cX4_put 13 = .ok (.iastore, 1) := by decide +kernel
theorem dX4_put_14 : decode cX4_put 14 = .ok (.aload_n 0, 1) := by decide +kernel
theorem dX4_put_15 : decode cX4_put 15 = .ok (.getfield 18, 3) := by decide +kernel
theorem dX4_put_18 : decode cX4_put 18 = .ok (.iload_n 1, 1) := by decide +kernel
theorem dX4_put_19 : decode cX4_put 19 = .ok (.iload 4, 2) := by decide +kernel
theorem dX4_put_21 : decode cX4_put 21 = .ok (.iastore, 1) := by decide +kernel
theorem dX4_put_22 : decode cX4_put 22 = .ok (.aload_n 0, 1) := by decide +kernel
theorem dX4_put_23 : decode cX4_put 23 = .ok (.getfield 21, 3) := by decide +kernel
theorem dX4_put_26 : decode cX4_put 26 = .ok (.iload_n 1, 1) := by decide +kernel
theorem dX4_put_27 : decode cX4_put 27 = .ok (.iload 5, 2) := by decide +kernel
theorem dX4_put_29 : decode cX4_put 29 = .ok (.iastore, 1) := by decide +kernel
theorem dX4_put_30 : decode cX4_put 30 = .ok (.iload_n 1, 1) := by decide +kernel
theorem dX4_put_31 : decode cX4_put 31 = .ok (.aload_n 0, 1) := by decide +kernel
theorem dX4_put_32 : decode cX4_put 32 = .ok (.getfield 24, 3) := by decide +kernel
theorem dX4_put_35 : decode cX4_put 35 = .ok (.if_icmp .ne 13, 3) := by decide +kernel
theorem dX4_put_38 : decode cX4_put 38 = .ok (.aload_n 0, 1) := by decide +kernel
theorem dX4_put_39 : decode cX4_put 39 = .ok (.dup, 1) := by decide +kernel
theorem dX4_put_40 : decode cX4_put 40 = .ok (.getfield 24, 3) := by decide +kernel
theorem dX4_put_43 : decode cX4_put 43 = .ok (.iconst 1, 1) := by decide +kernel
theorem dX4_put_44 : decode cX4_put 44 = .ok (.iadd, 1) := by decide +kernel
theorem dX4_put_45 : decode cX4_put 45 = .ok (.putfield 24, 3) := by decide +kernel
theorem dX4_put_48 : decode cX4_put 48 = .ok (.return_, 1) := by decide +kernel
theorem dX4_load_0 : decode cX4_load 0 = .ok (.iload_n 1, 1) := by decide +kernel
theorem dX4_load_1 : decode cX4_load 1 = .ok (.invokestatic 28, 3) := by decide +kernel
theorem dX4_load_4 : decode cX4_load 4 = .ok (.astore_n 2, 1) := by decide +kernel
theorem dX4_load_5 : decode cX4_load 5 = .ok (.aload_n 0, 1) := by decide +kernel
theorem dX4_load_6 : decode cX4_load 6 = .ok (.aload_n 2, 1) := by decide +kernel
theorem dX4_load_7 : decode cX4_load 7 = .ok (.arraylength, 1) := by decide +kernel
theorem dX4_load_8 : decode cX4_load 8 = .ok (.iconst 4, 1) := by decide +kernel
theorem dX4_load_9 : decode cX4_load 9 = .ok (.idiv, 1) := by decide +kernel
theorem dX4_load_10 : decode cX4_load 10 = .ok (.putfield 24, 3) := by decide +kernel
theorem dX4_load_13 : decode cX4_load 13 = .ok (.iconst 0, 1) := by decide +kernel
theorem dX4_load_14 : decode cX4_load 14 = .ok (.istore_n 3, 1) := by decide +kernel
theorem dX4_load_15 : decode cX4_load 15 = .ok (.iload_n 3, 1) := by decide +kernel
theorem dX4_load_16 : decode cX4_load 16 = .ok (.aload_n 0, 1) := by decide +kernel
theorem dX4_load_17 : decode cX4_load 17 = .ok (.getfield 24, 3) := by decide +kernel
theorem dX4_load_20 : decode cX4_load 20 = .ok (.if_icmp .ge 59, 3) := by decide +kernel
theorem dX4_load_23 : decode cX4_load 23 = .ok (.aload_n 0, 1) := by decide +kernel
theorem dX4_load_24 : decode cX4_load 24 = .ok (.getfield 11, 3) := by decide +kernel
theorem dX4_load_27 : decode cX4_load 27 = .ok (.iload_n 3, 1) := by decide +kernel
theorem dX4_load_28 : decode cX4_load 28 = .ok (.aload_n 2, 1) := by decide +kernel
theorem dX4_load_29 : decode cX4_load 29 = .ok (.iconst 4, 1) := by decide +kernel
theorem dX4_load_30 : decode cX4_load 30 = .ok (.iload_n 3, 1) := by decide +kernel
theorem dX4_load_31 : decode cX4_load 31 = .ok (.imul, 1) := by decide +kernel
theorem dX4_load_32 : decode cX4_load 32 = .ok (.iaload, 1) := by decide +kernel
theorem dX4_load_33 : decode cX4_load 33 = .ok (.iastore, 1) := by decide +kernel
theorem dX4_load_34 : decode cX4_load 34 = .ok (.aload_n 0, 1) := by decide +kernel
theorem dX4_load_35 : decode cX4_load 35 = .ok (.getfield 15, 3) := by decide +kernel
theorem dX4_load_38 : decode cX4_load 38 = .ok (.iload_n 3, 1) := by decide +kernel
theorem dX4_load_39 : decode cX4_load 39 = .ok (.aload_n 2, 1) := by decide +kernel
theorem dX4_load_40 : decode cX4_load 40 = .ok (.iconst 4, 1) := by decide +kernel
theorem dX4_load_41 : decode cX4_load 41 = .ok (.iload_n 3, 1) := by decide +kernel
theorem dX4_load_42 : decode cX4_load 42 = .ok (.imul, 1) := by decide +kernel
theorem dX4_load_43 : decode cX4_load 43 = .ok (.iconst 1, 1) := by decide +kernel
theorem dX4_load_44 : decode cX4_load 44 = .ok (.iadd, 1) := by decide +kernel
theorem dX4_load_45 : decode cX4_load 45 = .ok (.iaload, 1) := by decide +kernel
theorem dX4_load_46 : decode cX4_load 46 = .ok (.iastore, 1) := by decide +kernel
theorem dX4_load_47 : decode cX4_load 47 = .ok (.aload_n 0, 1) := by decide +kernel
theorem dX4_load_48 : decode cX4_load 48 = .ok (.getfield 18, 3) := by decide +kernel
theorem dX4_load_51 : decode cX4_load 51 = .ok (.iload_n 3, 1) := by decide +kernel
theorem dX4_load_52 : decode cX4_load 52 = .ok (.aload_n 2, 1) := by decide +kernel
theorem dX4_load_53 : decode cX4_load 53 = .ok (.iconst 4, 1) := by decide +kernel
theorem dX4_load_54 : decode cX4_load 54 = .ok (.iload_n 3, 1) := by decide +kernel
theorem dX4_load_55 : decode cX4_load 55 = .ok (.imul, 1) := by decide +kernel
theorem dX4_load_56 : decode cX4_load 56 = .ok (.iconst 2, 1) := by decide +kernel
theorem dX4_load_57 : decode cX4_load 57 = .ok (.iadd, 1) := by decide +kernel
theorem dX4_load_58 : decode cX4_load 58 = .ok (.iaload, 1) := by decide +kernel
theorem dX4_load_59 : decode cX4_load 59 = .ok (.iastore, 1) := by decide +kernel
theorem dX4_load_60 : decode cX4_load 60 = .ok (.aload_n 0, 1) := by decide +kernel
theorem dX4_load_61 : decode cX4_load 61 = .ok (.getfield 21, 3) := by decide +kernel
theorem dX4_load_64 : decode cX4_load 64 = .ok (.iload_n 3, 1) := by decide +kernel
theorem dX4_load_65 : decode cX4_load 65 = .ok (.aload_n 2, 1) := by decide +kernel
theorem dX4_load_66 : decode cX4_load 66 = .ok (.iconst 4, 1) := by decide +kernel
theorem dX4_load_67 : decode cX4_load 67 = .ok (.iload_n 3, 1) := by decide +kernel
theorem dX4_load_68 : decode cX4_load 68 = .ok (.imul, 1) := by decide +kernel
theorem dX4_load_69 : decode cX4_load 69 = .ok (.iconst 3, 1) := by decide +kernel
theorem dX4_load_70 : decode cX4_load 70 = .ok (.iadd, 1) := by decide +kernel
theorem dX4_load_71 : decode cX4_load 71 = .ok (.iaload, 1) := by decide +kernel
theorem dX4_load_72 : decode cX4_load 72 = .ok (.iastore, 1) := by decide +kernel
theorem dX4_load_73 : decode cX4_load 73 = .ok (.iinc 3 1, 3) := by decide +kernel
theorem dX4_load_76 : decode cX4_load 76 = .ok (.goto (-61), 3) := by decide +kernel
theorem dX4_load_79 : decode cX4_load 79 = .ok (.return_, 1) := by decide +kernel
theorem dX4_builtInWords_0 : decode cX4_builtInWords 0 = .ok (.iload_n 0, 1) := by decide +kernel
theorem dX4_builtInWords_1 : decode cX4_builtInWords 1 = .ok (.tableswitch 47 0 3 #[31, 35, 39, 43], 31) := by decide +kernel
theorem dX4_builtInWords_32 : decode cX4_builtInWords 32 = .ok (.getstatic 32, 3) := by decide +kernel
theorem dX4_builtInWords_35 : decode cX4_builtInWords 35 = .ok (.areturn, 1) := by decide +kernel
theorem dX4_builtInWords_36 : decode cX4_builtInWords 36 = .ok (.getstatic 35, 3) := by decide +kernel
theorem dX4_builtInWords_39 : decode cX4_builtInWords 39 = .ok (.areturn, 1) := by decide +kernel
theorem dX4_builtInWords_40 : decode cX4_builtInWords 40 = .ok (.getstatic 38, 3) := by decide +kernel
theorem dX4_builtInWords_43 : decode cX4_builtInWords 43 = .ok (.areturn, 1) := by decide +kernel
theorem dX4_builtInWords_44 : decode cX4_builtInWords 44 = .ok (.getstatic 41, 3) := by decide +kernel
theorem dX4_builtInWords_47 : decode cX4_builtInWords 47 = .ok (.areturn, 1) := by decide +kernel
theorem dX4_builtInWords_48 : decode cX4_builtInWords 48 = .ok (.getstatic 44, 3) := by decide +kernel
theorem dX4_builtInWords_51 : decode cX4_builtInWords 51 = .ok (.areturn, 1) := by decide +kernel
theorem dX4_firstWrong_0 : decode cX4_firstWrong 0 = .ok (.iconst 0, 1) := by decide +kernel
theorem dX4_firstWrong_1 : decode cX4_firstWrong 1 = .ok (.istore_n 1, 1) := by decide +kernel
theorem dX4_firstWrong_2 : decode cX4_firstWrong 2 = .ok (.iconst 0, 1) := by decide +kernel
theorem dX4_firstWrong_3 : decode cX4_firstWrong 3 = .ok (.istore_n 2, 1) := by decide +kernel
theorem dX4_firstWrong_4 : decode cX4_firstWrong 4 = .ok (.iload_n 2, 1) := by decide +kernel
theorem dX4_firstWrong_5 : decode cX4_firstWrong 5 = .ok (.aload_n 0, 1) := by decide +kernel
theorem dX4_firstWrong_6 : decode cX4_firstWrong 6 = .ok (.getfield 24, 3) := by decide +kernel
theorem dX4_firstWrong_9 : decode cX4_firstWrong 9 = .ok (.if_icmp .ge 81, 3) := by decide +kernel
theorem dX4_firstWrong_12 : decode cX4_firstWrong 12 = .ok (.iload_n 2, 1) := by decide +kernel
theorem dX4_firstWrong_13 : decode cX4_firstWrong 13 = .ok (.iload_n 1, 1) := by decide +kernel
theorem dX4_firstWrong_14 : decode cX4_firstWrong 14 = .ok (.if_icmp .ge 7, 3) := by decide +kernel
theorem dX4_firstWrong_17 : decode cX4_firstWrong 17 = .ok (.iconst 1, 1) := by decide +kernel
theorem dX4_firstWrong_18 : decode cX4_firstWrong 18 = .ok (.goto 4, 3) := by decide +kernel
theorem dX4_firstWrong_21 : decode cX4_firstWrong 21 = .ok (.iconst 0, 1) := by decide +kernel
theorem dX4_firstWrong_22 : decode cX4_firstWrong 22 = .ok (.istore_n 3, 1) := by decide +kernel
theorem dX4_firstWrong_23 : decode cX4_firstWrong 23 = .ok (.aload_n 0, 1) := by decide +kernel
theorem dX4_firstWrong_24 : decode cX4_firstWrong 24 = .ok (.iload_n 2, 1) := by decide +kernel
theorem dX4_firstWrong_25 : decode cX4_firstWrong 25 = .ok (.invokevirtual 47, 3) := by decide +kernel
theorem dX4_firstWrong_28 : decode cX4_firstWrong 28 = .ok (.ifCond .ne 32, 3) := by decide +kernel
theorem dX4_firstWrong_31 : decode cX4_firstWrong 31 = .ok (.aload_n 0, 1) := by decide +kernel
theorem dX4_firstWrong_32 : decode cX4_firstWrong 32 = .ok (.iload_n 2, 1) := by decide +kernel
theorem dX4_firstWrong_33 : decode cX4_firstWrong 33 = .ok (.iload_n 3, 1) := by decide +kernel
theorem dX4_firstWrong_34 : decode cX4_firstWrong 34 = .ok (.invokevirtual 51, 3) := by decide +kernel
theorem dX4_firstWrong_37 : decode cX4_firstWrong 37 = .ok (.ifCond .ne 23, 3) := by decide +kernel
theorem dX4_firstWrong_40 : decode cX4_firstWrong 40 = .ok (.aload_n 0, 1) := by decide +kernel
theorem dX4_firstWrong_41 : decode cX4_firstWrong 41 = .ok (.iload_n 2, 1) := by decide +kernel
theorem dX4_firstWrong_42 : decode cX4_firstWrong 42 = .ok (.iload_n 3, 1) := by decide +kernel
theorem dX4_firstWrong_43 : decode cX4_firstWrong 43 = .ok (.ifCond .eq 7, 3) := by decide +kernel
theorem dX4_firstWrong_46 : decode cX4_firstWrong 46 = .ok (.iload_n 1, 1) := by decide +kernel
theorem dX4_firstWrong_47 : decode cX4_firstWrong 47 = .ok (.goto 7, 3) := by decide +kernel
theorem dX4_firstWrong_50 : decode cX4_firstWrong 50 = .ok (.aload_n 0, 1) := by decide +kernel
theorem dX4_firstWrong_51 : decode cX4_firstWrong 51 = .ok (.getfield 24, 3) := by decide +kernel
theorem dX4_firstWrong_54 : decode cX4_firstWrong 54 = .ok (.invokevirtual 55, 3) := by decide +kernel
theorem dX4_firstWrong_57 : decode cX4_firstWrong 57 = .ok (.ifCond .eq 5, 3) := by decide +kernel
theorem dX4_firstWrong_60 : decode cX4_firstWrong 60 = .ok (.iload_n 2, 1) := by decide +kernel
theorem dX4_firstWrong_61 : decode cX4_firstWrong 61 = .ok (.ireturn, 1) := by decide +kernel
theorem dX4_firstWrong_62 : decode cX4_firstWrong 62 = .ok (.aload_n 0, 1) := by decide +kernel
theorem dX4_firstWrong_63 : decode cX4_firstWrong 63 = .ok (.getfield 11, 3) := by decide +kernel
theorem dX4_firstWrong_66 : decode cX4_firstWrong 66 = .ok (.iload_n 2, 1) := by decide +kernel
theorem dX4_firstWrong_67 : decode cX4_firstWrong 67 = .ok (.iaload, 1) := by decide +kernel
theorem dX4_firstWrong_68 : decode cX4_firstWrong 68 = .ok (.bipush 15, 2) := by decide +kernel
theorem dX4_firstWrong_70 : decode cX4_firstWrong 70 = .ok (.if_icmp .ne 14, 3) := by decide +kernel
theorem dX4_firstWrong_73 : decode cX4_firstWrong 73 = .ok (.iload_n 2, 1) := by decide +kernel
theorem dX4_firstWrong_74 : decode cX4_firstWrong 74 = .ok (.iconst 1, 1) := by decide +kernel
theorem dX4_firstWrong_75 : decode cX4_firstWrong 75 = .ok (.iadd, 1) := by decide +kernel
theorem dX4_firstWrong_76 : decode cX4_firstWrong 76 = .ok (.aload_n 0, 1) := by decide +kernel
theorem dX4_firstWrong_77 : decode cX4_firstWrong 77 = .ok (.getfield 18, 3) := by decide +kernel
theorem dX4_firstWrong_80 : decode cX4_firstWrong 80 = .ok (.iload_n 2, 1) := by decide +kernel
theorem dX4_firstWrong_81 : decode cX4_firstWrong 81 = .ok (.iaload, 1) := by decide +kernel
theorem dX4_firstWrong_82 : decode cX4_firstWrong 82 = .ok (.iadd, 1) := by decide +kernel
theorem dX4_firstWrong_83 : decode cX4_firstWrong 83 = .ok (.istore_n 1, 1) := by decide +kernel
theorem dX4_firstWrong_84 : decode cX4_firstWrong 84 = .ok (.iinc 2 1, 3) := by decide +kernel
theorem dX4_firstWrong_87 : decode cX4_firstWrong 87 = .ok (.goto (-83), 3) := by decide +kernel
theorem dX4_firstWrong_90 : decode cX4_firstWrong 90 = .ok (.iconst (-1), 1) := by decide +kernel
theorem dX4_firstWrong_91 : decode cX4_firstWrong 91 = .ok (.ireturn, 1) := by decide +kernel
theorem dX4_hasWrongParts_0 : decode cX4_hasWrongParts 0 = .ok (.aload_n 0, 1) := by decide +kernel
theorem dX4_hasWrongParts_1 : decode cX4_hasWrongParts 1 = .ok (.getfield 11, 3) := by decide +kernel
theorem dX4_hasWrongParts_4 : decode cX4_hasWrongParts 4 = .ok (.iload_n 1, 1) := by decide +kernel
theorem dX4_hasWrongParts_5 : decode cX4_hasWrongParts 5 = .ok (.iaload, 1) := by decide +kernel
theorem dX4_hasWrongParts_6 : decode cX4_hasWrongParts 6 = .ok (.ifCond .lt 26, 3) := by decide +kernel
theorem dX4_hasWrongParts_9 : decode cX4_hasWrongParts 9 = .ok (.aload_n 0, 1) := by decide +kernel
theorem dX4_hasWrongParts_10 : decode cX4_hasWrongParts 10 = .ok (.getfield 11, 3) := by decide +kernel
theorem dX4_hasWrongParts_13 : decode cX4_hasWrongParts 13 = .ok (.iload_n 1, 1) := by decide +kernel
theorem dX4_hasWrongParts_14 : decode cX4_hasWrongParts 14 = .ok (.iaload, 1) := by decide +kernel
theorem dX4_hasWrongParts_15 : decode cX4_hasWrongParts 15 = .ok (.bipush 21, 2) := by decide +kernel
theorem dX4_hasWrongParts_17 : decode cX4_hasWrongParts 17 = .ok (.if_icmp .gt 15, 3) := by decide +kernel
theorem dX4_hasWrongParts_20 : decode cX4_hasWrongParts 20 = .ok (.aload_n 0, 1) := by decide +kernel
theorem dX4_hasWrongParts_21 : decode cX4_hasWrongParts 21 = .ok (.getfield 15, 3) := by decide +kernel
theorem dX4_hasWrongParts_24 : decode cX4_hasWrongParts 24 = .ok (.iload_n 1, 1) := by decide +kernel
theorem dX4_hasWrongParts_25 : decode cX4_hasWrongParts 25 = .ok (.iaload, 1) := by decide +kernel
theorem dX4_hasWrongParts_26 : decode cX4_hasWrongParts 26 = .ok (.invokestatic 59, 3) := by decide +kernel
theorem dX4_hasWrongParts_29 : decode cX4_hasWrongParts 29 = .ok (.ifCond .ne 5, 3) := by decide +kernel
theorem dX4_hasWrongParts_32 : decode cX4_hasWrongParts 32 = .ok (.iconst 1, 1) := by decide +kernel
theorem dX4_hasWrongParts_33 : decode cX4_hasWrongParts 33 = .ok (.ireturn, 1) := by decide +kernel
theorem dX4_hasWrongParts_34 : decode cX4_hasWrongParts 34 = .ok (.aload_n 0, 1) := by decide +kernel
theorem dX4_hasWrongParts_35 : decode cX4_hasWrongParts 35 = .ok (.getfield 11, 3) := by decide +kernel
theorem dX4_hasWrongParts_38 : decode cX4_hasWrongParts 38 = .ok (.iload_n 1, 1) := by decide +kernel
theorem dX4_hasWrongParts_39 : decode cX4_hasWrongParts 39 = .ok (.iaload, 1) := by decide +kernel
theorem dX4_hasWrongParts_40 : decode cX4_hasWrongParts 40 = .ok (.iconst 2, 1) := by decide +kernel
theorem dX4_hasWrongParts_41 : decode cX4_hasWrongParts 41 = .ok (.if_icmp .lt 18, 3) := by decide +kernel
theorem dX4_hasWrongParts_44 : decode cX4_hasWrongParts 44 = .ok (.aload_n 0, 1) := by decide +kernel
theorem dX4_hasWrongParts_45 : decode cX4_hasWrongParts 45 = .ok (.getfield 11, 3) := by decide +kernel
theorem dX4_hasWrongParts_48 : decode cX4_hasWrongParts 48 = .ok (.iload_n 1, 1) := by decide +kernel
theorem dX4_hasWrongParts_49 : decode cX4_hasWrongParts 49 = .ok (.iaload, 1) := by decide +kernel
theorem dX4_hasWrongParts_50 : decode cX4_hasWrongParts 50 = .ok (.bipush 11, 2) := by decide +kernel
theorem dX4_hasWrongParts_52 : decode cX4_hasWrongParts 52 = .ok (.if_icmp .gt 7, 3) := by decide +kernel
theorem dX4_hasWrongParts_55 : decode cX4_hasWrongParts 55 = .ok (.iconst 1, 1) := by decide +kernel
theorem dX4_hasWrongParts_56 : decode cX4_hasWrongParts 56 = .ok (.goto 4, 3) := by decide +kernel
theorem dX4_hasWrongParts_59 : decode cX4_hasWrongParts 59 = .ok (.iconst 0, 1) := by decide +kernel
theorem dX4_hasWrongParts_60 : decode cX4_hasWrongParts 60 = .ok (.istore_n 2, 1) := by decide +kernel
theorem dX4_hasWrongParts_61 : decode cX4_hasWrongParts 61 = .ok (.iload_n 2, 1) := by decide +kernel
theorem dX4_hasWrongParts_62 : decode cX4_hasWrongParts 62 = .ok (.ifCond .ne 35, 3) := by decide +kernel
theorem dX4_hasWrongParts_65 : decode cX4_hasWrongParts 65 = .ok (.aload_n 0, 1) := by decide +kernel
theorem dX4_hasWrongParts_66 : decode cX4_hasWrongParts 66 = .ok (.getfield 11, 3) := by decide +kernel
theorem dX4_hasWrongParts_69 : decode cX4_hasWrongParts 69 = .ok (.iload_n 1, 1) := by decide +kernel
theorem dX4_hasWrongParts_70 : decode cX4_hasWrongParts 70 = .ok (.iaload, 1) := by decide +kernel
theorem dX4_hasWrongParts_71 : decode cX4_hasWrongParts 71 = .ok (.iconst 1, 1) := by decide +kernel
theorem dX4_hasWrongParts_72 : decode cX4_hasWrongParts 72 = .ok (.if_icmp .eq 25, 3) := by decide +kernel
theorem dX4_hasWrongParts_75 : decode cX4_hasWrongParts 75 = .ok (.aload_n 0, 1) := by decide +kernel
theorem dX4_hasWrongParts_76 : decode cX4_hasWrongParts 76 = .ok (.getfield 11, 3) := by decide +kernel
theorem dX4_hasWrongParts_79 : decode cX4_hasWrongParts 79 = .ok (.iload_n 1, 1) := by decide +kernel
theorem dX4_hasWrongParts_80 : decode cX4_hasWrongParts 80 = .ok (.iaload, 1) := by decide +kernel
theorem dX4_hasWrongParts_81 : decode cX4_hasWrongParts 81 = .ok (.bipush 12, 2) := by decide +kernel
theorem dX4_hasWrongParts_83 : decode cX4_hasWrongParts 83 = .ok (.if_icmp .eq 14, 3) := by decide +kernel
theorem dX4_hasWrongParts_86 : decode cX4_hasWrongParts 86 = .ok (.aload_n 0, 1) := by decide +kernel
theorem dX4_hasWrongParts_87 : decode cX4_hasWrongParts 87 = .ok (.getfield 11, 3) := by decide +kernel
theorem dX4_hasWrongParts_90 : decode cX4_hasWrongParts 90 = .ok (.iload_n 1, 1) := by decide +kernel
theorem dX4_hasWrongParts_91 : decode cX4_hasWrongParts 91 = .ok (.iaload, 1) := by decide +kernel
theorem dX4_hasWrongParts_92 : decode cX4_hasWrongParts 92 = .ok (.bipush 13, 2) := by decide +kernel
theorem dX4_hasWrongParts_94 : decode cX4_hasWrongParts 94 = .ok (.if_icmp .ne 7, 3) := by decide +kernel
theorem dX4_hasWrongParts_97 : decode cX4_hasWrongParts 97 = .ok (.iconst 1, 1) := by decide +kernel
theorem dX4_hasWrongParts_98 : decode cX4_hasWrongParts 98 = .ok (.goto 4, 3) := by decide +kernel
theorem dX4_hasWrongParts_101 : decode cX4_hasWrongParts 101 = .ok (.iconst 0, 1) := by decide +kernel
theorem dX4_hasWrongParts_102 : decode cX4_hasWrongParts 102 = .ok (.istore_n 3, 1) := by decide +kernel
theorem dX4_hasWrongParts_103 : decode cX4_hasWrongParts 103 = .ok (.iload_n 3, 1) := by decide +kernel
theorem dX4_hasWrongParts_104 : decode cX4_hasWrongParts 104 = .ok (.ifCond .eq 15, 3) := by decide +kernel
theorem dX4_hasWrongParts_107 : decode cX4_hasWrongParts 107 = .ok (.aload_n 0, 1) := by decide +kernel
theorem dX4_hasWrongParts_108 : decode cX4_hasWrongParts 108 = .ok (.getfield 18, 3) := by decide +kernel
theorem dX4_hasWrongParts_111 : decode cX4_hasWrongParts 111 = .ok (.iload_n 1, 1) := by decide +kernel
theorem dX4_hasWrongParts_112 : decode cX4_hasWrongParts 112 = .ok (.iaload, 1) := by decide +kernel
theorem dX4_hasWrongParts_113 : decode cX4_hasWrongParts 113 = .ok (.invokestatic 59, 3) := by decide +kernel
theorem dX4_hasWrongParts_116 : decode cX4_hasWrongParts 116 = .ok (.ifCond .eq 19, 3) := by decide +kernel
theorem dX4_hasWrongParts_119 : decode cX4_hasWrongParts 119 = .ok (.iload_n 2, 1) := by decide +kernel
theorem dX4_hasWrongParts_120 : decode cX4_hasWrongParts 120 = .ok (.ifCond .eq 19, 3) := by decide +kernel
theorem dX4_hasWrongParts_123 : decode cX4_hasWrongParts 123 = .ok (.aload_n 0, 1) := by decide +kernel
theorem dX4_hasWrongParts_124 : decode cX4_hasWrongParts 124 = .ok (.getfield 21, 3) := by decide +kernel
theorem dX4_hasWrongParts_127 : decode cX4_hasWrongParts 127 = .ok (.iload_n 1, 1) := by decide +kernel
theorem dX4_hasWrongParts_128 : decode cX4_hasWrongParts 128 = .ok (.iaload, 1) := by decide +kernel
theorem dX4_hasWrongParts_129 : decode cX4_hasWrongParts 129 = .ok (.invokestatic 59, 3) := by decide +kernel
theorem dX4_hasWrongParts_132 : decode cX4_hasWrongParts 132 = .ok (.ifCond .ne 7, 3) := by decide +kernel
theorem dX4_hasWrongParts_135 : decode cX4_hasWrongParts 135 = .ok (.iconst 1, 1) := by decide +kernel
theorem dX4_hasWrongParts_136 : decode cX4_hasWrongParts 136 = .ok (.goto 4, 3) := by decide +kernel
theorem dX4_hasWrongParts_139 : decode cX4_hasWrongParts 139 = .ok (.iconst 0, 1) := by decide +kernel
theorem dX4_hasWrongParts_140 : decode cX4_hasWrongParts 140 = .ok (.ireturn, 1) := by decide +kernel
theorem dX4_isRegister_0 : decode cX4_isRegister 0 = .ok (.iload_n 0, 1) := by decide +kernel
theorem dX4_isRegister_1 : decode cX4_isRegister 1 = .ok (.ifCond .lt 13, 3) := by decide +kernel
theorem dX4_isRegister_4 : decode cX4_isRegister 4 = .ok (.iload_n 0, 1) := by decide +kernel
theorem dX4_isRegister_5 : decode cX4_isRegister 5 = .ok (.bipush 8, 2) := by decide +kernel
theorem dX4_isRegister_7 : decode cX4_isRegister 7 = .ok (.if_icmp .ge 7, 3) := by decide +kernel
theorem dX4_isRegister_10 : decode cX4_isRegister 10 = .ok (.iconst 1, 1) := by decide +kernel
theorem dX4_isRegister_11 : decode cX4_isRegister 11 = .ok (.goto 4, 3) := by decide +kernel
theorem dX4_isRegister_14 : decode cX4_isRegister 14 = .ok (.iconst 0, 1) := by decide +kernel
theorem dX4_isRegister_15 : decode cX4_isRegister 15 = .ok (.ireturn, 1) := by decide +kernel
theorem dX4_standsWrong_0 : decode cX4_standsWrong 0 = .ok (.aload_n 0, 1) := by decide +kernel
theorem dX4_standsWrong_1 : decode cX4_standsWrong 1 = .ok (.getfield 11, 3) := by decide +kernel
theorem dX4_standsWrong_4 : decode cX4_standsWrong 4 = .ok (.iload_n 1, 1) := by decide +kernel
theorem dX4_standsWrong_5 : decode cX4_standsWrong 5 = .ok (.iaload, 1) := by decide +kernel
theorem dX4_standsWrong_6 : decode cX4_standsWrong 6 = .ok (.tableswitch 64 14 18 #[36, 34, 54, 54, 54], 34) := by decide +kernel
theorem dX4_standsWrong_40 : decode cX4_standsWrong 40 = .ok (.iload_n 2, 1) := by decide +kernel
theorem dX4_standsWrong_41 : decode cX4_standsWrong 41 = .ok (.ireturn, 1) := by decide +kernel
theorem dX4_standsWrong_42 : decode cX4_standsWrong 42 = .ok (.iload_n 2, 1) := by decide +kernel
theorem dX4_standsWrong_43 : decode cX4_standsWrong 43 = .ok (.ifCond .ne 15, 3) := by decide +kernel
theorem dX4_standsWrong_46 : decode cX4_standsWrong 46 = .ok (.aload_n 0, 1) := by decide +kernel
theorem dX4_standsWrong_47 : decode cX4_standsWrong 47 = .ok (.iload_n 1, 1) := by decide +kernel
theorem dX4_standsWrong_48 : decode cX4_standsWrong 48 = .ok (.invokevirtual 62, 3) := by decide +kernel
theorem dX4_standsWrong_51 : decode cX4_standsWrong 51 = .ok (.ifCond .eq 7, 3) := by decide +kernel
theorem dX4_standsWrong_54 : decode cX4_standsWrong 54 = .ok (.iconst 1, 1) := by decide +kernel
theorem dX4_standsWrong_55 : decode cX4_standsWrong 55 = .ok (.goto 4, 3) := by decide +kernel
theorem dX4_standsWrong_58 : decode cX4_standsWrong 58 = .ok (.iconst 0, 1) := by decide +kernel
theorem dX4_standsWrong_59 : decode cX4_standsWrong 59 = .ok (.ireturn, 1) := by decide +kernel
theorem dX4_standsWrong_60 : decode cX4_standsWrong 60 = .ok (.iload_n 2, 1) := by decide +kernel
theorem dX4_standsWrong_61 : decode cX4_standsWrong 61 = .ok (.ifCond .ne 7, 3) := by decide +kernel
theorem dX4_standsWrong_64 : decode cX4_standsWrong 64 = .ok (.iconst 1, 1) := by decide +kernel
theorem dX4_standsWrong_65 : decode cX4_standsWrong 65 = .ok (.goto 4, 3) := by decide +kernel
theorem dX4_standsWrong_68 : decode cX4_standsWrong 68 = .ok (.iconst 0, 1) := by decide +kernel
theorem dX4_standsWrong_69 : decode cX4_standsWrong 69 = .ok (.ireturn, 1) := by decide +kernel
theorem dX4_standsWrong_70 : decode cX4_standsWrong 70 = .ok (.iconst 0, 1) := by decide +kernel
theorem dX4_standsWrong_71 : decode cX4_standsWrong 71 = .ok (.ireturn, 1) := by decide +kernel
theorem dX4_reachesTooFar_0 : decode cX4_reachesTooFar 0 = .ok (.aload_n 0, 1) := by decide +kernel
theorem dX4_reachesTooFar_1 : decode cX4_reachesTooFar 1 = .ok (.getfield 11, 3) := by decide +kernel
theorem dX4_reachesTooFar_4 : decode cX4_reachesTooFar 4 = .ok (.iload_n 1, 1) := by decide +kernel
theorem dX4_reachesTooFar_5 : decode cX4_reachesTooFar 5 = .ok (.iaload, 1) := by decide +kernel
theorem dX4_reachesTooFar_6 : decode cX4_reachesTooFar 6 = .ok (.bipush 14, 2) := by decide +kernel
theorem dX4_reachesTooFar_8 : decode cX4_reachesTooFar 8 = .ok (.if_icmp .eq 14, 3) := by decide +kernel
theorem dX4_reachesTooFar_11 : decode cX4_reachesTooFar 11 = .ok (.aload_n 0, 1) := by decide +kernel
theorem dX4_reachesTooFar_12 : decode cX4_reachesTooFar 12 = .ok (.getfield 11, 3) := by decide +kernel
theorem dX4_reachesTooFar_15 : decode cX4_reachesTooFar 15 = .ok (.iload_n 1, 1) := by decide +kernel
theorem dX4_reachesTooFar_16 : decode cX4_reachesTooFar 16 = .ok (.iaload, 1) := by decide +kernel
theorem dX4_reachesTooFar_17 : decode cX4_reachesTooFar 17 = .ok (.bipush 15, 2) := by decide +kernel
theorem dX4_reachesTooFar_19 : decode cX4_reachesTooFar 19 = .ok (.if_icmp .ne 31, 3) := by decide +kernel
theorem dX4_reachesTooFar_22 : decode cX4_reachesTooFar 22 = .ok (.aload_n 0, 1) := by decide +kernel
theorem dX4_reachesTooFar_23 : decode cX4_reachesTooFar 23 = .ok (.getfield 18, 3) := by decide +kernel
theorem dX4_reachesTooFar_26 : decode cX4_reachesTooFar 26 = .ok (.iload_n 1, 1) := by decide +kernel
theorem dX4_reachesTooFar_27 : decode cX4_reachesTooFar 27 = .ok (.iaload, 1) := by decide +kernel
theorem dX4_reachesTooFar_28 : decode cX4_reachesTooFar 28 = .ok (.iconst 1, 1) := by decide +kernel
theorem dX4_reachesTooFar_29 : decode cX4_reachesTooFar 29 = .ok (.if_icmp .lt 17, 3) := by decide +kernel
theorem dX4_reachesTooFar_32 : decode cX4_reachesTooFar 32 = .ok (.aload_n 0, 1) := by decide +kernel
theorem dX4_reachesTooFar_33 : decode cX4_reachesTooFar 33 = .ok (.getfield 18, 3) := by decide +kernel
theorem dX4_reachesTooFar_36 : decode cX4_reachesTooFar 36 = .ok (.iload_n 1, 1) := by decide +kernel
theorem dX4_reachesTooFar_37 : decode cX4_reachesTooFar 37 = .ok (.iaload, 1) := by decide +kernel
theorem dX4_reachesTooFar_38 : decode cX4_reachesTooFar 38 = .ok (.iload_n 2, 1) := by decide +kernel
theorem dX4_reachesTooFar_39 : decode cX4_reachesTooFar 39 = .ok (.iconst 1, 1) := by decide +kernel
theorem dX4_reachesTooFar_40 : decode cX4_reachesTooFar 40 = .ok (.isub, 1) := by decide +kernel
theorem dX4_reachesTooFar_41 : decode cX4_reachesTooFar 41 = .ok (.iload_n 1, 1) := by decide +kernel
theorem dX4_reachesTooFar_42 : decode cX4_reachesTooFar 42 = .ok (.isub, 1) := by decide +kernel
theorem dX4_reachesTooFar_43 : decode cX4_reachesTooFar 43 = .ok (.if_icmp .le 7, 3) := by decide +kernel
theorem dX4_reachesTooFar_46 : decode cX4_reachesTooFar 46 = .ok (.iconst 1, 1) := by decide +kernel
theorem dX4_reachesTooFar_47 : decode cX4_reachesTooFar 47 = .ok (.goto 4, 3) := by decide +kernel
theorem dX4_reachesTooFar_50 : decode cX4_reachesTooFar 50 = .ok (.iconst 0, 1) := by decide +kernel
theorem dX4_reachesTooFar_51 : decode cX4_reachesTooFar 51 = .ok (.ireturn, 1) := by decide +kernel
theorem dX4_skipsIntoEach_0 : decode cX4_skipsIntoEach 0 = .ok (.aload_n 0, 1) := by decide +kernel
theorem dX4_skipsIntoEach_1 : decode cX4_skipsIntoEach 1 = .ok (.iload_n 1, 1) := by decide +kernel
theorem dX4_skipsIntoEach_2 : decode cX4_skipsIntoEach 2 = .ok (.aload_n 0, 1) := by decide +kernel
theorem dX4_skipsIntoEach_3 : decode cX4_skipsIntoEach 3 = .ok (.getfield 24, 3) := by decide +kernel
theorem dX4_skipsIntoEach_6 : decode cX4_skipsIntoEach 6 = .ok (.invokevirtual 55, 3) := by decide +kernel
theorem dX4_skipsIntoEach_9 : decode cX4_skipsIntoEach 9 = .ok (.ifCond .eq 5, 3) := by decide +kernel
theorem dX4_skipsIntoEach_12 : decode cX4_skipsIntoEach 12 = .ok (.iconst 0, 1) := by decide +kernel
theorem dX4_skipsIntoEach_13 : decode cX4_skipsIntoEach 13 = .ok (.ireturn, 1) := by decide +kernel
theorem dX4_skipsIntoEach_14 : decode cX4_skipsIntoEach 14 = .ok (.iload_n 1, 1) := by decide +kernel
theorem dX4_skipsIntoEach_15 : decode cX4_skipsIntoEach 15 = .ok (.iconst 1, 1) := by decide +kernel
theorem dX4_skipsIntoEach_16 : decode cX4_skipsIntoEach 16 = .ok (.iadd, 1) := by decide +kernel
theorem dX4_skipsIntoEach_17 : decode cX4_skipsIntoEach 17 = .ok (.aload_n 0, 1) := by decide +kernel
theorem dX4_skipsIntoEach_18 : decode cX4_skipsIntoEach 18 = .ok (.getfield 18, 3) := by decide +kernel
theorem dX4_skipsIntoEach_21 : decode cX4_skipsIntoEach 21 = .ok (.iload_n 1, 1) := by decide +kernel
theorem dX4_skipsIntoEach_22 : decode cX4_skipsIntoEach 22 = .ok (.iaload, 1) := by decide +kernel
theorem dX4_skipsIntoEach_23 : decode cX4_skipsIntoEach 23 = .ok (.iadd, 1) := by decide +kernel
theorem dX4_skipsIntoEach_24 : decode cX4_skipsIntoEach 24 = .ok (.istore_n 2, 1) := by decide +kernel
theorem dX4_skipsIntoEach_25 : decode cX4_skipsIntoEach 25 = .ok (.iload_n 1, 1) := by decide +kernel
theorem dX4_skipsIntoEach_26 : decode cX4_skipsIntoEach 26 = .ok (.iconst 1, 1) := by decide +kernel
theorem dX4_skipsIntoEach_27 : decode cX4_skipsIntoEach 27 = .ok (.iadd, 1) := by decide +kernel
theorem dX4_skipsIntoEach_28 : decode cX4_skipsIntoEach 28 = .ok (.istore_n 3, 1) := by decide +kernel
theorem dX4_skipsIntoEach_29 : decode cX4_skipsIntoEach 29 = .ok (.iload_n 3, 1) := by decide +kernel
theorem dX4_skipsIntoEach_30 : decode cX4_skipsIntoEach 30 = .ok (.iload_n 2, 1) := by decide +kernel
theorem dX4_skipsIntoEach_31 : decode cX4_skipsIntoEach 31 = .ok (.if_icmp .ge 34, 3) := by decide +kernel
theorem dX4_skipsIntoEach_34 : decode cX4_skipsIntoEach 34 = .ok (.aload_n 0, 1) := by decide +kernel
theorem dX4_skipsIntoEach_35 : decode cX4_skipsIntoEach 35 = .ok (.getfield 11, 3) := by decide +kernel
theorem dX4_skipsIntoEach_38 : decode cX4_skipsIntoEach 38 = .ok (.iload_n 3, 1) := by decide +kernel
theorem dX4_skipsIntoEach_39 : decode cX4_skipsIntoEach 39 = .ok (.iaload, 1) := by decide +kernel
theorem dX4_skipsIntoEach_40 : decode cX4_skipsIntoEach 40 = .ok (.bipush 15, 2) := by decide +kernel
theorem dX4_skipsIntoEach_42 : decode cX4_skipsIntoEach 42 = .ok (.if_icmp .ne 17, 3) := by decide +kernel
theorem dX4_skipsIntoEach_45 : decode cX4_skipsIntoEach 45 = .ok (.aload_n 0, 1) := by decide +kernel
theorem dX4_skipsIntoEach_46 : decode cX4_skipsIntoEach 46 = .ok (.getfield 18, 3) := by decide +kernel
theorem dX4_skipsIntoEach_49 : decode cX4_skipsIntoEach 49 = .ok (.iload_n 3, 1) := by decide +kernel
theorem dX4_skipsIntoEach_50 : decode cX4_skipsIntoEach 50 = .ok (.iaload, 1) := by decide +kernel
theorem dX4_skipsIntoEach_51 : decode cX4_skipsIntoEach 51 = .ok (.iload_n 2, 1) := by decide +kernel
theorem dX4_skipsIntoEach_52 : decode cX4_skipsIntoEach 52 = .ok (.iload_n 3, 1) := by decide +kernel
theorem dX4_skipsIntoEach_53 : decode cX4_skipsIntoEach 53 = .ok (.isub, 1) := by decide +kernel
theorem dX4_skipsIntoEach_54 : decode cX4_skipsIntoEach 54 = .ok (.if_icmp .lt 5, 3) := by decide +kernel
theorem dX4_skipsIntoEach_57 : decode cX4_skipsIntoEach 57 = .ok (.iconst 1, 1) := by decide +kernel
theorem dX4_skipsIntoEach_58 : decode cX4_skipsIntoEach 58 = .ok (.ireturn, 1) := by decide +kernel
theorem dX4_skipsIntoEach_59 : decode cX4_skipsIntoEach 59 = .ok (.iinc 3 1, 3) := by decide +kernel
theorem dX4_skipsIntoEach_62 : decode cX4_skipsIntoEach 62 = .ok (.goto (-33), 3) := by decide +kernel
theorem dX4_skipsIntoEach_65 : decode cX4_skipsIntoEach 65 = .ok (.iconst 0, 1) := by decide +kernel
theorem dX4_skipsIntoEach_66 : decode cX4_skipsIntoEach 66 = .ok (.ireturn, 1) := by decide +kernel
theorem dX5_init_0 : decode cX5_init 0 = .ok (.aload_n 0, 1) := by decide +kernel
theorem dX5_init_1 : decode cX5_init 1 = .ok (.invokespecial 3, 3) := by decide +kernel
theorem dX5_init_4 : decode cX5_init 4 = .ok (.aload_n 0, 1) := by decide +kernel
theorem dX5_init_5 : decode cX5_init 5 = .ok (.new 9, 3) := by decide +kernel
theorem dX5_init_8 : decode cX5_init 8 = .ok (.dup, 1) := by decide +kernel
theorem dX5_init_9 : decode cX5_init 9 = .ok (.invokespecial 11, 3) := by decide +kernel
theorem dX5_init_12 : decode cX5_init 12 = .ok (.putfield 12, 3) := by decide +kernel
theorem dX5_init_15 : decode cX5_init 15 = .ok (.aload_n 0, 1) := by decide +kernel
theorem dX5_init_16 : decode cX5_init 16 = .ok (.new 18, 3) := by decide +kernel
theorem dX5_init_19 : decode cX5_init 19 = .ok (.dup, 1) := by decide +kernel
theorem dX5_init_20 : decode cX5_init 20 = .ok (.invokespecial 20, 3) := by decide +kernel
theorem dX5_init_23 : decode cX5_init 23 = .ok (.putfield 21, 3) := by decide +kernel
theorem dX5_init_26 : decode cX5_init 26 = .ok (.aload_n 0, 1) := by decide +kernel
theorem dX5_init_27 : decode cX5_init 27 = .ok (.new 25, 3) := by decide +kernel
theorem dX5_init_30 : decode cX5_init 30 = .ok (.dup, 1) := by decide +kernel
theorem dX5_init_31 : decode cX5_init 31 = .ok (.invokespecial 27, 3) := by decide +kernel
theorem dX5_init_34 : decode cX5_init 34 = .ok (.putfield 28, 3) := by decide +kernel
theorem dX5_init_37 : decode cX5_init 37 = .ok (.aload_n 0, 1) := by decide +kernel
theorem dX5_init_38 : decode cX5_init 38 = .ok (.bipush 24, 2) := by decide +kernel
theorem dX5_init_40 : decode cX5_init 40 = .ok (.newarray .int, 2) := by decide +kernel
theorem dX5_init_42 : decode cX5_init 42 = .ok (.putfield 32, 3) := by decide +kernel
theorem dX5_init_45 : decode cX5_init 45 = .ok (.aload_n 0, 1) := by decide +kernel
theorem dX5_init_46 : decode cX5_init 46 = .ok (.bipush 24, 2) := by decide +kernel
theorem dX5_init_48 : decode cX5_init 48 = .ok (.newarray .int, 2) := by decide +kernel
theorem dX5_init_50 : decode cX5_init 50 = .ok (.putfield 36, 3) := by decide +kernel
theorem dX5_init_53 : decode cX5_init 53 = .ok (.aload_n 0, 1) := by decide +kernel
theorem dX5_init_54 : decode cX5_init 54 = .ok (.bipush 8, 2) := by decide +kernel
theorem dX5_init_56 : decode cX5_init 56 = .ok (.bipush 48, 2) := by decide +kernel
theorem dX5_init_58 : decode cX5_init 58 = .ok (.multianewarray 39 2, 4) := by decide +kernel
theorem dX5_init_62 : decode cX5_init 62 = .ok (.putfield 41, 3) := by decide +kernel
theorem dX5_init_65 : decode cX5_init 65 = .ok (.aload_n 0, 1) := by decide +kernel
theorem dX5_init_66 : decode cX5_init 66 = .ok (.iconst 0, 1) := by decide +kernel
theorem dX5_init_67 : decode cX5_init 67 = .ok (.putfield 44, 3) := by decide +kernel
theorem dX5_init_70 : decode cX5_init 70 = .ok (.aload_n 0, 1) := by decide +kernel
theorem dX5_init_71 : decode cX5_init 71 = .ok (.iconst 0, 1) := by decide +kernel
theorem dX5_init_72 : decode cX5_init 72 = .ok (.putfield 48, 3) := by decide +kernel
theorem dX5_init_75 : decode cX5_init 75 = .ok (.aload_n 0, 1) := by decide +kernel
theorem dX5_init_76 : decode cX5_init 76 = .ok (.iconst 0, 1) := by decide +kernel
theorem dX5_init_77 : decode cX5_init 77 = .ok (.putfield 51, 3) := by decide +kernel
theorem dX5_init_80 : decode cX5_init 80 = .ok (.aload_n 0, 1) := by decide +kernel
theorem dX5_init_81 : decode cX5_init 81 = .ok (.iconst 0, 1) := by decide +kernel
theorem dX5_init_82 : decode cX5_init 82 = .ok (.putfield 54, 3) := by decide +kernel
theorem dX5_init_85 : decode cX5_init 85 = .ok (.aload_n 0, 1) := by decide +kernel
theorem dX5_init_86 : decode cX5_init 86 = .ok (.iconst 0, 1) := by decide +kernel
theorem dX5_init_87 : decode cX5_init 87 = .ok (.putfield 57, 3) := by decide +kernel
theorem dX5_init_90 : decode cX5_init 90 = .ok (.aload_n 0, 1) := by decide +kernel
theorem dX5_init_91 : decode cX5_init 91 = .ok (.bipush 9, 2) := by decide +kernel
theorem dX5_init_93 : decode cX5_init 93 = .ok (.newarray .int, 2) := by decide +kernel
theorem dX5_init_95 : decode cX5_init 95 = .ok (.putfield 60, 3) := by decide +kernel
theorem dX5_init_98 : decode cX5_init 98 = .ok (.aload_n 0, 1) := by decide +kernel
theorem dX5_init_99 : decode cX5_init 99 = .ok (.bipush 9, 2) := by decide +kernel
theorem dX5_init_101 : decode cX5_init 101 = .ok (.newarray .int, 2) := by decide +kernel
theorem dX5_init_103 : decode cX5_init 103 = .ok (.putfield 63, 3) := by decide +kernel
theorem dX5_init_106 : decode cX5_init 106 = .ok (.aload_n 0, 1) := by decide +kernel
theorem dX5_init_107 : decode cX5_init 107 = .ok (.iconst 0, 1) := by decide +kernel
theorem dX5_init_108 : decode cX5_init 108 = .ok (.putfield 66, 3) := by decide +kernel
theorem dX5_init_111 : decode cX5_init 111 = .ok (.aload_n 0, 1) := by decide +kernel
theorem dX5_init_112 : decode cX5_init 112 = .ok (.aload_n 2, 1) := by decide +kernel
theorem dX5_init_113 : decode cX5_init 113 = .ok (.putfield 69, 3) := by decide +kernel
theorem dX5_init_116 : decode cX5_init 116 = .ok (.aload_n 0, 1) := by decide +kernel
theorem dX5_init_117 : decode cX5_init 117 = .ok (.new 73, 3) := by decide +kernel
theorem dX5_init_120 : decode cX5_init 120 = .ok (.dup, 1) := by decide +kernel
theorem dX5_init_121 : decode cX5_init 121 = .ok (.aload_n 1, 1) := by decide +kernel
theorem dX5_init_122 : decode cX5_init 122 = .ok (.aload_n 2, 1) := by decide +kernel
theorem dX5_init_123 : decode cX5_init 123 = .ok (.invokespecial 75, 3) := by decide +kernel
theorem dX5_init_126 : decode cX5_init 126 = .ok (.putfield 78, 3) := by decide +kernel
theorem dX5_init_129 : decode cX5_init 129 = .ok (.return_, 1) := by decide +kernel
theorem dX5_begin_0 : decode cX5_begin 0 = .ok (.aload_n 0, 1) := by decide +kernel
theorem dX5_begin_1 : decode cX5_begin 1 = .ok (.getfield 78, 3) := by decide +kernel
theorem dX5_begin_4 : decode cX5_begin 4 = .ok (.aload_n 1, 1) := by decide +kernel
theorem dX5_begin_5 : decode cX5_begin 5 = .ok (.invokevirtual 82, 3) := by decide +kernel
theorem dX5_begin_8 : decode cX5_begin 8 = .ok (.aload_n 0, 1) := by decide +kernel
theorem dX5_begin_9 : decode cX5_begin 9 = .ok (.getfield 12, 3) := by decide +kernel
theorem dX5_begin_12 : decode cX5_begin 12 = .ok (.invokevirtual 86, 3) := by decide +kernel
theorem dX5_begin_15 : decode cX5_begin 15 = .ok (.aload_n 0, 1) := by decide +kernel
theorem dX5_begin_16 : decode cX5_begin 16 = .ok (.getfield 21, 3) := by decide +kernel
theorem dX5_begin_19 : decode cX5_begin 19 = .ok (.aload_n 0, 1) := by decide +kernel
theorem dX5_begin_20 : decode cX5_begin 20 = .ok (.getfield 69, 3) := by decide +kernel
theorem dX5_begin_23 : decode cX5_begin 23 = .ok (.iconst 0, 1) := by decide +kernel
theorem dX5_begin_24 : decode cX5_begin 24 = .ok (.aload_n 0, 1) := by decide +kernel
theorem dX5_begin_25 : decode cX5_begin 25 = .ok (.getfield 69, 3) := by decide +kernel
theorem dX5_begin_28 : decode cX5_begin 28 = .ok (.invokevirtual 89, 3) := by decide +kernel
theorem dX5_begin_31 : decode cX5_begin 31 = .ok (.iconst 0, 1) := by decide +kernel
theorem dX5_begin_32 : decode cX5_begin 32 = .ok (.invokevirtual 95, 3) := by decide +kernel
theorem dX5_begin_35 : decode cX5_begin 35 = .ok (.pop, 1) := by decide +kernel
theorem dX5_begin_36 : decode cX5_begin 36 = .ok (.aload_n 0, 1) := by decide +kernel
theorem dX5_begin_37 : decode cX5_begin 37 = .ok (.getfield 28, 3) := by decide +kernel
theorem dX5_begin_40 : decode cX5_begin 40 = .ok (.aload_n 0, 1) := by decide +kernel
theorem dX5_begin_41 : decode cX5_begin 41 = .ok (.getfield 69, 3) := by decide +kernel
theorem dX5_begin_44 : decode cX5_begin 44 = .ok (.iload_n 3, 1) := by decide +kernel
theorem dX5_begin_45 : decode cX5_begin 45 = .ok (.invokevirtual 99, 3) := by decide +kernel
theorem dX5_begin_48 : decode cX5_begin 48 = .ok (.aload_n 0, 1) := by decide +kernel
theorem dX5_begin_49 : decode cX5_begin 49 = .ok (.getfield 32, 3) := by decide +kernel
theorem dX5_begin_52 : decode cX5_begin 52 = .ok (.iconst 0, 1) := by decide +kernel
theorem dX5_begin_53 : decode cX5_begin 53 = .ok (.invokestatic 103, 3) := by decide +kernel
theorem dX5_begin_56 : decode cX5_begin 56 = .ok (.aload_n 0, 1) := by decide +kernel
theorem dX5_begin_57 : decode cX5_begin 57 = .ok (.getfield 36, 3) := by decide +kernel
theorem dX5_begin_60 : decode cX5_begin 60 = .ok (.iconst 0, 1) := by decide +kernel
theorem dX5_begin_61 : decode cX5_begin 61 = .ok (.invokestatic 103, 3) := by decide +kernel
theorem dX5_begin_64 : decode cX5_begin 64 = .ok (.iconst 0, 1) := by decide +kernel
theorem dX5_begin_65 : decode cX5_begin 65 = .ok (.istore 4, 2) := by decide +kernel
theorem dX5_begin_67 : decode cX5_begin 67 = .ok (.iload 4, 2) := by decide +kernel
theorem dX5_begin_69 : decode cX5_begin 69 = .ok (.bipush 8, 2) := by decide +kernel
theorem dX5_begin_71 : decode cX5_begin 71 = .ok (.if_icmp .ge 20, 3) := by decide +kernel
theorem dX5_begin_74 : decode cX5_begin 74 = .ok (.aload_n 0, 1) := by decide +kernel
theorem dX5_begin_75 : decode cX5_begin 75 = .ok (.getfield 41, 3) := by decide +kernel
theorem dX5_begin_78 : decode cX5_begin 78 = .ok (.iload 4, 2) := by decide +kernel
theorem dX5_begin_80 : decode cX5_begin 80 = .ok (.aaload, 1) := by decide +kernel
theorem dX5_begin_81 : decode cX5_begin 81 = .ok (.iconst 0, 1) := by decide +kernel
theorem dX5_begin_82 : decode cX5_begin 82 = .ok (.invokestatic 103, 3) := by decide +kernel
theorem dX5_begin_85 : decode cX5_begin 85 = .ok (.iinc 4 1, 3) := by decide +kernel
theorem dX5_begin_88 : decode cX5_begin 88 = .ok (.goto (-21), 3) := by decide +kernel
theorem dX5_begin_91 : decode cX5_begin 91 = .ok (.aload_n 0, 1) := by decide +kernel
theorem dX5_begin_92 : decode cX5_begin 92 = .ok (.iconst 0, 1) := by decide +kernel
theorem dX5_begin_93 : decode cX5_begin 93 = .ok (.putfield 44, 3) := by decide +kernel
theorem dX5_begin_96 : decode cX5_begin 96 = .ok (.aload_n 0, 1) := by decide +kernel
theorem dX5_begin_97 : decode cX5_begin 97 = .ok (.iconst 0, 1) := by decide +kernel
theorem dX5_begin_98 : decode cX5_begin 98 = .ok (.putfield 48, 3) := by decide +kernel
theorem dX5_begin_101 : decode cX5_begin 101 = .ok (.aload_n 0, 1) := by decide +kernel
theorem dX5_begin_102 : decode cX5_begin 102 = .ok (.iconst 0, 1) := by decide +kernel
theorem dX5_begin_103 : decode cX5_begin 103 = .ok (.putfield 51, 3) := by decide +kernel
theorem dX5_begin_106 : decode cX5_begin 106 = .ok (.aload_n 0, 1) := by decide +kernel
theorem dX5_begin_107 : decode cX5_begin 107 = .ok (.iconst 0, 1) := by decide +kernel
theorem dX5_begin_108 : decode cX5_begin 108 = .ok (.putfield 54, 3) := by decide +kernel
theorem dX5_begin_111 : decode cX5_begin 111 = .ok (.aload_n 0, 1) := by decide +kernel
theorem dX5_begin_112 : decode cX5_begin 112 = .ok (.iconst 0, 1) := by decide +kernel
theorem dX5_begin_113 : decode cX5_begin 113 = .ok (.putfield 57, 3) := by decide +kernel
theorem dX5_begin_116 : decode cX5_begin 116 = .ok (.aload_n 0, 1) := by decide +kernel
theorem dX5_begin_117 : decode cX5_begin 117 = .ok (.getfield 60, 3) := by decide +kernel
theorem dX5_begin_120 : decode cX5_begin 120 = .ok (.iconst 0, 1) := by decide +kernel
theorem dX5_begin_121 : decode cX5_begin 121 = .ok (.iconst 0, 1) := by decide +kernel
theorem dX5_begin_122 : decode cX5_begin 122 = .ok (.iastore, 1) := by decide +kernel
theorem dX5_begin_123 : decode cX5_begin 123 = .ok (.aload_n 0, 1) := by decide +kernel
theorem dX5_begin_124 : decode cX5_begin 124 = .ok (.getfield 63, 3) := by decide +kernel
theorem dX5_begin_127 : decode cX5_begin 127 = .ok (.iconst 0, 1) := by decide +kernel
theorem dX5_begin_128 : decode cX5_begin 128 = .ok (.iload_n 2, 1) := by decide +kernel
theorem dX5_begin_129 : decode cX5_begin 129 = .ok (.iastore, 1) := by decide +kernel
theorem dX5_begin_130 : decode cX5_begin 130 = .ok (.aload_n 0, 1) := by decide +kernel
theorem dX5_begin_131 : decode cX5_begin 131 = .ok (.iconst 1, 1) := by decide +kernel
theorem dX5_begin_132 : decode cX5_begin 132 = .ok (.putfield 66, 3) := by decide +kernel
theorem dX5_begin_135 : decode cX5_begin 135 = .ok (.return_, 1) := by decide +kernel
theorem dX5_changeWay_0 : decode cX5_changeWay 0 = .ok (.aload_n 0, 1) := by decide +kernel
theorem dX5_changeWay_1 : decode cX5_changeWay 1 = .ok (.getfield 60, 3) := by decide +kernel
theorem dX5_changeWay_4 : decode cX5_changeWay 4 = .ok (.aload_n 0, 1) := by decide +kernel
theorem dX5_changeWay_5 : decode cX5_changeWay 5 = .ok (.getfield 66, 3) := by decide +kernel
theorem dX5_changeWay_8 : decode cX5_changeWay 8 = .ok (.aload_n 0, 1) := by decide +kernel
theorem dX5_changeWay_9 : decode cX5_changeWay 9 = .ok (.invokevirtual 109, 3) := by decide +kernel
theorem dX5_changeWay_12 : decode cX5_changeWay 12 = .ok (.iconst 1, 1) := by decide +kernel
theorem dX5_changeWay_13 : decode cX5_changeWay 13 = .ok (.iadd, 1) := by decide +kernel
theorem dX5_changeWay_14 : decode cX5_changeWay 14 = .ok (.iastore, 1) := by decide +kernel
theorem dX5_changeWay_15 : decode cX5_changeWay 15 = .ok (.aload_n 0, 1) := by decide +kernel
theorem dX5_changeWay_16 : decode cX5_changeWay 16 = .ok (.getfield 63, 3) := by decide +kernel
theorem dX5_changeWay_19 : decode cX5_changeWay 19 = .ok (.aload_n 0, 1) := by decide +kernel
theorem dX5_changeWay_20 : decode cX5_changeWay 20 = .ok (.getfield 66, 3) := by decide +kernel
theorem dX5_changeWay_23 : decode cX5_changeWay 23 = .ok (.iload_n 1, 1) := by decide +kernel
theorem dX5_changeWay_24 : decode cX5_changeWay 24 = .ok (.iastore, 1) := by decide +kernel
theorem dX5_changeWay_25 : decode cX5_changeWay 25 = .ok (.aload_n 0, 1) := by decide +kernel
theorem dX5_changeWay_26 : decode cX5_changeWay 26 = .ok (.dup, 1) := by decide +kernel
theorem dX5_changeWay_27 : decode cX5_changeWay 27 = .ok (.getfield 66, 3) := by decide +kernel
theorem dX5_changeWay_30 : decode cX5_changeWay 30 = .ok (.iconst 1, 1) := by decide +kernel
theorem dX5_changeWay_31 : decode cX5_changeWay 31 = .ok (.iadd, 1) := by decide +kernel
theorem dX5_changeWay_32 : decode cX5_changeWay 32 = .ok (.putfield 66, 3) := by decide +kernel
theorem dX5_changeWay_35 : decode cX5_changeWay 35 = .ok (.aload_n 0, 1) := by decide +kernel
theorem dX5_changeWay_36 : decode cX5_changeWay 36 = .ok (.getfield 60, 3) := by decide +kernel
theorem dX5_changeWay_39 : decode cX5_changeWay 39 = .ok (.aload_n 0, 1) := by decide +kernel
theorem dX5_changeWay_40 : decode cX5_changeWay 40 = .ok (.getfield 66, 3) := by decide +kernel
theorem dX5_changeWay_43 : decode cX5_changeWay 43 = .ok (.iconst 1, 1) := by decide +kernel
theorem dX5_changeWay_44 : decode cX5_changeWay 44 = .ok (.isub, 1) := by decide +kernel
theorem dX5_changeWay_45 : decode cX5_changeWay 45 = .ok (.iaload, 1) := by decide +kernel
theorem dX5_changeWay_46 : decode cX5_changeWay 46 = .ok (.ireturn, 1) := by decide +kernel
theorem dX5_greatestRound_0 : decode cX5_greatestRound 0 = .ok (.iconst 0, 1) := by decide +kernel
theorem dX5_greatestRound_1 : decode cX5_greatestRound 1 = .ok (.istore_n 1, 1) := by decide +kernel
theorem dX5_greatestRound_2 : decode cX5_greatestRound 2 = .ok (.iconst 0, 1) := by decide +kernel
theorem dX5_greatestRound_3 : decode cX5_greatestRound 3 = .ok (.istore_n 2, 1) := by decide +kernel
theorem dX5_greatestRound_4 : decode cX5_greatestRound 4 = .ok (.iload_n 2, 1) := by decide +kernel
theorem dX5_greatestRound_5 : decode cX5_greatestRound 5 = .ok (.aload_n 0, 1) := by decide +kernel
theorem dX5_greatestRound_6 : decode cX5_greatestRound 6 = .ok (.getfield 69, 3) := by decide +kernel
theorem dX5_greatestRound_9 : decode cX5_greatestRound 9 = .ok (.getfield 112, 3) := by decide +kernel
theorem dX5_greatestRound_12 : decode cX5_greatestRound 12 = .ok (.if_icmp .ge 20, 3) := by decide +kernel
theorem dX5_greatestRound_15 : decode cX5_greatestRound 15 = .ok (.iload_n 1, 1) := by decide +kernel
theorem dX5_greatestRound_16 : decode cX5_greatestRound 16 = .ok (.aload_n 0, 1) := by decide +kernel
theorem dX5_greatestRound_17 : decode cX5_greatestRound 17 = .ok (.getfield 32, 3) := by decide +kernel
theorem dX5_greatestRound_20 : decode cX5_greatestRound 20 = .ok (.iload_n 2, 1) := by decide +kernel
theorem dX5_greatestRound_21 : decode cX5_greatestRound 21 = .ok (.iaload, 1) := by decide +kernel
theorem dX5_greatestRound_22 : decode cX5_greatestRound 22 = .ok (.invokestatic 115, 3) := by decide +kernel
theorem dX5_greatestRound_25 : decode cX5_greatestRound 25 = .ok (.istore_n 1, 1) := by decide +kernel
theorem dX5_greatestRound_26 : decode cX5_greatestRound 26 = .ok (.iinc 2 1, 3) := by decide +kernel
theorem dX5_greatestRound_29 : decode cX5_greatestRound 29 = .ok (.goto (-25), 3) := by decide +kernel
theorem dX5_greatestRound_32 : decode cX5_greatestRound 32 = .ok (.iload_n 1, 1) := by decide +kernel
theorem dX5_greatestRound_33 : decode cX5_greatestRound 33 = .ok (.ireturn, 1) := by decide +kernel
theorem dX5_wayOutOf_0 : decode cX5_wayOutOf 0 = .ok (.aload_n 0, 1) := by decide +kernel
theorem dX5_wayOutOf_1 : decode cX5_wayOutOf 1 = .ok (.getfield 66, 3) := by decide +kernel
theorem dX5_wayOutOf_4 : decode cX5_wayOutOf 4 = .ok (.iconst 1, 1) := by decide +kernel
theorem dX5_wayOutOf_5 : decode cX5_wayOutOf 5 = .ok (.isub, 1) := by decide +kernel
theorem dX5_wayOutOf_6 : decode cX5_wayOutOf 6 = .ok (.istore_n 2, 1) := by decide +kernel
theorem dX5_wayOutOf_7 : decode cX5_wayOutOf 7 = .ok (.iload_n 2, 1) := by decide +kernel
theorem dX5_wayOutOf_8 : decode cX5_wayOutOf 8 = .ok (.ifCond .le 26, 3) := by decide +kernel
theorem dX5_wayOutOf_11 : decode cX5_wayOutOf 11 = .ok (.aload_n 0, 1) := by decide +kernel
theorem dX5_wayOutOf_12 : decode cX5_wayOutOf 12 = .ok (.getfield 60, 3) := by decide +kernel
theorem dX5_wayOutOf_15 : decode cX5_wayOutOf 15 = .ok (.iload_n 2, 1) := by decide +kernel
theorem dX5_wayOutOf_16 : decode cX5_wayOutOf 16 = .ok (.iaload, 1) := by decide +kernel
theorem dX5_wayOutOf_17 : decode cX5_wayOutOf 17 = .ok (.iload_n 1, 1) := by decide +kernel
theorem dX5_wayOutOf_18 : decode cX5_wayOutOf 18 = .ok (.if_icmp .gt 10, 3) := by decide +kernel
theorem dX5_wayOutOf_21 : decode cX5_wayOutOf 21 = .ok (.aload_n 0, 1) := by decide +kernel
theorem dX5_wayOutOf_22 : decode cX5_wayOutOf 22 = .ok (.getfield 63, 3) := by decide +kernel
theorem dX5_wayOutOf_25 : decode cX5_wayOutOf 25 = .ok (.iload_n 2, 1) := by decide +kernel
theorem dX5_wayOutOf_26 : decode cX5_wayOutOf 26 = .ok (.iaload, 1) := by decide +kernel
theorem dX5_wayOutOf_27 : decode cX5_wayOutOf 27 = .ok (.ireturn, 1) := by decide +kernel
theorem dX5_wayOutOf_28 : decode cX5_wayOutOf 28 = .ok (.iinc 2 (-1), 3) := by decide +kernel
theorem dX5_wayOutOf_31 : decode cX5_wayOutOf 31 = .ok (.goto (-24), 3) := by decide +kernel
theorem dX5_wayOutOf_34 : decode cX5_wayOutOf 34 = .ok (.aload_n 0, 1) := by decide +kernel
theorem dX5_wayOutOf_35 : decode cX5_wayOutOf 35 = .ok (.getfield 63, 3) := by decide +kernel
theorem dX5_wayOutOf_38 : decode cX5_wayOutOf 38 = .ok (.iconst 0, 1) := by decide +kernel
theorem dX5_wayOutOf_39 : decode cX5_wayOutOf 39 = .ok (.iaload, 1) := by decide +kernel
theorem dX5_wayOutOf_40 : decode cX5_wayOutOf 40 = .ok (.ireturn, 1) := by decide +kernel
theorem dX5_handOver_0 : decode cX5_handOver 0 = .ok (.aload_n 0, 1) := by decide +kernel
theorem dX5_handOver_1 : decode cX5_handOver 1 = .ok (.getfield 12, 3) := by decide +kernel
theorem dX5_handOver_4 : decode cX5_handOver 4 = .ok (.getfield 121, 3) := by decide +kernel
theorem dX5_handOver_7 : decode cX5_handOver 7 = .ok (.iconst 0, 1) := by decide +kernel
theorem dX5_handOver_8 : decode cX5_handOver 8 = .ok (.aaload, 1) := by decide +kernel
theorem dX5_handOver_9 : decode cX5_handOver 9 = .ok (.iload_n 1, 1) := by decide +kernel
theorem dX5_handOver_10 : decode cX5_handOver 10 = .ok (.iaload, 1) := by decide +kernel
theorem dX5_handOver_11 : decode cX5_handOver 11 = .ok (.istore_n 2, 1) := by decide +kernel
theorem dX5_handOver_12 : decode cX5_handOver 12 = .ok (.aload_n 0, 1) := by decide +kernel
theorem dX5_handOver_13 : decode cX5_handOver 13 = .ok (.getfield 12, 3) := by decide +kernel
theorem dX5_handOver_16 : decode cX5_handOver 16 = .ok (.getfield 121, 3) := by decide +kernel
theorem dX5_handOver_19 : decode cX5_handOver 19 = .ok (.iconst 1, 1) := by decide +kernel
theorem dX5_handOver_20 : decode cX5_handOver 20 = .ok (.aaload, 1) := by decide +kernel
theorem dX5_handOver_21 : decode cX5_handOver 21 = .ok (.iload_n 1, 1) := by decide +kernel
theorem dX5_handOver_22 : decode cX5_handOver 22 = .ok (.iaload, 1) := by decide +kernel
theorem dX5_handOver_23 : decode cX5_handOver 23 = .ok (.istore_n 3, 1) := by decide +kernel
theorem dX5_handOver_24 : decode cX5_handOver 24 = .ok (.aload_n 0, 1) := by decide +kernel
theorem dX5_handOver_25 : decode cX5_handOver 25 = .ok (.getfield 12, 3) := by decide +kernel
theorem dX5_handOver_28 : decode cX5_handOver 28 = .ok (.getfield 121, 3) := by decide +kernel
theorem dX5_handOver_31 : decode cX5_handOver 31 = .ok (.iconst 2, 1) := by decide +kernel
theorem dX5_handOver_32 : decode cX5_handOver 32 = .ok (.aaload, 1) := by decide +kernel
theorem dX5_handOver_33 : decode cX5_handOver 33 = .ok (.iload_n 1, 1) := by decide +kernel
theorem dX5_handOver_34 : decode cX5_handOver 34 = .ok (.iaload, 1) := by decide +kernel
theorem dX5_handOver_35 : decode cX5_handOver 35 = .ok (.istore 4, 2) := by decide +kernel
theorem dX5_handOver_37 : decode cX5_handOver 37 = .ok (.aload_n 0, 1) := by decide +kernel
theorem dX5_handOver_38 : decode cX5_handOver 38 = .ok (.getfield 12, 3) := by decide +kernel
theorem dX5_handOver_41 : decode cX5_handOver 41 = .ok (.getfield 121, 3) := by decide +kernel
theorem dX5_handOver_44 : decode cX5_handOver 44 = .ok (.iconst 3, 1) := by decide +kernel
theorem dX5_handOver_45 : decode cX5_handOver 45 = .ok (.aaload, 1) := by decide +kernel
theorem dX5_handOver_46 : decode cX5_handOver 46 = .ok (.iload_n 1, 1) := by decide +kernel
theorem dX5_handOver_47 : decode cX5_handOver 47 = .ok (.iaload, 1) := by decide +kernel
theorem dX5_handOver_48 : decode cX5_handOver 48 = .ok (.istore 5, 2) := by decide +kernel
theorem dX5_handOver_50 : decode cX5_handOver 50 = .ok (.aload_n 0, 1) := by decide +kernel
theorem dX5_handOver_51 : decode cX5_handOver 51 = .ok (.getfield 12, 3) := by decide +kernel
theorem dX5_handOver_54 : decode cX5_handOver 54 = .ok (.getfield 121, 3) := by decide +kernel
theorem dX5_handOver_57 : decode cX5_handOver 57 = .ok (.iconst 4, 1) := by decide +kernel
theorem dX5_handOver_58 : decode cX5_handOver 58 = .ok (.aaload, 1) := by decide +kernel
theorem dX5_handOver_59 : decode cX5_handOver 59 = .ok (.iload_n 1, 1) := by decide +kernel
theorem dX5_handOver_60 : decode cX5_handOver 60 = .ok (.iaload, 1) := by decide +kernel
theorem dX5_handOver_61 : decode cX5_handOver 61 = .ok (.istore 6, 2) := by decide +kernel
theorem dX5_handOver_63 : decode cX5_handOver 63 = .ok (.aload_n 0, 1) := by decide +kernel
theorem dX5_handOver_64 : decode cX5_handOver 64 = .ok (.getfield 12, 3) := by decide +kernel
theorem dX5_handOver_67 : decode cX5_handOver 67 = .ok (.iload_n 1, 1) := by decide +kernel
theorem dX5_handOver_68 : decode cX5_handOver 68 = .ok (.invokevirtual 124, 3) := by decide +kernel
theorem dX5_handOver_71 : decode cX5_handOver 71 = .ok (.iload_n 2, 1) := by decide +kernel
theorem dX5_handOver_72 : decode cX5_handOver 72 = .ok (.ifCond .ne 34, 3) := by decide +kernel
theorem dX5_handOver_75 : decode cX5_handOver 75 = .ok (.aload_n 0, 1) := by decide +kernel
theorem dX5_handOver_76 : decode cX5_handOver 76 = .ok (.getfield 78, 3) := by decide +kernel
theorem dX5_handOver_79 : decode cX5_handOver 79 = .ok (.iload 4, 2) := by decide +kernel
theorem dX5_handOver_81 : decode cX5_handOver 81 = .ok (.iload_n 3, 1) := by decide +kernel
theorem dX5_handOver_82 : decode cX5_handOver 82 = .ok (.iload 5, 2) := by decide +kernel
theorem dX5_handOver_84 : decode cX5_handOver 84 = .ok (.iload 6, 2) := by decide +kernel
theorem dX5_handOver_86 : decode cX5_handOver 86 = .ok (.invokevirtual 128, 3) := by decide +kernel
theorem dX5_handOver_89 : decode cX5_handOver 89 = .ok (.aload_n 0, 1) := by decide +kernel
theorem dX5_handOver_90 : decode cX5_handOver 90 = .ok (.getfield 12, 3) := by decide +kernel
theorem dX5_handOver_93 : decode cX5_handOver 93 = .ok (.iconst 1, 1) := by decide +kernel
theorem dX5_handOver_94 : decode cX5_handOver 94 = .ok (.iload 4, 2) := by decide +kernel
theorem dX5_handOver_96 : decode cX5_handOver 96 = .ok (.iload_n 3, 1) := by decide +kernel
theorem dX5_handOver_97 : decode cX5_handOver 97 = .ok (.iload 5, 2) := by decide +kernel
theorem dX5_handOver_99 : decode cX5_handOver 99 = .ok (.iconst 0, 1) := by decide +kernel
theorem dX5_handOver_100 : decode cX5_handOver 100 = .ok (.invokevirtual 132, 3) := by decide +kernel
theorem dX5_handOver_103 : decode cX5_handOver 103 = .ok (.goto 42, 3) := by decide +kernel
theorem dX5_handOver_106 : decode cX5_handOver 106 = .ok (.iload_n 2, 1) := by decide +kernel
theorem dX5_handOver_107 : decode cX5_handOver 107 = .ok (.iconst 1, 1) := by decide +kernel
theorem dX5_handOver_108 : decode cX5_handOver 108 = .ok (.if_icmp .ne 17, 3) := by decide +kernel
theorem dX5_handOver_111 : decode cX5_handOver 111 = .ok (.aload_n 0, 1) := by decide +kernel
theorem dX5_handOver_112 : decode cX5_handOver 112 = .ok (.getfield 36, 3) := by decide +kernel
theorem dX5_handOver_115 : decode cX5_handOver 115 = .ok (.iload 4, 2) := by decide +kernel
theorem dX5_handOver_117 : decode cX5_handOver 117 = .ok (.dup2, 1) := by decide +kernel
theorem dX5_handOver_118 : decode cX5_handOver 118 = .ok (.iaload, 1) := by decide +kernel
theorem dX5_handOver_119 : decode cX5_handOver 119 = .ok (.iconst 1, 1) := by decide +kernel
theorem dX5_handOver_120 : decode cX5_handOver 120 = .ok (.isub, 1) := by decide +kernel
theorem dX5_handOver_121 : decode cX5_handOver 121 = .ok (.iastore, 1) := by decide +kernel
theorem dX5_handOver_122 : decode cX5_handOver 122 = .ok (.goto 23, 3) := by decide +kernel
theorem dX5_handOver_125 : decode cX5_handOver 125 = .ok (.aload_n 0, 1) := by decide +kernel
theorem dX5_handOver_126 : decode cX5_handOver 126 = .ok (.getfield 41, 3) := by decide +kernel
theorem dX5_handOver_129 : decode cX5_handOver 129 = .ok (.iload_n 2, 1) := by decide +kernel
theorem dX5_handOver_130 : decode cX5_handOver 130 = .ok (.aaload, 1) := by decide +kernel
theorem dX5_handOver_131 : decode cX5_handOver 131 = .ok (.iload 4, 2) := by decide +kernel
theorem dX5_handOver_133 : decode cX5_handOver 133 = .ok (.iload 5, 2) := by decide +kernel
theorem dX5_handOver_135 : decode cX5_handOver 135 = .ok (.invokestatic 136, 3) := by decide +kernel
theorem dX5_handOver_138 : decode cX5_handOver 138 = .ok (.dup2, 1) := by decide +kernel
theorem dX5_handOver_139 : decode cX5_handOver 139 = .ok (.iaload, 1) := by decide +kernel
theorem dX5_handOver_140 : decode cX5_handOver 140 = .ok (.iconst 1, 1) := by decide +kernel
theorem dX5_handOver_141 : decode cX5_handOver 141 = .ok (.iload_n 3, 1) := by decide +kernel
theorem dX5_handOver_142 : decode cX5_handOver 142 = .ok (.ishl, 1) := by decide +kernel
theorem dX5_handOver_143 : decode cX5_handOver 143 = .ok (.ior, 1) := by decide +kernel
theorem dX5_handOver_144 : decode cX5_handOver 144 = .ok (.iastore, 1) := by decide +kernel
theorem dX5_handOver_145 : decode cX5_handOver 145 = .ok (.aload_n 0, 1) := by decide +kernel
theorem dX5_handOver_146 : decode cX5_handOver 146 = .ok (.iload 4, 2) := by decide +kernel
theorem dX5_handOver_148 : decode cX5_handOver 148 = .ok (.invokevirtual 139, 3) := by decide +kernel
theorem dX5_handOver_151 : decode cX5_handOver 151 = .ok (.iload_n 2, 1) := by decide +kernel
theorem dX5_handOver_152 : decode cX5_handOver 152 = .ok (.ireturn, 1) := by decide +kernel
theorem dX5_boxOf_0 : decode cX5_boxOf 0 = .ok (.iload_n 1, 1) := by decide +kernel
theorem dX5_boxOf_1 : decode cX5_boxOf 1 = .ok (.iconst 1, 1) := by decide +kernel
theorem dX5_boxOf_2 : decode cX5_boxOf 2 = .ok (.iand, 1) := by decide +kernel
theorem dX5_boxOf_3 : decode cX5_boxOf 3 = .ok (.bipush 24, 2) := by decide +kernel
theorem dX5_boxOf_5 : decode cX5_boxOf 5 = .ok (.imul, 1) := by decide +kernel
theorem dX5_boxOf_6 : decode cX5_boxOf 6 = .ok (.iload_n 0, 1) := by decide +kernel
theorem dX5_boxOf_7 : decode cX5_boxOf 7 = .ok (.iadd, 1) := by decide +kernel
theorem dX5_boxOf_8 : decode cX5_boxOf 8 = .ok (.ireturn, 1) := by decide +kernel
theorem dX5_carryOn_0 : decode cX5_carryOn 0 = .ok (.iconst 0, 1) := by decide +kernel
theorem dX5_carryOn_1 : decode cX5_carryOn 1 = .ok (.istore_n 2, 1) := by decide +kernel
theorem dX5_carryOn_2 : decode cX5_carryOn 2 = .ok (.iload_n 2, 1) := by decide +kernel
theorem dX5_carryOn_3 : decode cX5_carryOn 3 = .ok (.ldc 142, 2) := by decide +kernel
theorem dX5_carryOn_5 : decode cX5_carryOn 5 = .ok (.if_icmp .ge 78, 3) := by decide +kernel
theorem dX5_carryOn_8 : decode cX5_carryOn 8 = .ok (.aload_n 0, 1) := by decide +kernel
theorem dX5_carryOn_9 : decode cX5_carryOn 9 = .ok (.aload_n 0, 1) := by decide +kernel
theorem dX5_carryOn_10 : decode cX5_carryOn 10 = .ok (.getfield 32, 3) := by decide +kernel
theorem dX5_carryOn_13 : decode cX5_carryOn 13 = .ok (.iload_n 1, 1) := by decide +kernel
theorem dX5_carryOn_14 : decode cX5_carryOn 14 = .ok (.iaload, 1) := by decide +kernel
theorem dX5_carryOn_15 : decode cX5_carryOn 15 = .ok (.invokevirtual 143, 3) := by decide +kernel
theorem dX5_carryOn_18 : decode cX5_carryOn 18 = .ok (.istore_n 3, 1) := by decide +kernel
theorem dX5_carryOn_19 : decode cX5_carryOn 19 = .ok (.aload_n 0, 1) := by decide +kernel
theorem dX5_carryOn_20 : decode cX5_carryOn 20 = .ok (.iload_n 1, 1) := by decide +kernel
theorem dX5_carryOn_21 : decode cX5_carryOn 21 = .ok (.iload_n 3, 1) := by decide +kernel
theorem dX5_carryOn_22 : decode cX5_carryOn 22 = .ok (.invokevirtual 147, 3) := by decide +kernel
theorem dX5_carryOn_25 : decode cX5_carryOn 25 = .ok (.istore 4, 2) := by decide +kernel
theorem dX5_carryOn_27 : decode cX5_carryOn 27 = .ok (.iload 4, 2) := by decide +kernel
theorem dX5_carryOn_29 : decode cX5_carryOn 29 = .ok (.ifCond .ne 4, 3) := by decide +kernel
theorem dX5_carryOn_32 : decode cX5_carryOn 32 = .ok (.return_, 1) := by decide +kernel
theorem dX5_carryOn_33 : decode cX5_carryOn 33 = .ok (.aload_n 0, 1) := by decide +kernel
theorem dX5_carryOn_34 : decode cX5_carryOn 34 = .ok (.iload 4, 2) := by decide +kernel
theorem dX5_carryOn_36 : decode cX5_carryOn 36 = .ok (.iload_n 1, 1) := by decide +kernel
theorem dX5_carryOn_37 : decode cX5_carryOn 37 = .ok (.iload_n 3, 1) := by decide +kernel
theorem dX5_carryOn_38 : decode cX5_carryOn 38 = .ok (.iconst 2, 1) := by decide +kernel
theorem dX5_carryOn_39 : decode cX5_carryOn 39 = .ok (.if_icmp .ne 13, 3) := by decide +kernel
theorem dX5_carryOn_42 : decode cX5_carryOn 42 = .ok (.aload_n 0, 1) := by decide +kernel
theorem dX5_carryOn_43 : decode cX5_carryOn 43 = .ok (.getfield 28, 3) := by decide +kernel
theorem dX5_carryOn_46 : decode cX5_carryOn 46 = .ok (.getfield 150, 3) := by decide +kernel
theorem dX5_carryOn_49 : decode cX5_carryOn 49 = .ok (.goto 7, 3) := by decide +kernel
theorem dX5_carryOn_52 : decode cX5_carryOn 52 = .ok (.aload_n 0, 1) := by decide +kernel
theorem dX5_carryOn_53 : decode cX5_carryOn 53 = .ok (.getfield 21, 3) := by decide +kernel
theorem dX5_carryOn_56 : decode cX5_carryOn 56 = .ok (.invokevirtual 153, 3) := by decide +kernel
theorem dX5_carryOn_59 : decode cX5_carryOn 59 = .ok (.iload 4, 2) := by decide +kernel
theorem dX5_carryOn_61 : decode cX5_carryOn 61 = .ok (.iconst 5, 1) := by decide +kernel
theorem dX5_carryOn_62 : decode cX5_carryOn 62 = .ok (.if_icmp .eq 10, 3) := by decide +kernel
theorem dX5_carryOn_65 : decode cX5_carryOn 65 = .ok (.iload 4, 2) := by decide +kernel
theorem dX5_carryOn_67 : decode cX5_carryOn 67 = .ok (.bipush 6, 2) := by decide +kernel
theorem dX5_carryOn_69 : decode cX5_carryOn 69 = .ok (.if_icmp .ne 8, 3) := by decide +kernel
theorem dX5_carryOn_72 : decode cX5_carryOn 72 = .ok (.aload_n 0, 1) := by decide +kernel
theorem dX5_carryOn_73 : decode cX5_carryOn 73 = .ok (.iload_n 1, 1) := by decide +kernel
theorem dX5_carryOn_74 : decode cX5_carryOn 74 = .ok (.invokevirtual 157, 3) := by decide +kernel
theorem dX5_carryOn_77 : decode cX5_carryOn 77 = .ok (.iinc 2 1, 3) := by decide +kernel
theorem dX5_carryOn_80 : decode cX5_carryOn 80 = .ok (.goto (-78), 3) := by decide +kernel
theorem dX5_carryOn_83 : decode cX5_carryOn 83 = .ok (.return_, 1) := by decide +kernel
theorem dX5_nextDeed_0 : decode cX5_nextDeed 0 = .ok (.iload_n 2, 1) := by decide +kernel
theorem dX5_nextDeed_1 : decode cX5_nextDeed 1 = .ok (.lookupswitch 39 #[(0, 27), (1, 33)], 27) := by decide +kernel
theorem dX5_nextDeed_28 : decode cX5_nextDeed 28 = .ok (.aload_n 0, 1) := by decide +kernel
theorem dX5_nextDeed_29 : decode cX5_nextDeed 29 = .ok (.iload_n 1, 1) := by decide +kernel
theorem dX5_nextDeed_30 : decode cX5_nextDeed 30 = .ok (.invokevirtual 160, 3) := by decide +kernel
theorem dX5_nextDeed_33 : decode cX5_nextDeed 33 = .ok (.ireturn, 1) := by decide +kernel
theorem dX5_nextDeed_34 : decode cX5_nextDeed 34 = .ok (.aload_n 0, 1) := by decide +kernel
theorem dX5_nextDeed_35 : decode cX5_nextDeed 35 = .ok (.iload_n 1, 1) := by decide +kernel
theorem dX5_nextDeed_36 : decode cX5_nextDeed 36 = .ok (.invokevirtual 163, 3) := by decide +kernel
theorem dX5_nextDeed_39 : decode cX5_nextDeed 39 = .ok (.ireturn, 1) := by decide +kernel
theorem dX5_nextDeed_40 : decode cX5_nextDeed 40 = .ok (.aload_n 0, 1) := by decide +kernel
theorem dX5_nextDeed_41 : decode cX5_nextDeed 41 = .ok (.iload_n 1, 1) := by decide +kernel
theorem dX5_nextDeed_42 : decode cX5_nextDeed 42 = .ok (.invokevirtual 166, 3) := by decide +kernel
theorem dX5_nextDeed_45 : decode cX5_nextDeed 45 = .ok (.ireturn, 1) := by decide +kernel
theorem dX5_nextByNodes_0 : decode cX5_nextByNodes 0 = .ok (.aload_n 0, 1) := by decide +kernel
theorem dX5_nextByNodes_1 : decode cX5_nextByNodes 1 = .ok (.iload_n 1, 1) := by decide +kernel
theorem dX5_nextByNodes_2 : decode cX5_nextByNodes 2 = .ok (.invokevirtual 169, 3) := by decide +kernel
theorem dX5_nextByNodes_5 : decode cX5_nextByNodes 5 = .ok (.ifCond .eq 5, 3) := by decide +kernel
theorem dX5_nextByNodes_8 : decode cX5_nextByNodes 8 = .ok (.iconst 1, 1) := by decide +kernel
theorem dX5_nextByNodes_9 : decode cX5_nextByNodes 9 = .ok (.ireturn, 1) := by decide +kernel
theorem dX5_nextByNodes_10 : decode cX5_nextByNodes 10 = .ok (.aload_n 0, 1) := by decide +kernel
theorem dX5_nextByNodes_11 : decode cX5_nextByNodes 11 = .ok (.getfield 44, 3) := by decide +kernel
theorem dX5_nextByNodes_14 : decode cX5_nextByNodes 14 = .ok (.iload_n 1, 1) := by decide +kernel
theorem dX5_nextByNodes_15 : decode cX5_nextByNodes 15 = .ok (.invokestatic 173, 3) := by decide +kernel
theorem dX5_nextByNodes_18 : decode cX5_nextByNodes 18 = .ok (.ifCond .eq 25, 3) := by decide +kernel
theorem dX5_nextByNodes_21 : decode cX5_nextByNodes 21 = .ok (.aload_n 0, 1) := by decide +kernel
theorem dX5_nextByNodes_22 : decode cX5_nextByNodes 22 = .ok (.iload_n 1, 1) := by decide +kernel
theorem dX5_nextByNodes_23 : decode cX5_nextByNodes 23 = .ok (.iconst 2, 1) := by decide +kernel
theorem dX5_nextByNodes_24 : decode cX5_nextByNodes 24 = .ok (.invokevirtual 177, 3) := by decide +kernel
theorem dX5_nextByNodes_27 : decode cX5_nextByNodes 27 = .ok (.aload_n 0, 1) := by decide +kernel
theorem dX5_nextByNodes_28 : decode cX5_nextByNodes 28 = .ok (.getfield 69, 3) := by decide +kernel
theorem dX5_nextByNodes_31 : decode cX5_nextByNodes 31 = .ok (.getfield 180, 3) := by decide +kernel
theorem dX5_nextByNodes_34 : decode cX5_nextByNodes 34 = .ok (.iload_n 1, 1) := by decide +kernel
theorem dX5_nextByNodes_35 : decode cX5_nextByNodes 35 = .ok (.iaload, 1) := by decide +kernel
theorem dX5_nextByNodes_36 : decode cX5_nextByNodes 36 = .ok (.if_icmp .ne 7, 3) := by decide +kernel
theorem dX5_nextByNodes_39 : decode cX5_nextByNodes 39 = .ok (.iconst 1, 1) := by decide +kernel
theorem dX5_nextByNodes_40 : decode cX5_nextByNodes 40 = .ok (.goto 4, 3) := by decide +kernel
theorem dX5_nextByNodes_43 : decode cX5_nextByNodes 43 = .ok (.iconst 0, 1) := by decide +kernel
theorem dX5_nextByNodes_44 : decode cX5_nextByNodes 44 = .ok (.istore_n 2, 1) := by decide +kernel
theorem dX5_nextByNodes_45 : decode cX5_nextByNodes 45 = .ok (.iload_n 2, 1) := by decide +kernel
theorem dX5_nextByNodes_46 : decode cX5_nextByNodes 46 = .ok (.ifCond .eq 8, 3) := by decide +kernel
theorem dX5_nextByNodes_49 : decode cX5_nextByNodes 49 = .ok (.bipush 6, 2) := by decide +kernel
theorem dX5_nextByNodes_51 : decode cX5_nextByNodes 51 = .ok (.goto 4, 3) := by decide +kernel
theorem dX5_nextByNodes_54 : decode cX5_nextByNodes 54 = .ok (.iconst 0, 1) := by decide +kernel
theorem dX5_nextByNodes_55 : decode cX5_nextByNodes 55 = .ok (.ireturn, 1) := by decide +kernel
theorem dX5_nextByTree_0 : decode cX5_nextByTree 0 = .ok (.aload_n 0, 1) := by decide +kernel
theorem dX5_nextByTree_1 : decode cX5_nextByTree 1 = .ok (.iload_n 1, 1) := by decide +kernel
theorem dX5_nextByTree_2 : decode cX5_nextByTree 2 = .ok (.invokevirtual 169, 3) := by decide +kernel
theorem dX5_nextByTree_5 : decode cX5_nextByTree 5 = .ok (.ifCond .eq 39, 3) := by decide +kernel
theorem dX5_nextByTree_8 : decode cX5_nextByTree 8 = .ok (.aload_n 0, 1) := by decide +kernel
theorem dX5_nextByTree_9 : decode cX5_nextByTree 9 = .ok (.iload_n 1, 1) := by decide +kernel
theorem dX5_nextByTree_10 : decode cX5_nextByTree 10 = .ok (.iconst 3, 1) := by decide +kernel
theorem dX5_nextByTree_11 : decode cX5_nextByTree 11 = .ok (.invokevirtual 177, 3) := by decide +kernel
theorem dX5_nextByTree_14 : decode cX5_nextByTree 14 = .ok (.aload_n 0, 1) := by decide +kernel
theorem dX5_nextByTree_15 : decode cX5_nextByTree 15 = .ok (.getfield 21, 3) := by decide +kernel
theorem dX5_nextByTree_18 : decode cX5_nextByTree 18 = .ok (.getfield 183, 3) := by decide +kernel
theorem dX5_nextByTree_21 : decode cX5_nextByTree 21 = .ok (.iload_n 1, 1) := by decide +kernel
theorem dX5_nextByTree_22 : decode cX5_nextByTree 22 = .ok (.iaload, 1) := by decide +kernel
theorem dX5_nextByTree_23 : decode cX5_nextByTree 23 = .ok (.if_icmp .ne 21, 3) := by decide +kernel
theorem dX5_nextByTree_26 : decode cX5_nextByTree 26 = .ok (.aload_n 0, 1) := by decide +kernel
theorem dX5_nextByTree_27 : decode cX5_nextByTree 27 = .ok (.getfield 21, 3) := by decide +kernel
theorem dX5_nextByTree_30 : decode cX5_nextByTree 30 = .ok (.getfield 186, 3) := by decide +kernel
theorem dX5_nextByTree_33 : decode cX5_nextByTree 33 = .ok (.iload_n 1, 1) := by decide +kernel
theorem dX5_nextByTree_34 : decode cX5_nextByTree 34 = .ok (.iaload, 1) := by decide +kernel
theorem dX5_nextByTree_35 : decode cX5_nextByTree 35 = .ok (.ifCond .ge 7, 3) := by decide +kernel
theorem dX5_nextByTree_38 : decode cX5_nextByTree 38 = .ok (.iconst 5, 1) := by decide +kernel
theorem dX5_nextByTree_39 : decode cX5_nextByTree 39 = .ok (.goto 4, 3) := by decide +kernel
theorem dX5_nextByTree_42 : decode cX5_nextByTree 42 = .ok (.iconst 2, 1) := by decide +kernel
theorem dX5_nextByTree_43 : decode cX5_nextByTree 43 = .ok (.ireturn, 1) := by decide +kernel
theorem dX5_nextByTree_44 : decode cX5_nextByTree 44 = .ok (.aload_n 0, 1) := by decide +kernel
theorem dX5_nextByTree_45 : decode cX5_nextByTree 45 = .ok (.iload_n 1, 1) := by decide +kernel
theorem dX5_nextByTree_46 : decode cX5_nextByTree 46 = .ok (.iconst 4, 1) := by decide +kernel
theorem dX5_nextByTree_47 : decode cX5_nextByTree 47 = .ok (.invokevirtual 177, 3) := by decide +kernel
theorem dX5_nextByTree_50 : decode cX5_nextByTree 50 = .ok (.ifCond .eq 7, 3) := by decide +kernel
theorem dX5_nextByTree_53 : decode cX5_nextByTree 53 = .ok (.iconst 5, 1) := by decide +kernel
theorem dX5_nextByTree_54 : decode cX5_nextByTree 54 = .ok (.goto 4, 3) := by decide +kernel
theorem dX5_nextByTree_57 : decode cX5_nextByTree 57 = .ok (.iconst 0, 1) := by decide +kernel
theorem dX5_nextByTree_58 : decode cX5_nextByTree 58 = .ok (.ireturn, 1) := by decide +kernel
theorem dX5_nextByClusters_0 : decode cX5_nextByClusters 0 = .ok (.aload_n 0, 1) := by decide +kernel
theorem dX5_nextByClusters_1 : decode cX5_nextByClusters 1 = .ok (.getfield 28, 3) := by decide +kernel
theorem dX5_nextByClusters_4 : decode cX5_nextByClusters 4 = .ok (.getfield 150, 3) := by decide +kernel
theorem dX5_nextByClusters_7 : decode cX5_nextByClusters 7 = .ok (.getfield 183, 3) := by decide +kernel
theorem dX5_nextByClusters_10 : decode cX5_nextByClusters 10 = .ok (.iload_n 1, 1) := by decide +kernel
theorem dX5_nextByClusters_11 : decode cX5_nextByClusters 11 = .ok (.iaload, 1) := by decide +kernel
theorem dX5_nextByClusters_12 : decode cX5_nextByClusters 12 = .ok (.istore_n 2, 1) := by decide +kernel
theorem dX5_nextByClusters_13 : decode cX5_nextByClusters 13 = .ok (.aload_n 0, 1) := by decide +kernel
theorem dX5_nextByClusters_14 : decode cX5_nextByClusters 14 = .ok (.getfield 28, 3) := by decide +kernel
theorem dX5_nextByClusters_17 : decode cX5_nextByClusters 17 = .ok (.getfield 150, 3) := by decide +kernel
theorem dX5_nextByClusters_20 : decode cX5_nextByClusters 20 = .ok (.getfield 186, 3) := by decide +kernel
theorem dX5_nextByClusters_23 : decode cX5_nextByClusters 23 = .ok (.iload_n 1, 1) := by decide +kernel
theorem dX5_nextByClusters_24 : decode cX5_nextByClusters 24 = .ok (.iaload, 1) := by decide +kernel
theorem dX5_nextByClusters_25 : decode cX5_nextByClusters 25 = .ok (.ifCond .ge 7, 3) := by decide +kernel
theorem dX5_nextByClusters_28 : decode cX5_nextByClusters 28 = .ok (.iconst 1, 1) := by decide +kernel
theorem dX5_nextByClusters_29 : decode cX5_nextByClusters 29 = .ok (.goto 4, 3) := by decide +kernel
theorem dX5_nextByClusters_32 : decode cX5_nextByClusters 32 = .ok (.iconst 0, 1) := by decide +kernel
theorem dX5_nextByClusters_33 : decode cX5_nextByClusters 33 = .ok (.istore_n 3, 1) := by decide +kernel
theorem dX5_nextByClusters_34 : decode cX5_nextByClusters 34 = .ok (.aload_n 0, 1) := by decide +kernel
theorem dX5_nextByClusters_35 : decode cX5_nextByClusters 35 = .ok (.iload_n 1, 1) := by decide +kernel
theorem dX5_nextByClusters_36 : decode cX5_nextByClusters 36 = .ok (.invokevirtual 169, 3) := by decide +kernel
theorem dX5_nextByClusters_39 : decode cX5_nextByClusters 39 = .ok (.ifCond .eq 23, 3) := by decide +kernel
theorem dX5_nextByClusters_42 : decode cX5_nextByClusters 42 = .ok (.aload_n 0, 1) := by decide +kernel
theorem dX5_nextByClusters_43 : decode cX5_nextByClusters 43 = .ok (.iload_n 1, 1) := by decide +kernel
theorem dX5_nextByClusters_44 : decode cX5_nextByClusters 44 = .ok (.iconst 3, 1) := by decide +kernel
theorem dX5_nextByClusters_45 : decode cX5_nextByClusters 45 = .ok (.invokevirtual 177, 3) := by decide +kernel
theorem dX5_nextByClusters_48 : decode cX5_nextByClusters 48 = .ok (.iload_n 2, 1) := by decide +kernel
theorem dX5_nextByClusters_49 : decode cX5_nextByClusters 49 = .ok (.if_icmp .ne 13, 3) := by decide +kernel
theorem dX5_nextByClusters_52 : decode cX5_nextByClusters 52 = .ok (.iload_n 3, 1) := by decide +kernel
theorem dX5_nextByClusters_53 : decode cX5_nextByClusters 53 = .ok (.ifCond .eq 7, 3) := by decide +kernel
theorem dX5_nextByClusters_56 : decode cX5_nextByClusters 56 = .ok (.iconst 3, 1) := by decide +kernel
theorem dX5_nextByClusters_57 : decode cX5_nextByClusters 57 = .ok (.goto 4, 3) := by decide +kernel
theorem dX5_nextByClusters_60 : decode cX5_nextByClusters 60 = .ok (.iconst 2, 1) := by decide +kernel
theorem dX5_nextByClusters_61 : decode cX5_nextByClusters 61 = .ok (.ireturn, 1) := by decide +kernel
theorem dX5_nextByClusters_62 : decode cX5_nextByClusters 62 = .ok (.aload_n 0, 1) := by decide +kernel
theorem dX5_nextByClusters_63 : decode cX5_nextByClusters 63 = .ok (.getfield 48, 3) := by decide +kernel
theorem dX5_nextByClusters_66 : decode cX5_nextByClusters 66 = .ok (.iload_n 1, 1) := by decide +kernel
theorem dX5_nextByClusters_67 : decode cX5_nextByClusters 67 = .ok (.invokestatic 173, 3) := by decide +kernel
theorem dX5_nextByClusters_70 : decode cX5_nextByClusters 70 = .ok (.ifCond .ne 18, 3) := by decide +kernel
theorem dX5_nextByClusters_73 : decode cX5_nextByClusters 73 = .ok (.aload_n 0, 1) := by decide +kernel
theorem dX5_nextByClusters_74 : decode cX5_nextByClusters 74 = .ok (.iload_n 1, 1) := by decide +kernel
theorem dX5_nextByClusters_75 : decode cX5_nextByClusters 75 = .ok (.iconst 5, 1) := by decide +kernel
theorem dX5_nextByClusters_76 : decode cX5_nextByClusters 76 = .ok (.invokevirtual 177, 3) := by decide +kernel
theorem dX5_nextByClusters_79 : decode cX5_nextByClusters 79 = .ok (.ifCond .eq 7, 3) := by decide +kernel
theorem dX5_nextByClusters_82 : decode cX5_nextByClusters 82 = .ok (.iconst 3, 1) := by decide +kernel
theorem dX5_nextByClusters_83 : decode cX5_nextByClusters 83 = .ok (.goto 4, 3) := by decide +kernel
theorem dX5_nextByClusters_86 : decode cX5_nextByClusters 86 = .ok (.iconst 0, 1) := by decide +kernel
theorem dX5_nextByClusters_87 : decode cX5_nextByClusters 87 = .ok (.ireturn, 1) := by decide +kernel
theorem dX5_nextByClusters_88 : decode cX5_nextByClusters 88 = .ok (.aload_n 0, 1) := by decide +kernel
theorem dX5_nextByClusters_89 : decode cX5_nextByClusters 89 = .ok (.getfield 51, 3) := by decide +kernel
theorem dX5_nextByClusters_92 : decode cX5_nextByClusters 92 = .ok (.iload_n 1, 1) := by decide +kernel
theorem dX5_nextByClusters_93 : decode cX5_nextByClusters 93 = .ok (.invokestatic 173, 3) := by decide +kernel
theorem dX5_nextByClusters_96 : decode cX5_nextByClusters 96 = .ok (.ifCond .ne 43, 3) := by decide +kernel
theorem dX5_nextByClusters_99 : decode cX5_nextByClusters 99 = .ok (.aload_n 0, 1) := by decide +kernel
theorem dX5_nextByClusters_100 : decode cX5_nextByClusters 100 = .ok (.iload_n 1, 1) := by decide +kernel
theorem dX5_nextByClusters_101 : decode cX5_nextByClusters 101 = .ok (.bipush 7, 2) := by decide +kernel
theorem dX5_nextByClusters_103 : decode cX5_nextByClusters 103 = .ok (.invokevirtual 177, 3) := by decide +kernel
theorem dX5_nextByClusters_106 : decode cX5_nextByClusters 106 = .ok (.iload_n 2, 1) := by decide +kernel
theorem dX5_nextByClusters_107 : decode cX5_nextByClusters 107 = .ok (.if_icmp .ne 32, 3) := by decide +kernel
theorem dX5_nextByClusters_110 : decode cX5_nextByClusters 110 = .ok (.aload_n 0, 1) := by decide +kernel
theorem dX5_nextByClusters_111 : decode cX5_nextByClusters 111 = .ok (.iload_n 1, 1) := by decide +kernel
theorem dX5_nextByClusters_112 : decode cX5_nextByClusters 112 = .ok (.bipush 6, 2) := by decide +kernel
theorem dX5_nextByClusters_114 : decode cX5_nextByClusters 114 = .ok (.invokevirtual 177, 3) := by decide +kernel
theorem dX5_nextByClusters_117 : decode cX5_nextByClusters 117 = .ok (.aload_n 0, 1) := by decide +kernel
theorem dX5_nextByClusters_118 : decode cX5_nextByClusters 118 = .ok (.getfield 28, 3) := by decide +kernel
theorem dX5_nextByClusters_121 : decode cX5_nextByClusters 121 = .ok (.getfield 189, 3) := by decide +kernel
theorem dX5_nextByClusters_124 : decode cX5_nextByClusters 124 = .ok (.iload_n 1, 1) := by decide +kernel
theorem dX5_nextByClusters_125 : decode cX5_nextByClusters 125 = .ok (.iaload, 1) := by decide +kernel
theorem dX5_nextByClusters_126 : decode cX5_nextByClusters 126 = .ok (.if_icmp .ne 13, 3) := by decide +kernel
theorem dX5_nextByClusters_129 : decode cX5_nextByClusters 129 = .ok (.iload_n 3, 1) := by decide +kernel
theorem dX5_nextByClusters_130 : decode cX5_nextByClusters 130 = .ok (.ifCond .eq 7, 3) := by decide +kernel
theorem dX5_nextByClusters_133 : decode cX5_nextByClusters 133 = .ok (.iconst 5, 1) := by decide +kernel
theorem dX5_nextByClusters_134 : decode cX5_nextByClusters 134 = .ok (.goto 4, 3) := by decide +kernel
theorem dX5_nextByClusters_137 : decode cX5_nextByClusters 137 = .ok (.iconst 4, 1) := by decide +kernel
theorem dX5_nextByClusters_138 : decode cX5_nextByClusters 138 = .ok (.ireturn, 1) := by decide +kernel
theorem dX5_nextByClusters_139 : decode cX5_nextByClusters 139 = .ok (.aload_n 0, 1) := by decide +kernel
theorem dX5_nextByClusters_140 : decode cX5_nextByClusters 140 = .ok (.iload_n 1, 1) := by decide +kernel
theorem dX5_nextByClusters_141 : decode cX5_nextByClusters 141 = .ok (.iconst 4, 1) := by decide +kernel
theorem dX5_nextByClusters_142 : decode cX5_nextByClusters 142 = .ok (.invokevirtual 177, 3) := by decide +kernel
theorem dX5_nextByClusters_145 : decode cX5_nextByClusters 145 = .ok (.ifCond .eq 7, 3) := by decide +kernel
theorem dX5_nextByClusters_148 : decode cX5_nextByClusters 148 = .ok (.iconst 5, 1) := by decide +kernel
theorem dX5_nextByClusters_149 : decode cX5_nextByClusters 149 = .ok (.goto 4, 3) := by decide +kernel
theorem dX5_nextByClusters_152 : decode cX5_nextByClusters 152 = .ok (.iconst 0, 1) := by decide +kernel
theorem dX5_nextByClusters_153 : decode cX5_nextByClusters 153 = .ok (.ireturn, 1) := by decide +kernel
theorem dX5_mayAnnounce_0 : decode cX5_mayAnnounce 0 = .ok (.aload_n 0, 1) := by decide +kernel
theorem dX5_mayAnnounce_1 : decode cX5_mayAnnounce 1 = .ok (.getfield 44, 3) := by decide +kernel
theorem dX5_mayAnnounce_4 : decode cX5_mayAnnounce 4 = .ok (.iload_n 1, 1) := by decide +kernel
theorem dX5_mayAnnounce_5 : decode cX5_mayAnnounce 5 = .ok (.invokestatic 173, 3) := by decide +kernel
theorem dX5_mayAnnounce_8 : decode cX5_mayAnnounce 8 = .ok (.ifCond .ne 29, 3) := by decide +kernel
theorem dX5_mayAnnounce_11 : decode cX5_mayAnnounce 11 = .ok (.aload_n 0, 1) := by decide +kernel
theorem dX5_mayAnnounce_12 : decode cX5_mayAnnounce 12 = .ok (.getfield 36, 3) := by decide +kernel
theorem dX5_mayAnnounce_15 : decode cX5_mayAnnounce 15 = .ok (.iload_n 1, 1) := by decide +kernel
theorem dX5_mayAnnounce_16 : decode cX5_mayAnnounce 16 = .ok (.iaload, 1) := by decide +kernel
theorem dX5_mayAnnounce_17 : decode cX5_mayAnnounce 17 = .ok (.ifCond .ne 20, 3) := by decide +kernel
theorem dX5_mayAnnounce_20 : decode cX5_mayAnnounce 20 = .ok (.aload_n 0, 1) := by decide +kernel
theorem dX5_mayAnnounce_21 : decode cX5_mayAnnounce 21 = .ok (.getfield 32, 3) := by decide +kernel
theorem dX5_mayAnnounce_24 : decode cX5_mayAnnounce 24 = .ok (.iload_n 1, 1) := by decide +kernel
theorem dX5_mayAnnounce_25 : decode cX5_mayAnnounce 25 = .ok (.iaload, 1) := by decide +kernel
theorem dX5_mayAnnounce_26 : decode cX5_mayAnnounce 26 = .ok (.aload_n 0, 1) := by decide +kernel
theorem dX5_mayAnnounce_27 : decode cX5_mayAnnounce 27 = .ok (.getfield 54, 3) := by decide +kernel
theorem dX5_mayAnnounce_30 : decode cX5_mayAnnounce 30 = .ok (.if_icmp .ge 7, 3) := by decide +kernel
theorem dX5_mayAnnounce_33 : decode cX5_mayAnnounce 33 = .ok (.iconst 1, 1) := by decide +kernel
theorem dX5_mayAnnounce_34 : decode cX5_mayAnnounce 34 = .ok (.goto 4, 3) := by decide +kernel
theorem dX5_mayAnnounce_37 : decode cX5_mayAnnounce 37 = .ok (.iconst 0, 1) := by decide +kernel
theorem dX5_mayAnnounce_38 : decode cX5_mayAnnounce 38 = .ok (.ireturn, 1) := by decide +kernel
theorem dX5_heardBy_0 : decode cX5_heardBy 0 = .ok (.aload_n 0, 1) := by decide +kernel
theorem dX5_heardBy_1 : decode cX5_heardBy 1 = .ok (.getfield 41, 3) := by decide +kernel
theorem dX5_heardBy_4 : decode cX5_heardBy 4 = .ok (.iload_n 2, 1) := by decide +kernel
theorem dX5_heardBy_5 : decode cX5_heardBy 5 = .ok (.aaload, 1) := by decide +kernel
theorem dX5_heardBy_6 : decode cX5_heardBy 6 = .ok (.iload_n 1, 1) := by decide +kernel
theorem dX5_heardBy_7 : decode cX5_heardBy 7 = .ok (.aload_n 0, 1) := by decide +kernel
theorem dX5_heardBy_8 : decode cX5_heardBy 8 = .ok (.getfield 32, 3) := by decide +kernel
theorem dX5_heardBy_11 : decode cX5_heardBy 11 = .ok (.iload_n 1, 1) := by decide +kernel
theorem dX5_heardBy_12 : decode cX5_heardBy 12 = .ok (.iaload, 1) := by decide +kernel
theorem dX5_heardBy_13 : decode cX5_heardBy 13 = .ok (.invokestatic 136, 3) := by decide +kernel
theorem dX5_heardBy_16 : decode cX5_heardBy 16 = .ok (.iaload, 1) := by decide +kernel
theorem dX5_heardBy_17 : decode cX5_heardBy 17 = .ok (.ireturn, 1) := by decide +kernel
theorem dX5_isIn_0 : decode cX5_isIn 0 = .ok (.iload_n 0, 1) := by decide +kernel
theorem dX5_isIn_1 : decode cX5_isIn 1 = .ok (.iload_n 1, 1) := by decide +kernel
theorem dX5_isIn_2 : decode cX5_isIn 2 = .ok (.ishr, 1) := by decide +kernel
theorem dX5_isIn_3 : decode cX5_isIn 3 = .ok (.iconst 1, 1) := by decide +kernel
theorem dX5_isIn_4 : decode cX5_isIn 4 = .ok (.iand, 1) := by decide +kernel
theorem dX5_isIn_5 : decode cX5_isIn 5 = .ok (.ifCond .eq 7, 3) := by decide +kernel
theorem dX5_isIn_8 : decode cX5_isIn 8 = .ok (.iconst 1, 1) := by decide +kernel
theorem dX5_isIn_9 : decode cX5_isIn 9 = .ok (.goto 4, 3) := by decide +kernel
theorem dX5_isIn_12 : decode cX5_isIn 12 = .ok (.iconst 0, 1) := by decide +kernel
theorem dX5_isIn_13 : decode cX5_isIn 13 = .ok (.ireturn, 1) := by decide +kernel
theorem dX5_sendFor_0 : decode cX5_sendFor 0 = .ok (.iload_n 1, 1) := by decide +kernel
theorem dX5_sendFor_1 : decode cX5_sendFor 1 = .ok (.tableswitch 210 1 5 #[35, 65, 102, 157, 195], 35) := by decide +kernel
theorem dX5_sendFor_36 : decode cX5_sendFor 36 = .ok (.aload_n 0, 1) := by decide +kernel
theorem dX5_sendFor_37 : decode cX5_sendFor 37 = .ok (.dup, 1) := by decide +kernel
theorem dX5_sendFor_38 : decode cX5_sendFor 38 = .ok (.getfield 44, 3) := by decide +kernel
theorem dX5_sendFor_41 : decode cX5_sendFor 41 = .ok (.iconst 1, 1) := by decide +kernel
theorem dX5_sendFor_42 : decode cX5_sendFor 42 = .ok (.iload_n 2, 1) := by decide +kernel
theorem dX5_sendFor_43 : decode cX5_sendFor 43 = .ok (.ishl, 1) := by decide +kernel
theorem dX5_sendFor_44 : decode cX5_sendFor 44 = .ok (.ior, 1) := by decide +kernel
theorem dX5_sendFor_45 : decode cX5_sendFor 45 = .ok (.putfield 44, 3) := by decide +kernel
theorem dX5_sendFor_48 : decode cX5_sendFor 48 = .ok (.aload_n 0, 1) := by decide +kernel
theorem dX5_sendFor_49 : decode cX5_sendFor 49 = .ok (.iconst 2, 1) := by decide +kernel
theorem dX5_sendFor_50 : decode cX5_sendFor 50 = .ok (.iload_n 2, 1) := by decide +kernel
theorem dX5_sendFor_51 : decode cX5_sendFor 51 = .ok (.aload_n 0, 1) := by decide +kernel
theorem dX5_sendFor_52 : decode cX5_sendFor 52 = .ok (.getfield 69, 3) := by decide +kernel
theorem dX5_sendFor_55 : decode cX5_sendFor 55 = .ok (.getfield 180, 3) := by decide +kernel
theorem dX5_sendFor_58 : decode cX5_sendFor 58 = .ok (.iload_n 2, 1) := by decide +kernel
theorem dX5_sendFor_59 : decode cX5_sendFor 59 = .ok (.iaload, 1) := by decide +kernel
theorem dX5_sendFor_60 : decode cX5_sendFor 60 = .ok (.invokevirtual 192, 3) := by decide +kernel
theorem dX5_sendFor_63 : decode cX5_sendFor 63 = .ok (.goto 148, 3) := by decide +kernel
theorem dX5_sendFor_66 : decode cX5_sendFor 66 = .ok (.aload_n 0, 1) := by decide +kernel
theorem dX5_sendFor_67 : decode cX5_sendFor 67 = .ok (.dup, 1) := by decide +kernel
theorem dX5_sendFor_68 : decode cX5_sendFor 68 = .ok (.getfield 44, 3) := by decide +kernel
theorem dX5_sendFor_71 : decode cX5_sendFor 71 = .ok (.iconst 1, 1) := by decide +kernel
theorem dX5_sendFor_72 : decode cX5_sendFor 72 = .ok (.iload_n 2, 1) := by decide +kernel
theorem dX5_sendFor_73 : decode cX5_sendFor 73 = .ok (.ishl, 1) := by decide +kernel
theorem dX5_sendFor_74 : decode cX5_sendFor 74 = .ok (.ior, 1) := by decide +kernel
theorem dX5_sendFor_75 : decode cX5_sendFor 75 = .ok (.putfield 44, 3) := by decide +kernel
theorem dX5_sendFor_78 : decode cX5_sendFor 78 = .ok (.aload_n 0, 1) := by decide +kernel
theorem dX5_sendFor_79 : decode cX5_sendFor 79 = .ok (.getfield 12, 3) := by decide +kernel
theorem dX5_sendFor_82 : decode cX5_sendFor 82 = .ok (.iconst 3, 1) := by decide +kernel
theorem dX5_sendFor_83 : decode cX5_sendFor 83 = .ok (.iload_n 2, 1) := by decide +kernel
theorem dX5_sendFor_84 : decode cX5_sendFor 84 = .ok (.aload_n 3, 1) := by decide +kernel
theorem dX5_sendFor_85 : decode cX5_sendFor 85 = .ok (.getfield 186, 3) := by decide +kernel
theorem dX5_sendFor_88 : decode cX5_sendFor 88 = .ok (.iload_n 2, 1) := by decide +kernel
theorem dX5_sendFor_89 : decode cX5_sendFor 89 = .ok (.iaload, 1) := by decide +kernel
theorem dX5_sendFor_90 : decode cX5_sendFor 90 = .ok (.aload_n 0, 1) := by decide +kernel
theorem dX5_sendFor_91 : decode cX5_sendFor 91 = .ok (.getfield 32, 3) := by decide +kernel
theorem dX5_sendFor_94 : decode cX5_sendFor 94 = .ok (.iload_n 2, 1) := by decide +kernel
theorem dX5_sendFor_95 : decode cX5_sendFor 95 = .ok (.iaload, 1) := by decide +kernel
theorem dX5_sendFor_96 : decode cX5_sendFor 96 = .ok (.iconst 0, 1) := by decide +kernel
theorem dX5_sendFor_97 : decode cX5_sendFor 97 = .ok (.invokevirtual 132, 3) := by decide +kernel
theorem dX5_sendFor_100 : decode cX5_sendFor 100 = .ok (.goto 111, 3) := by decide +kernel
theorem dX5_sendFor_103 : decode cX5_sendFor 103 = .ok (.aload_n 0, 1) := by decide +kernel
theorem dX5_sendFor_104 : decode cX5_sendFor 104 = .ok (.dup, 1) := by decide +kernel
theorem dX5_sendFor_105 : decode cX5_sendFor 105 = .ok (.getfield 44, 3) := by decide +kernel
theorem dX5_sendFor_108 : decode cX5_sendFor 108 = .ok (.iconst 1, 1) := by decide +kernel
theorem dX5_sendFor_109 : decode cX5_sendFor 109 = .ok (.iload_n 2, 1) := by decide +kernel
theorem dX5_sendFor_110 : decode cX5_sendFor 110 = .ok (.ishl, 1) := by decide +kernel
theorem dX5_sendFor_111 : decode cX5_sendFor 111 = .ok (.ior, 1) := by decide +kernel
theorem dX5_sendFor_112 : decode cX5_sendFor 112 = .ok (.putfield 44, 3) := by decide +kernel
theorem dX5_sendFor_115 : decode cX5_sendFor 115 = .ok (.aload_n 0, 1) := by decide +kernel
theorem dX5_sendFor_116 : decode cX5_sendFor 116 = .ok (.dup, 1) := by decide +kernel
theorem dX5_sendFor_117 : decode cX5_sendFor 117 = .ok (.getfield 48, 3) := by decide +kernel
theorem dX5_sendFor_120 : decode cX5_sendFor 120 = .ok (.iconst 1, 1) := by decide +kernel
theorem dX5_sendFor_121 : decode cX5_sendFor 121 = .ok (.iload_n 2, 1) := by decide +kernel
theorem dX5_sendFor_122 : decode cX5_sendFor 122 = .ok (.ishl, 1) := by decide +kernel
theorem dX5_sendFor_123 : decode cX5_sendFor 123 = .ok (.ior, 1) := by decide +kernel
theorem dX5_sendFor_124 : decode cX5_sendFor 124 = .ok (.putfield 48, 3) := by decide +kernel
theorem dX5_sendFor_127 : decode cX5_sendFor 127 = .ok (.aload_n 0, 1) := by decide +kernel
theorem dX5_sendFor_128 : decode cX5_sendFor 128 = .ok (.iconst 5, 1) := by decide +kernel
theorem dX5_sendFor_129 : decode cX5_sendFor 129 = .ok (.iload_n 2, 1) := by decide +kernel
theorem dX5_sendFor_130 : decode cX5_sendFor 130 = .ok (.aload_n 3, 1) := by decide +kernel
theorem dX5_sendFor_131 : decode cX5_sendFor 131 = .ok (.getfield 183, 3) := by decide +kernel
theorem dX5_sendFor_134 : decode cX5_sendFor 134 = .ok (.iload_n 2, 1) := by decide +kernel
theorem dX5_sendFor_135 : decode cX5_sendFor 135 = .ok (.iaload, 1) := by decide +kernel
theorem dX5_sendFor_136 : decode cX5_sendFor 136 = .ok (.invokevirtual 196, 3) := by decide +kernel
theorem dX5_sendFor_139 : decode cX5_sendFor 139 = .ok (.aload_n 0, 1) := by decide +kernel
theorem dX5_sendFor_140 : decode cX5_sendFor 140 = .ok (.bipush 6, 2) := by decide +kernel
theorem dX5_sendFor_142 : decode cX5_sendFor 142 = .ok (.iload_n 2, 1) := by decide +kernel
theorem dX5_sendFor_143 : decode cX5_sendFor 143 = .ok (.aload_n 0, 1) := by decide +kernel
theorem dX5_sendFor_144 : decode cX5_sendFor 144 = .ok (.getfield 28, 3) := by decide +kernel
theorem dX5_sendFor_147 : decode cX5_sendFor 147 = .ok (.getfield 189, 3) := by decide +kernel
theorem dX5_sendFor_150 : decode cX5_sendFor 150 = .ok (.iload_n 2, 1) := by decide +kernel
theorem dX5_sendFor_151 : decode cX5_sendFor 151 = .ok (.iaload, 1) := by decide +kernel
theorem dX5_sendFor_152 : decode cX5_sendFor 152 = .ok (.invokevirtual 192, 3) := by decide +kernel
theorem dX5_sendFor_155 : decode cX5_sendFor 155 = .ok (.goto 56, 3) := by decide +kernel
theorem dX5_sendFor_158 : decode cX5_sendFor 158 = .ok (.aload_n 0, 1) := by decide +kernel
theorem dX5_sendFor_159 : decode cX5_sendFor 159 = .ok (.dup, 1) := by decide +kernel
theorem dX5_sendFor_160 : decode cX5_sendFor 160 = .ok (.getfield 51, 3) := by decide +kernel
theorem dX5_sendFor_163 : decode cX5_sendFor 163 = .ok (.iconst 1, 1) := by decide +kernel
theorem dX5_sendFor_164 : decode cX5_sendFor 164 = .ok (.iload_n 2, 1) := by decide +kernel
theorem dX5_sendFor_165 : decode cX5_sendFor 165 = .ok (.ishl, 1) := by decide +kernel
theorem dX5_sendFor_166 : decode cX5_sendFor 166 = .ok (.ior, 1) := by decide +kernel
theorem dX5_sendFor_167 : decode cX5_sendFor 167 = .ok (.putfield 51, 3) := by decide +kernel
theorem dX5_sendFor_170 : decode cX5_sendFor 170 = .ok (.aload_n 0, 1) := by decide +kernel
theorem dX5_sendFor_171 : decode cX5_sendFor 171 = .ok (.getfield 12, 3) := by decide +kernel
theorem dX5_sendFor_174 : decode cX5_sendFor 174 = .ok (.bipush 7, 2) := by decide +kernel
theorem dX5_sendFor_176 : decode cX5_sendFor 176 = .ok (.iload_n 2, 1) := by decide +kernel
theorem dX5_sendFor_177 : decode cX5_sendFor 177 = .ok (.aload_n 3, 1) := by decide +kernel
theorem dX5_sendFor_178 : decode cX5_sendFor 178 = .ok (.getfield 186, 3) := by decide +kernel
theorem dX5_sendFor_181 : decode cX5_sendFor 181 = .ok (.iload_n 2, 1) := by decide +kernel
theorem dX5_sendFor_182 : decode cX5_sendFor 182 = .ok (.iaload, 1) := by decide +kernel
theorem dX5_sendFor_183 : decode cX5_sendFor 183 = .ok (.aload_n 0, 1) := by decide +kernel
theorem dX5_sendFor_184 : decode cX5_sendFor 184 = .ok (.getfield 32, 3) := by decide +kernel
theorem dX5_sendFor_187 : decode cX5_sendFor 187 = .ok (.iload_n 2, 1) := by decide +kernel
theorem dX5_sendFor_188 : decode cX5_sendFor 188 = .ok (.iaload, 1) := by decide +kernel
theorem dX5_sendFor_189 : decode cX5_sendFor 189 = .ok (.iconst 0, 1) := by decide +kernel
theorem dX5_sendFor_190 : decode cX5_sendFor 190 = .ok (.invokevirtual 132, 3) := by decide +kernel
theorem dX5_sendFor_193 : decode cX5_sendFor 193 = .ok (.goto 18, 3) := by decide +kernel
theorem dX5_sendFor_196 : decode cX5_sendFor 196 = .ok (.aload_n 0, 1) := by decide +kernel
theorem dX5_sendFor_197 : decode cX5_sendFor 197 = .ok (.iconst 4, 1) := by decide +kernel
theorem dX5_sendFor_198 : decode cX5_sendFor 198 = .ok (.iload_n 2, 1) := by decide +kernel
theorem dX5_sendFor_199 : decode cX5_sendFor 199 = .ok (.aload_n 3, 1) := by decide +kernel
theorem dX5_sendFor_200 : decode cX5_sendFor 200 = .ok (.getfield 183, 3) := by decide +kernel
theorem dX5_sendFor_203 : decode cX5_sendFor 203 = .ok (.iload_n 2, 1) := by decide +kernel
theorem dX5_sendFor_204 : decode cX5_sendFor 204 = .ok (.iaload, 1) := by decide +kernel
theorem dX5_sendFor_205 : decode cX5_sendFor 205 = .ok (.invokevirtual 196, 3) := by decide +kernel
theorem dX5_sendFor_208 : decode cX5_sendFor 208 = .ok (.goto 3, 3) := by decide +kernel
theorem dX5_sendFor_211 : decode cX5_sendFor 211 = .ok (.return_, 1) := by decide +kernel
theorem dX5_sendByPorts_0 : decode cX5_sendByPorts 0 = .ok (.iconst 0, 1) := by decide +kernel
theorem dX5_sendByPorts_1 : decode cX5_sendByPorts 1 = .ok (.istore 4, 2) := by decide +kernel
theorem dX5_sendByPorts_3 : decode cX5_sendByPorts 3 = .ok (.iload 4, 2) := by decide +kernel
theorem dX5_sendByPorts_5 : decode cX5_sendByPorts 5 = .ok (.aload_n 0, 1) := by decide +kernel
theorem dX5_sendByPorts_6 : decode cX5_sendByPorts 6 = .ok (.getfield 69, 3) := by decide +kernel
theorem dX5_sendByPorts_9 : decode cX5_sendByPorts 9 = .ok (.getfield 199, 3) := by decide +kernel
theorem dX5_sendByPorts_12 : decode cX5_sendByPorts 12 = .ok (.iload_n 2, 1) := by decide +kernel
theorem dX5_sendByPorts_13 : decode cX5_sendByPorts 13 = .ok (.iaload, 1) := by decide +kernel
theorem dX5_sendByPorts_14 : decode cX5_sendByPorts 14 = .ok (.if_icmp .ge 53, 3) := by decide +kernel
theorem dX5_sendByPorts_17 : decode cX5_sendByPorts 17 = .ok (.aload_n 0, 1) := by decide +kernel
theorem dX5_sendByPorts_18 : decode cX5_sendByPorts 18 = .ok (.getfield 69, 3) := by decide +kernel
theorem dX5_sendByPorts_21 : decode cX5_sendByPorts 21 = .ok (.getfield 202, 3) := by decide +kernel
theorem dX5_sendByPorts_24 : decode cX5_sendByPorts 24 = .ok (.iload_n 2, 1) := by decide +kernel
theorem dX5_sendByPorts_25 : decode cX5_sendByPorts 25 = .ok (.bipush 24, 2) := by decide +kernel
theorem dX5_sendByPorts_27 : decode cX5_sendByPorts 27 = .ok (.imul, 1) := by decide +kernel
theorem dX5_sendByPorts_28 : decode cX5_sendByPorts 28 = .ok (.iload 4, 2) := by decide +kernel
theorem dX5_sendByPorts_30 : decode cX5_sendByPorts 30 = .ok (.iadd, 1) := by decide +kernel
theorem dX5_sendByPorts_31 : decode cX5_sendByPorts 31 = .ok (.iaload, 1) := by decide +kernel
theorem dX5_sendByPorts_32 : decode cX5_sendByPorts 32 = .ok (.istore 5, 2) := by decide +kernel
theorem dX5_sendByPorts_34 : decode cX5_sendByPorts 34 = .ok (.iload_n 3, 1) := by decide +kernel
theorem dX5_sendByPorts_35 : decode cX5_sendByPorts 35 = .ok (.iload 5, 2) := by decide +kernel
theorem dX5_sendByPorts_37 : decode cX5_sendByPorts 37 = .ok (.invokestatic 173, 3) := by decide +kernel
theorem dX5_sendByPorts_40 : decode cX5_sendByPorts 40 = .ok (.ifCond .eq 21, 3) := by decide +kernel
theorem dX5_sendByPorts_43 : decode cX5_sendByPorts 43 = .ok (.aload_n 0, 1) := by decide +kernel
theorem dX5_sendByPorts_44 : decode cX5_sendByPorts 44 = .ok (.getfield 12, 3) := by decide +kernel
theorem dX5_sendByPorts_47 : decode cX5_sendByPorts 47 = .ok (.iload_n 1, 1) := by decide +kernel
theorem dX5_sendByPorts_48 : decode cX5_sendByPorts 48 = .ok (.iload_n 2, 1) := by decide +kernel
theorem dX5_sendByPorts_49 : decode cX5_sendByPorts 49 = .ok (.iload 5, 2) := by decide +kernel
theorem dX5_sendByPorts_51 : decode cX5_sendByPorts 51 = .ok (.aload_n 0, 1) := by decide +kernel
theorem dX5_sendByPorts_52 : decode cX5_sendByPorts 52 = .ok (.getfield 32, 3) := by decide +kernel
theorem dX5_sendByPorts_55 : decode cX5_sendByPorts 55 = .ok (.iload_n 2, 1) := by decide +kernel
theorem dX5_sendByPorts_56 : decode cX5_sendByPorts 56 = .ok (.iaload, 1) := by decide +kernel
theorem dX5_sendByPorts_57 : decode cX5_sendByPorts 57 = .ok (.iconst 0, 1) := by decide +kernel
theorem dX5_sendByPorts_58 : decode cX5_sendByPorts 58 = .ok (.invokevirtual 132, 3) := by decide +kernel
theorem dX5_sendByPorts_61 : decode cX5_sendByPorts 61 = .ok (.iinc 4 1, 3) := by decide +kernel
theorem dX5_sendByPorts_64 : decode cX5_sendByPorts 64 = .ok (.goto (-61), 3) := by decide +kernel
theorem dX5_sendByPorts_67 : decode cX5_sendByPorts 67 = .ok (.return_, 1) := by decide +kernel
theorem dX5_sendByNumbers_0 : decode cX5_sendByNumbers 0 = .ok (.iconst 0, 1) := by decide +kernel
theorem dX5_sendByNumbers_1 : decode cX5_sendByNumbers 1 = .ok (.istore 4, 2) := by decide +kernel
theorem dX5_sendByNumbers_3 : decode cX5_sendByNumbers 3 = .ok (.iload 4, 2) := by decide +kernel
theorem dX5_sendByNumbers_5 : decode cX5_sendByNumbers 5 = .ok (.aload_n 0, 1) := by decide +kernel
theorem dX5_sendByNumbers_6 : decode cX5_sendByNumbers 6 = .ok (.getfield 69, 3) := by decide +kernel
theorem dX5_sendByNumbers_9 : decode cX5_sendByNumbers 9 = .ok (.getfield 112, 3) := by decide +kernel
theorem dX5_sendByNumbers_12 : decode cX5_sendByNumbers 12 = .ok (.if_icmp .ge 36, 3) := by decide +kernel
theorem dX5_sendByNumbers_15 : decode cX5_sendByNumbers 15 = .ok (.iload_n 3, 1) := by decide +kernel
theorem dX5_sendByNumbers_16 : decode cX5_sendByNumbers 16 = .ok (.iload 4, 2) := by decide +kernel
theorem dX5_sendByNumbers_18 : decode cX5_sendByNumbers 18 = .ok (.invokestatic 173, 3) := by decide +kernel
theorem dX5_sendByNumbers_21 : decode cX5_sendByNumbers 21 = .ok (.ifCond .eq 21, 3) := by decide +kernel
theorem dX5_sendByNumbers_24 : decode cX5_sendByNumbers 24 = .ok (.aload_n 0, 1) := by decide +kernel
theorem dX5_sendByNumbers_25 : decode cX5_sendByNumbers 25 = .ok (.getfield 12, 3) := by decide +kernel
theorem dX5_sendByNumbers_28 : decode cX5_sendByNumbers 28 = .ok (.iload_n 1, 1) := by decide +kernel
theorem dX5_sendByNumbers_29 : decode cX5_sendByNumbers 29 = .ok (.iload_n 2, 1) := by decide +kernel
theorem dX5_sendByNumbers_30 : decode cX5_sendByNumbers 30 = .ok (.iload 4, 2) := by decide +kernel
theorem dX5_sendByNumbers_32 : decode cX5_sendByNumbers 32 = .ok (.aload_n 0, 1) := by decide +kernel
theorem dX5_sendByNumbers_33 : decode cX5_sendByNumbers 33 = .ok (.getfield 32, 3) := by decide +kernel
theorem dX5_sendByNumbers_36 : decode cX5_sendByNumbers 36 = .ok (.iload_n 2, 1) := by decide +kernel
theorem dX5_sendByNumbers_37 : decode cX5_sendByNumbers 37 = .ok (.iaload, 1) := by decide +kernel
theorem dX5_sendByNumbers_38 : decode cX5_sendByNumbers 38 = .ok (.iconst 0, 1) := by decide +kernel
theorem dX5_sendByNumbers_39 : decode cX5_sendByNumbers 39 = .ok (.invokevirtual 132, 3) := by decide +kernel
theorem dX5_sendByNumbers_42 : decode cX5_sendByNumbers 42 = .ok (.iinc 4 1, 3) := by decide +kernel
theorem dX5_sendByNumbers_45 : decode cX5_sendByNumbers 45 = .ok (.goto (-42), 3) := by decide +kernel
theorem dX5_sendByNumbers_48 : decode cX5_sendByNumbers 48 = .ok (.return_, 1) := by decide +kernel
theorem dX5_enterNextRound_0 : decode cX5_enterNextRound 0 = .ok (.aload_n 0, 1) := by decide +kernel
theorem dX5_enterNextRound_1 : decode cX5_enterNextRound 1 = .ok (.iload_n 1, 1) := by decide +kernel
theorem dX5_enterNextRound_2 : decode cX5_enterNextRound 2 = .ok (.invokevirtual 205, 3) := by decide +kernel
theorem dX5_enterNextRound_5 : decode cX5_enterNextRound 5 = .ok (.aload_n 0, 1) := by decide +kernel
theorem dX5_enterNextRound_6 : decode cX5_enterNextRound 6 = .ok (.getfield 32, 3) := by decide +kernel
theorem dX5_enterNextRound_9 : decode cX5_enterNextRound 9 = .ok (.iload_n 1, 1) := by decide +kernel
theorem dX5_enterNextRound_10 : decode cX5_enterNextRound 10 = .ok (.dup2, 1) := by decide +kernel
theorem dX5_enterNextRound_11 : decode cX5_enterNextRound 11 = .ok (.iaload, 1) := by decide +kernel
theorem dX5_enterNextRound_12 : decode cX5_enterNextRound 12 = .ok (.iconst 1, 1) := by decide +kernel
theorem dX5_enterNextRound_13 : decode cX5_enterNextRound 13 = .ok (.iadd, 1) := by decide +kernel
theorem dX5_enterNextRound_14 : decode cX5_enterNextRound 14 = .ok (.iastore, 1) := by decide +kernel
theorem dX5_enterNextRound_15 : decode cX5_enterNextRound 15 = .ok (.aload_n 0, 1) := by decide +kernel
theorem dX5_enterNextRound_16 : decode cX5_enterNextRound 16 = .ok (.getfield 78, 3) := by decide +kernel
theorem dX5_enterNextRound_19 : decode cX5_enterNextRound 19 = .ok (.iload_n 1, 1) := by decide +kernel
theorem dX5_enterNextRound_20 : decode cX5_enterNextRound 20 = .ok (.aload_n 0, 1) := by decide +kernel
theorem dX5_enterNextRound_21 : decode cX5_enterNextRound 21 = .ok (.getfield 32, 3) := by decide +kernel
theorem dX5_enterNextRound_24 : decode cX5_enterNextRound 24 = .ok (.iload_n 1, 1) := by decide +kernel
theorem dX5_enterNextRound_25 : decode cX5_enterNextRound 25 = .ok (.iaload, 1) := by decide +kernel
theorem dX5_enterNextRound_26 : decode cX5_enterNextRound 26 = .ok (.invokevirtual 208, 3) := by decide +kernel
theorem dX5_enterNextRound_29 : decode cX5_enterNextRound 29 = .ok (.iconst 0, 1) := by decide +kernel
theorem dX5_enterNextRound_30 : decode cX5_enterNextRound 30 = .ok (.istore_n 2, 1) := by decide +kernel
theorem dX5_enterNextRound_31 : decode cX5_enterNextRound 31 = .ok (.iload_n 2, 1) := by decide +kernel
theorem dX5_enterNextRound_32 : decode cX5_enterNextRound 32 = .ok (.aload_n 0, 1) := by decide +kernel
theorem dX5_enterNextRound_33 : decode cX5_enterNextRound 33 = .ok (.getfield 69, 3) := by decide +kernel
theorem dX5_enterNextRound_36 : decode cX5_enterNextRound 36 = .ok (.getfield 199, 3) := by decide +kernel
theorem dX5_enterNextRound_39 : decode cX5_enterNextRound 39 = .ok (.iload_n 1, 1) := by decide +kernel
theorem dX5_enterNextRound_40 : decode cX5_enterNextRound 40 = .ok (.iaload, 1) := by decide +kernel
theorem dX5_enterNextRound_41 : decode cX5_enterNextRound 41 = .ok (.if_icmp .ge 58, 3) := by decide +kernel
theorem dX5_enterNextRound_44 : decode cX5_enterNextRound 44 = .ok (.aload_n 0, 1) := by decide +kernel
theorem dX5_enterNextRound_45 : decode cX5_enterNextRound 45 = .ok (.getfield 78, 3) := by decide +kernel
theorem dX5_enterNextRound_48 : decode cX5_enterNextRound 48 = .ok (.iload_n 2, 1) := by decide +kernel
theorem dX5_enterNextRound_49 : decode cX5_enterNextRound 49 = .ok (.invokevirtual 212, 3) := by decide +kernel
theorem dX5_enterNextRound_52 : decode cX5_enterNextRound 52 = .ok (.ifCond .eq 41, 3) := by decide +kernel
theorem dX5_enterNextRound_55 : decode cX5_enterNextRound 55 = .ok (.aload_n 0, 1) := by decide +kernel
theorem dX5_enterNextRound_56 : decode cX5_enterNextRound 56 = .ok (.getfield 12, 3) := by decide +kernel
theorem dX5_enterNextRound_59 : decode cX5_enterNextRound 59 = .ok (.iconst 0, 1) := by decide +kernel
theorem dX5_enterNextRound_60 : decode cX5_enterNextRound 60 = .ok (.iload_n 1, 1) := by decide +kernel
theorem dX5_enterNextRound_61 : decode cX5_enterNextRound 61 = .ok (.aload_n 0, 1) := by decide +kernel
theorem dX5_enterNextRound_62 : decode cX5_enterNextRound 62 = .ok (.getfield 69, 3) := by decide +kernel
theorem dX5_enterNextRound_65 : decode cX5_enterNextRound 65 = .ok (.getfield 202, 3) := by decide +kernel
theorem dX5_enterNextRound_68 : decode cX5_enterNextRound 68 = .ok (.iload_n 1, 1) := by decide +kernel
theorem dX5_enterNextRound_69 : decode cX5_enterNextRound 69 = .ok (.bipush 24, 2) := by decide +kernel
theorem dX5_enterNextRound_71 : decode cX5_enterNextRound 71 = .ok (.imul, 1) := by decide +kernel
theorem dX5_enterNextRound_72 : decode cX5_enterNextRound 72 = .ok (.iload_n 2, 1) := by decide +kernel
theorem dX5_enterNextRound_73 : decode cX5_enterNextRound 73 = .ok (.iadd, 1) := by decide +kernel
theorem dX5_enterNextRound_74 : decode cX5_enterNextRound 74 = .ok (.iaload, 1) := by decide +kernel
theorem dX5_enterNextRound_75 : decode cX5_enterNextRound 75 = .ok (.aload_n 0, 1) := by decide +kernel
theorem dX5_enterNextRound_76 : decode cX5_enterNextRound 76 = .ok (.getfield 32, 3) := by decide +kernel
theorem dX5_enterNextRound_79 : decode cX5_enterNextRound 79 = .ok (.iload_n 1, 1) := by decide +kernel
theorem dX5_enterNextRound_80 : decode cX5_enterNextRound 80 = .ok (.iaload, 1) := by decide +kernel
theorem dX5_enterNextRound_81 : decode cX5_enterNextRound 81 = .ok (.aload_n 0, 1) := by decide +kernel
theorem dX5_enterNextRound_82 : decode cX5_enterNextRound 82 = .ok (.getfield 78, 3) := by decide +kernel
theorem dX5_enterNextRound_85 : decode cX5_enterNextRound 85 = .ok (.getfield 215, 3) := by decide +kernel
theorem dX5_enterNextRound_88 : decode cX5_enterNextRound 88 = .ok (.iload_n 2, 1) := by decide +kernel
theorem dX5_enterNextRound_89 : decode cX5_enterNextRound 89 = .ok (.iaload, 1) := by decide +kernel
theorem dX5_enterNextRound_90 : decode cX5_enterNextRound 90 = .ok (.invokevirtual 132, 3) := by decide +kernel
theorem dX5_enterNextRound_93 : decode cX5_enterNextRound 93 = .ok (.iinc 2 1, 3) := by decide +kernel
theorem dX5_enterNextRound_96 : decode cX5_enterNextRound 96 = .ok (.goto (-65), 3) := by decide +kernel
theorem dX5_enterNextRound_99 : decode cX5_enterNextRound 99 = .ok (.aload_n 0, 1) := by decide +kernel
theorem dX5_enterNextRound_100 : decode cX5_enterNextRound 100 = .ok (.getfield 36, 3) := by decide +kernel
theorem dX5_enterNextRound_103 : decode cX5_enterNextRound 103 = .ok (.iload_n 1, 1) := by decide +kernel
theorem dX5_enterNextRound_104 : decode cX5_enterNextRound 104 = .ok (.aload_n 0, 1) := by decide +kernel
theorem dX5_enterNextRound_105 : decode cX5_enterNextRound 105 = .ok (.getfield 78, 3) := by decide +kernel
theorem dX5_enterNextRound_108 : decode cX5_enterNextRound 108 = .ok (.getfield 218, 3) := by decide +kernel
theorem dX5_enterNextRound_111 : decode cX5_enterNextRound 111 = .ok (.invokestatic 221, 3) := by decide +kernel
theorem dX5_enterNextRound_114 : decode cX5_enterNextRound 114 = .ok (.iastore, 1) := by decide +kernel
theorem dX5_enterNextRound_115 : decode cX5_enterNextRound 115 = .ok (.aload_n 0, 1) := by decide +kernel
theorem dX5_enterNextRound_116 : decode cX5_enterNextRound 116 = .ok (.iload_n 1, 1) := by decide +kernel
theorem dX5_enterNextRound_117 : decode cX5_enterNextRound 117 = .ok (.invokevirtual 226, 3) := by decide +kernel
theorem dX5_enterNextRound_120 : decode cX5_enterNextRound 120 = .ok (.return_, 1) := by decide +kernel
theorem dX5_forgetRound_0 : decode cX5_forgetRound 0 = .ok (.iload_n 1, 1) := by decide +kernel
theorem dX5_forgetRound_1 : decode cX5_forgetRound 1 = .ok (.aload_n 0, 1) := by decide +kernel
theorem dX5_forgetRound_2 : decode cX5_forgetRound 2 = .ok (.getfield 32, 3) := by decide +kernel
theorem dX5_forgetRound_5 : decode cX5_forgetRound 5 = .ok (.iload_n 1, 1) := by decide +kernel
theorem dX5_forgetRound_6 : decode cX5_forgetRound 6 = .ok (.iaload, 1) := by decide +kernel
theorem dX5_forgetRound_7 : decode cX5_forgetRound 7 = .ok (.invokestatic 136, 3) := by decide +kernel
theorem dX5_forgetRound_10 : decode cX5_forgetRound 10 = .ok (.istore_n 2, 1) := by decide +kernel
theorem dX5_forgetRound_11 : decode cX5_forgetRound 11 = .ok (.iconst 2, 1) := by decide +kernel
theorem dX5_forgetRound_12 : decode cX5_forgetRound 12 = .ok (.istore_n 3, 1) := by decide +kernel
theorem dX5_forgetRound_13 : decode cX5_forgetRound 13 = .ok (.iload_n 3, 1) := by decide +kernel
theorem dX5_forgetRound_14 : decode cX5_forgetRound 14 = .ok (.bipush 8, 2) := by decide +kernel
theorem dX5_forgetRound_16 : decode cX5_forgetRound 16 = .ok (.if_icmp .ge 18, 3) := by decide +kernel
theorem dX5_forgetRound_19 : decode cX5_forgetRound 19 = .ok (.aload_n 0, 1) := by decide +kernel
theorem dX5_forgetRound_20 : decode cX5_forgetRound 20 = .ok (.getfield 41, 3) := by decide +kernel
theorem dX5_forgetRound_23 : decode cX5_forgetRound 23 = .ok (.iload_n 3, 1) := by decide +kernel
theorem dX5_forgetRound_24 : decode cX5_forgetRound 24 = .ok (.aaload, 1) := by decide +kernel
theorem dX5_forgetRound_25 : decode cX5_forgetRound 25 = .ok (.iload_n 2, 1) := by decide +kernel
theorem dX5_forgetRound_26 : decode cX5_forgetRound 26 = .ok (.iconst 0, 1) := by decide +kernel
theorem dX5_forgetRound_27 : decode cX5_forgetRound 27 = .ok (.iastore, 1) := by decide +kernel
theorem dX5_forgetRound_28 : decode cX5_forgetRound 28 = .ok (.iinc 3 1, 3) := by decide +kernel
theorem dX5_forgetRound_31 : decode cX5_forgetRound 31 = .ok (.goto (-18), 3) := by decide +kernel
theorem dX5_forgetRound_34 : decode cX5_forgetRound 34 = .ok (.aload_n 0, 1) := by decide +kernel
theorem dX5_forgetRound_35 : decode cX5_forgetRound 35 = .ok (.dup, 1) := by decide +kernel
theorem dX5_forgetRound_36 : decode cX5_forgetRound 36 = .ok (.getfield 44, 3) := by decide +kernel
theorem dX5_forgetRound_39 : decode cX5_forgetRound 39 = .ok (.iconst 1, 1) := by decide +kernel
theorem dX5_forgetRound_40 : decode cX5_forgetRound 40 = .ok (.iload_n 1, 1) := by decide +kernel
theorem dX5_forgetRound_41 : decode cX5_forgetRound 41 = .ok (.ishl, 1) := by decide +kernel
theorem dX5_forgetRound_42 : decode cX5_forgetRound 42 = .ok (.iconst (-1), 1) := by decide +kernel
theorem dX5_forgetRound_43 : decode cX5_forgetRound 43 = .ok (.ixor, 1) := by decide +kernel
theorem dX5_forgetRound_44 : decode cX5_forgetRound 44 = .ok (.iand, 1) := by decide +kernel
theorem dX5_forgetRound_45 : decode cX5_forgetRound 45 = .ok (.putfield 44, 3) := by decide +kernel
theorem dX5_forgetRound_48 : decode cX5_forgetRound 48 = .ok (.aload_n 0, 1) := by decide +kernel
theorem dX5_forgetRound_49 : decode cX5_forgetRound 49 = .ok (.dup, 1) := by decide +kernel
theorem dX5_forgetRound_50 : decode cX5_forgetRound 50 = .ok (.getfield 48, 3) := by decide +kernel
theorem dX5_forgetRound_53 : decode cX5_forgetRound 53 = .ok (.iconst 1, 1) := by decide +kernel
theorem dX5_forgetRound_54 : decode cX5_forgetRound 54 = .ok (.iload_n 1, 1) := by decide +kernel
theorem dX5_forgetRound_55 : decode cX5_forgetRound 55 = .ok (.ishl, 1) := by decide +kernel
theorem dX5_forgetRound_56 : decode cX5_forgetRound 56 = .ok (.iconst (-1), 1) := by decide +kernel
theorem dX5_forgetRound_57 : decode cX5_forgetRound 57 = .ok (.ixor, 1) := by decide +kernel
theorem dX5_forgetRound_58 : decode cX5_forgetRound 58 = .ok (.iand, 1) := by decide +kernel
theorem dX5_forgetRound_59 : decode cX5_forgetRound 59 = .ok (.putfield 48, 3) := by decide +kernel
theorem dX5_forgetRound_62 : decode cX5_forgetRound 62 = .ok (.aload_n 0, 1) := by decide +kernel
theorem dX5_forgetRound_63 : decode cX5_forgetRound 63 = .ok (.dup, 1) := by decide +kernel
theorem dX5_forgetRound_64 : decode cX5_forgetRound 64 = .ok (.getfield 51, 3) := by decide +kernel
theorem dX5_forgetRound_67 : decode cX5_forgetRound 67 = .ok (.iconst 1, 1) := by decide +kernel
theorem dX5_forgetRound_68 : decode cX5_forgetRound 68 = .ok (.iload_n 1, 1) := by decide +kernel
theorem dX5_forgetRound_69 : decode cX5_forgetRound 69 = .ok (.ishl, 1) := by decide +kernel
theorem dX5_forgetRound_70 : decode cX5_forgetRound 70 = .ok (.iconst (-1), 1) := by decide +kernel
theorem dX5_forgetRound_71 : decode cX5_forgetRound 71 = .ok (.ixor, 1) := by decide +kernel
theorem dX5_forgetRound_72 : decode cX5_forgetRound 72 = .ok (.iand, 1) := by decide +kernel
theorem dX5_forgetRound_73 : decode cX5_forgetRound 73 = .ok (.putfield 51, 3) := by decide +kernel
theorem dX5_forgetRound_76 : decode cX5_forgetRound 76 = .ok (.return_, 1) := by decide +kernel
theorem dX5_noteWidest_0 : decode cX5_noteWidest 0 = .ok (.iconst 0, 1) := by decide +kernel
theorem dX5_noteWidest_1 : decode cX5_noteWidest 1 = .ok (.istore_n 2, 1) := by decide +kernel
theorem dX5_noteWidest_2 : decode cX5_noteWidest 2 = .ok (.iload_n 2, 1) := by decide +kernel
theorem dX5_noteWidest_3 : decode cX5_noteWidest 3 = .ok (.aload_n 0, 1) := by decide +kernel
theorem dX5_noteWidest_4 : decode cX5_noteWidest 4 = .ok (.getfield 69, 3) := by decide +kernel
theorem dX5_noteWidest_7 : decode cX5_noteWidest 7 = .ok (.getfield 112, 3) := by decide +kernel
theorem dX5_noteWidest_10 : decode cX5_noteWidest 10 = .ok (.if_icmp .ge 33, 3) := by decide +kernel
theorem dX5_noteWidest_13 : decode cX5_noteWidest 13 = .ok (.aload_n 0, 1) := by decide +kernel
theorem dX5_noteWidest_14 : decode cX5_noteWidest 14 = .ok (.aload_n 0, 1) := by decide +kernel
theorem dX5_noteWidest_15 : decode cX5_noteWidest 15 = .ok (.getfield 57, 3) := by decide +kernel
theorem dX5_noteWidest_18 : decode cX5_noteWidest 18 = .ok (.aload_n 0, 1) := by decide +kernel
theorem dX5_noteWidest_19 : decode cX5_noteWidest 19 = .ok (.getfield 32, 3) := by decide +kernel
theorem dX5_noteWidest_22 : decode cX5_noteWidest 22 = .ok (.iload_n 1, 1) := by decide +kernel
theorem dX5_noteWidest_23 : decode cX5_noteWidest 23 = .ok (.iaload, 1) := by decide +kernel
theorem dX5_noteWidest_24 : decode cX5_noteWidest 24 = .ok (.aload_n 0, 1) := by decide +kernel
theorem dX5_noteWidest_25 : decode cX5_noteWidest 25 = .ok (.getfield 32, 3) := by decide +kernel
theorem dX5_noteWidest_28 : decode cX5_noteWidest 28 = .ok (.iload_n 2, 1) := by decide +kernel
theorem dX5_noteWidest_29 : decode cX5_noteWidest 29 = .ok (.iaload, 1) := by decide +kernel
theorem dX5_noteWidest_30 : decode cX5_noteWidest 30 = .ok (.isub, 1) := by decide +kernel
theorem dX5_noteWidest_31 : decode cX5_noteWidest 31 = .ok (.invokestatic 115, 3) := by decide +kernel
theorem dX5_noteWidest_34 : decode cX5_noteWidest 34 = .ok (.putfield 57, 3) := by decide +kernel
theorem dX5_noteWidest_37 : decode cX5_noteWidest 37 = .ok (.iinc 2 1, 3) := by decide +kernel
theorem dX5_noteWidest_40 : decode cX5_noteWidest 40 = .ok (.goto (-38), 3) := by decide +kernel
theorem dX5_noteWidest_43 : decode cX5_noteWidest 43 = .ok (.return_, 1) := by decide +kernel
theorem dX7_init_0 : decode cX7_init 0 = .ok (.aload_n 0, 1) := by decide +kernel
theorem dX7_init_1 : decode cX7_init 1 = .ok (.invokespecial 1, 3) := by decide +kernel
theorem dX7_init_4 : decode cX7_init 4 = .ok (.aload_n 0, 1) := by decide +kernel
theorem dX7_init_5 : decode cX7_init 5 = .ok (.new 7, 3) := by decide +kernel
theorem dX7_init_8 : decode cX7_init 8 = .ok (.dup, 1) := by decide +kernel
theorem dX7_init_9 : decode cX7_init 9 = .ok (.invokespecial 9, 3) := by decide +kernel
theorem dX7_init_12 : decode cX7_init 12 = .ok (.putfield 10, 3) := by decide +kernel
theorem dX7_init_15 : decode cX7_init 15 = .ok (.aload_n 0, 1) := by decide +kernel
theorem dX7_init_16 : decode cX7_init 16 = .ok (.new 16, 3) := by decide +kernel
theorem dX7_init_19 : decode cX7_init 19 = .ok (.dup, 1) := by decide +kernel
theorem dX7_init_20 : decode cX7_init 20 = .ok (.invokespecial 18, 3) := by decide +kernel
theorem dX7_init_23 : decode cX7_init 23 = .ok (.putfield 19, 3) := by decide +kernel
theorem dX7_init_26 : decode cX7_init 26 = .ok (.aload_n 0, 1) := by decide +kernel
theorem dX7_init_27 : decode cX7_init 27 = .ok (.sipush 192, 3) := by decide +kernel
theorem dX7_init_30 : decode cX7_init 30 = .ok (.newarray .int, 2) := by decide +kernel
theorem dX7_init_32 : decode cX7_init 32 = .ok (.putfield 23, 3) := by decide +kernel
theorem dX7_init_35 : decode cX7_init 35 = .ok (.aload_n 0, 1) := by decide +kernel
theorem dX7_init_36 : decode cX7_init 36 = .ok (.new 27, 3) := by decide +kernel
theorem dX7_init_39 : decode cX7_init 39 = .ok (.dup, 1) := by decide +kernel
theorem dX7_init_40 : decode cX7_init 40 = .ok (.aload_n 0, 1) := by decide +kernel
theorem dX7_init_41 : decode cX7_init 41 = .ok (.getfield 10, 3) := by decide +kernel
theorem dX7_init_44 : decode cX7_init 44 = .ok (.aload_n 0, 1) := by decide +kernel
theorem dX7_init_45 : decode cX7_init 45 = .ok (.getfield 19, 3) := by decide +kernel
theorem dX7_init_48 : decode cX7_init 48 = .ok (.invokespecial 29, 3) := by decide +kernel
theorem dX7_init_51 : decode cX7_init 51 = .ok (.putfield 32, 3) := by decide +kernel
theorem dX7_init_54 : decode cX7_init 54 = .ok (.aload_n 0, 1) := by decide +kernel
theorem dX7_init_55 : decode cX7_init 55 = .ok (.new 36, 3) := by decide +kernel
theorem dX7_init_58 : decode cX7_init 58 = .ok (.dup, 1) := by decide +kernel
theorem dX7_init_59 : decode cX7_init 59 = .ok (.aload_n 0, 1) := by decide +kernel
theorem dX7_init_60 : decode cX7_init 60 = .ok (.getfield 10, 3) := by decide +kernel
theorem dX7_init_63 : decode cX7_init 63 = .ok (.aload_n 0, 1) := by decide +kernel
theorem dX7_init_64 : decode cX7_init 64 = .ok (.getfield 19, 3) := by decide +kernel
theorem dX7_init_67 : decode cX7_init 67 = .ok (.invokespecial 38, 3) := by decide +kernel
theorem dX7_init_70 : decode cX7_init 70 = .ok (.putfield 39, 3) := by decide +kernel
theorem dX7_init_73 : decode cX7_init 73 = .ok (.aload_n 0, 1) := by decide +kernel
theorem dX7_init_74 : decode cX7_init 74 = .ok (.iconst 0, 1) := by decide +kernel
theorem dX7_init_75 : decode cX7_init 75 = .ok (.putfield 43, 3) := by decide +kernel
theorem dX7_init_78 : decode cX7_init 78 = .ok (.return_, 1) := by decide +kernel
theorem dX7_net_0 : decode cX7_net 0 = .ok (.iload_n 1, 1) := by decide +kernel
theorem dX7_net_1 : decode cX7_net 1 = .ok (.iconst 1, 1) := by decide +kernel
theorem dX7_net_2 : decode cX7_net 2 = .ok (.if_icmp .lt 9, 3) := by decide +kernel
theorem dX7_net_5 : decode cX7_net 5 = .ok (.iload_n 1, 1) := by decide +kernel
theorem dX7_net_6 : decode cX7_net 6 = .ok (.bipush 24, 2) := by decide +kernel
theorem dX7_net_8 : decode cX7_net 8 = .ok (.if_icmp .le 13, 3) := by decide +kernel
theorem dX7_net_11 : decode cX7_net 11 = .ok (.new 47, 3) := by decide +kernel
theorem dX7_net_14 : decode cX7_net 14 = .ok (.dup, 1) := by decide +kernel
theorem dX7_net_15 : decode cX7_net 15 = .ok (.ldc 49, 2) := by decide +kernel
theorem dX7_net_17 : decode cX7_net 17 = .ok (.invokespecial 51, 3) := by decide +kernel
theorem dX7_net_20 : decode cX7_net 20 = .ok (.athrow, 1) := by decide +kernel
theorem dX7_net_21 : decode cX7_net 21 = .ok (.aload_n 0, 1) := by decide +kernel
theorem dX7_net_22 : decode cX7_net 22 = .ok (.invokevirtual 54, 3) := by decide +kernel
theorem dX7_net_25 : decode cX7_net 25 = .ok (.aload_n 0, 1) := by decide +kernel
theorem dX7_net_26 : decode cX7_net 26 = .ok (.getfield 19, 3) := by decide +kernel
theorem dX7_net_29 : decode cX7_net 29 = .ok (.iload_n 1, 1) := by decide +kernel
theorem dX7_net_30 : decode cX7_net 30 = .ok (.invokevirtual 57, 3) := by decide +kernel
theorem dX7_net_33 : decode cX7_net 33 = .ok (.aload_n 0, 1) := by decide +kernel
theorem dX7_net_34 : decode cX7_net 34 = .ok (.getfield 23, 3) := by decide +kernel
theorem dX7_net_37 : decode cX7_net 37 = .ok (.iconst 0, 1) := by decide +kernel
theorem dX7_net_38 : decode cX7_net 38 = .ok (.invokestatic 61, 3) := by decide +kernel
theorem dX7_net_41 : decode cX7_net 41 = .ok (.aload_n 0, 1) := by decide +kernel
theorem dX7_net_42 : decode cX7_net 42 = .ok (.getfield 32, 3) := by decide +kernel
theorem dX7_net_45 : decode cX7_net 45 = .ok (.aload_n 0, 1) := by decide +kernel
theorem dX7_net_46 : decode cX7_net 46 = .ok (.getfield 23, 3) := by decide +kernel
theorem dX7_net_49 : decode cX7_net 49 = .ok (.invokevirtual 67, 3) := by decide +kernel
theorem dX7_net_52 : decode cX7_net 52 = .ok (.return_, 1) := by decide +kernel
theorem dX7_link_0 : decode cX7_link 0 = .ok (.aload_n 0, 1) := by decide +kernel
theorem dX7_link_1 : decode cX7_link 1 = .ok (.iload_n 1, 1) := by decide +kernel
theorem dX7_link_2 : decode cX7_link 2 = .ok (.invokevirtual 71, 3) := by decide +kernel
theorem dX7_link_5 : decode cX7_link 5 = .ok (.aload_n 0, 1) := by decide +kernel
theorem dX7_link_6 : decode cX7_link 6 = .ok (.iload_n 2, 1) := by decide +kernel
theorem dX7_link_7 : decode cX7_link 7 = .ok (.invokevirtual 71, 3) := by decide +kernel
theorem dX7_link_10 : decode cX7_link 10 = .ok (.iload_n 1, 1) := by decide +kernel
theorem dX7_link_11 : decode cX7_link 11 = .ok (.iload_n 2, 1) := by decide +kernel
theorem dX7_link_12 : decode cX7_link 12 = .ok (.if_icmp .ne 13, 3) := by decide +kernel
theorem dX7_link_15 : decode cX7_link 15 = .ok (.new 47, 3) := by decide +kernel
theorem dX7_link_18 : decode cX7_link 18 = .ok (.dup, 1) := by decide +kernel
theorem dX7_link_19 : decode cX7_link 19 = .ok (.ldc 74, 2) := by decide +kernel
theorem dX7_link_21 : decode cX7_link 21 = .ok (.invokespecial 51, 3) := by decide +kernel
theorem dX7_link_24 : decode cX7_link 24 = .ok (.athrow, 1) := by decide +kernel
theorem dX7_link_25 : decode cX7_link 25 = .ok (.aload_n 0, 1) := by decide +kernel
theorem dX7_link_26 : decode cX7_link 26 = .ok (.invokevirtual 54, 3) := by decide +kernel
theorem dX7_link_29 : decode cX7_link 29 = .ok (.aload_n 0, 1) := by decide +kernel
theorem dX7_link_30 : decode cX7_link 30 = .ok (.getfield 19, 3) := by decide +kernel
theorem dX7_link_33 : decode cX7_link 33 = .ok (.iload_n 1, 1) := by decide +kernel
theorem dX7_link_34 : decode cX7_link 34 = .ok (.iload_n 2, 1) := by decide +kernel
theorem dX7_link_35 : decode cX7_link 35 = .ok (.invokevirtual 76, 3) := by decide +kernel
theorem dX7_link_38 : decode cX7_link 38 = .ok (.ifCond .eq 13, 3) := by decide +kernel
theorem dX7_link_41 : decode cX7_link 41 = .ok (.new 80, 3) := by decide +kernel
theorem dX7_link_44 : decode cX7_link 44 = .ok (.dup, 1) := by decide +kernel
theorem dX7_link_45 : decode cX7_link 45 = .ok (.ldc 82, 2) := by decide +kernel
theorem dX7_link_47 : decode cX7_link 47 = .ok (.invokespecial 84, 3) := by decide +kernel
theorem dX7_link_50 : decode cX7_link 50 = .ok (.athrow, 1) := by decide +kernel
theorem dX7_link_51 : decode cX7_link 51 = .ok (.aload_n 0, 1) := by decide +kernel
theorem dX7_link_52 : decode cX7_link 52 = .ok (.getfield 19, 3) := by decide +kernel
theorem dX7_link_55 : decode cX7_link 55 = .ok (.getfield 85, 3) := by decide +kernel
theorem dX7_link_58 : decode cX7_link 58 = .ok (.bipush 60, 2) := by decide +kernel
theorem dX7_link_60 : decode cX7_link 60 = .ok (.if_icmp .ne 13, 3) := by decide +kernel
theorem dX7_link_63 : decode cX7_link 63 = .ok (.new 89, 3) := by decide +kernel
theorem dX7_link_66 : decode cX7_link 66 = .ok (.dup, 1) := by decide +kernel
theorem dX7_link_67 : decode cX7_link 67 = .ok (.ldc 91, 2) := by decide +kernel
theorem dX7_link_69 : decode cX7_link 69 = .ok (.invokespecial 93, 3) := by decide +kernel
theorem dX7_link_72 : decode cX7_link 72 = .ok (.athrow, 1) := by decide +kernel
theorem dX7_link_73 : decode cX7_link 73 = .ok (.aload_n 0, 1) := by decide +kernel
theorem dX7_link_74 : decode cX7_link 74 = .ok (.getfield 19, 3) := by decide +kernel
theorem dX7_link_77 : decode cX7_link 77 = .ok (.iload_n 1, 1) := by decide +kernel
theorem dX7_link_78 : decode cX7_link 78 = .ok (.iload_n 2, 1) := by decide +kernel
theorem dX7_link_79 : decode cX7_link 79 = .ok (.invokevirtual 94, 3) := by decide +kernel
theorem dX7_link_82 : decode cX7_link 82 = .ok (.ireturn, 1) := by decide +kernel
theorem dX7_word_0 : decode cX7_word 0 = .ok (.iload_n 1, 1) := by decide +kernel
theorem dX7_word_1 : decode cX7_word 1 = .ok (.ifCond .lt 14, 3) := by decide +kernel
theorem dX7_word_4 : decode cX7_word 4 = .ok (.iload_n 1, 1) := by decide +kernel
theorem dX7_word_5 : decode cX7_word 5 = .ok (.aload_n 0, 1) := by decide +kernel
theorem dX7_word_6 : decode cX7_word 6 = .ok (.getfield 10, 3) := by decide +kernel
theorem dX7_word_9 : decode cX7_word 9 = .ok (.getfield 98, 3) := by decide +kernel
theorem dX7_word_12 : decode cX7_word 12 = .ok (.if_icmp .le 13, 3) := by decide +kernel
theorem dX7_word_15 : decode cX7_word 15 = .ok (.new 47, 3) := by decide +kernel
theorem dX7_word_18 : decode cX7_word 18 = .ok (.dup, 1) := by decide +kernel
theorem dX7_word_19 : decode cX7_word 19 = .ok (.ldc 101, 2) := by decide +kernel
theorem dX7_word_21 : decode cX7_word 21 = .ok (.invokespecial 51, 3) := by decide +kernel
theorem dX7_word_24 : decode cX7_word 24 = .ok (.athrow, 1) := by decide +kernel
theorem dX7_word_25 : decode cX7_word 25 = .ok (.aload_n 0, 1) := by decide +kernel
theorem dX7_word_26 : decode cX7_word 26 = .ok (.invokevirtual 54, 3) := by decide +kernel
theorem dX7_word_29 : decode cX7_word 29 = .ok (.iload_n 1, 1) := by decide +kernel
theorem dX7_word_30 : decode cX7_word 30 = .ok (.bipush 64, 2) := by decide +kernel
theorem dX7_word_32 : decode cX7_word 32 = .ok (.if_icmp .ne 13, 3) := by decide +kernel
theorem dX7_word_35 : decode cX7_word 35 = .ok (.new 89, 3) := by decide +kernel
theorem dX7_word_38 : decode cX7_word 38 = .ok (.dup, 1) := by decide +kernel
theorem dX7_word_39 : decode cX7_word 39 = .ok (.ldc 103, 2) := by decide +kernel
theorem dX7_word_41 : decode cX7_word 41 = .ok (.invokespecial 93, 3) := by decide +kernel
theorem dX7_word_44 : decode cX7_word 44 = .ok (.athrow, 1) := by decide +kernel
theorem dX7_word_45 : decode cX7_word 45 = .ok (.aload_n 0, 1) := by decide +kernel
theorem dX7_word_46 : decode cX7_word 46 = .ok (.getfield 10, 3) := by decide +kernel
theorem dX7_word_49 : decode cX7_word 49 = .ok (.iload_n 1, 1) := by decide +kernel
theorem dX7_word_50 : decode cX7_word 50 = .ok (.iload_n 2, 1) := by decide +kernel
theorem dX7_word_51 : decode cX7_word 51 = .ok (.iload_n 3, 1) := by decide +kernel
theorem dX7_word_52 : decode cX7_word 52 = .ok (.iload 4, 2) := by decide +kernel
theorem dX7_word_54 : decode cX7_word 54 = .ok (.iload 5, 2) := by decide +kernel
theorem dX7_word_56 : decode cX7_word 56 = .ok (.invokevirtual 105, 3) := by decide +kernel
theorem dX7_word_59 : decode cX7_word 59 = .ok (.aload_n 0, 1) := by decide +kernel
theorem dX7_word_60 : decode cX7_word 60 = .ok (.getfield 10, 3) := by decide +kernel
theorem dX7_word_63 : decode cX7_word 63 = .ok (.getfield 98, 3) := by decide +kernel
theorem dX7_word_66 : decode cX7_word 66 = .ok (.ireturn, 1) := by decide +kernel
theorem dX7_builtin_0 : decode cX7_builtin 0 = .ok (.iload_n 1, 1) := by decide +kernel
theorem dX7_builtin_1 : decode cX7_builtin 1 = .ok (.ifCond .lt 8, 3) := by decide +kernel
theorem dX7_builtin_4 : decode cX7_builtin 4 = .ok (.iload_n 1, 1) := by decide +kernel
theorem dX7_builtin_5 : decode cX7_builtin 5 = .ok (.iconst 5, 1) := by decide +kernel
theorem dX7_builtin_6 : decode cX7_builtin 6 = .ok (.if_icmp .lt 13, 3) := by decide +kernel
theorem dX7_builtin_9 : decode cX7_builtin 9 = .ok (.new 47, 3) := by decide +kernel
theorem dX7_builtin_12 : decode cX7_builtin 12 = .ok (.dup, 1) := by decide +kernel
theorem dX7_builtin_13 : decode cX7_builtin 13 = .ok (.ldc 109, 2) := by decide +kernel
theorem dX7_builtin_15 : decode cX7_builtin 15 = .ok (.invokespecial 51, 3) := by decide +kernel
theorem dX7_builtin_18 : decode cX7_builtin 18 = .ok (.athrow, 1) := by decide +kernel
theorem dX7_builtin_19 : decode cX7_builtin 19 = .ok (.aload_n 0, 1) := by decide +kernel
theorem dX7_builtin_20 : decode cX7_builtin 20 = .ok (.invokevirtual 54, 3) := by decide +kernel
theorem dX7_builtin_23 : decode cX7_builtin 23 = .ok (.aload_n 0, 1) := by decide +kernel
theorem dX7_builtin_24 : decode cX7_builtin 24 = .ok (.getfield 10, 3) := by decide +kernel
theorem dX7_builtin_27 : decode cX7_builtin 27 = .ok (.iload_n 1, 1) := by decide +kernel
theorem dX7_builtin_28 : decode cX7_builtin 28 = .ok (.invokevirtual 111, 3) := by decide +kernel
theorem dX7_builtin_31 : decode cX7_builtin 31 = .ok (.aload_n 0, 1) := by decide +kernel
theorem dX7_builtin_32 : decode cX7_builtin 32 = .ok (.getfield 10, 3) := by decide +kernel
theorem dX7_builtin_35 : decode cX7_builtin 35 = .ok (.getfield 98, 3) := by decide +kernel
theorem dX7_builtin_38 : decode cX7_builtin 38 = .ok (.ireturn, 1) := by decide +kernel
theorem dX7_cutAt_0 : decode cX7_cutAt 0 = .ok (.iload_n 1, 1) := by decide +kernel
theorem dX7_cutAt_1 : decode cX7_cutAt 1 = .ok (.ifCond .lt 14, 3) := by decide +kernel
theorem dX7_cutAt_4 : decode cX7_cutAt 4 = .ok (.iload_n 1, 1) := by decide +kernel
theorem dX7_cutAt_5 : decode cX7_cutAt 5 = .ok (.aload_n 0, 1) := by decide +kernel
theorem dX7_cutAt_6 : decode cX7_cutAt 6 = .ok (.getfield 10, 3) := by decide +kernel
theorem dX7_cutAt_9 : decode cX7_cutAt 9 = .ok (.getfield 98, 3) := by decide +kernel
theorem dX7_cutAt_12 : decode cX7_cutAt 12 = .ok (.if_icmp .le 13, 3) := by decide +kernel
theorem dX7_cutAt_15 : decode cX7_cutAt 15 = .ok (.new 47, 3) := by decide +kernel
theorem dX7_cutAt_18 : decode cX7_cutAt 18 = .ok (.dup, 1) := by decide +kernel
theorem dX7_cutAt_19 : decode cX7_cutAt 19 = .ok (.ldc 114, 2) := by decide +kernel
theorem dX7_cutAt_21 : decode cX7_cutAt 21 = .ok (.invokespecial 51, 3) := by decide +kernel
theorem dX7_cutAt_24 : decode cX7_cutAt 24 = .ok (.athrow, 1) := by decide +kernel
theorem dX7_cutAt_25 : decode cX7_cutAt 25 = .ok (.aload_n 0, 1) := by decide +kernel
theorem dX7_cutAt_26 : decode cX7_cutAt 26 = .ok (.invokevirtual 54, 3) := by decide +kernel
theorem dX7_cutAt_29 : decode cX7_cutAt 29 = .ok (.aload_n 0, 1) := by decide +kernel
theorem dX7_cutAt_30 : decode cX7_cutAt 30 = .ok (.getfield 10, 3) := by decide +kernel
theorem dX7_cutAt_33 : decode cX7_cutAt 33 = .ok (.iload_n 1, 1) := by decide +kernel
theorem dX7_cutAt_34 : decode cX7_cutAt 34 = .ok (.putfield 98, 3) := by decide +kernel
theorem dX7_cutAt_37 : decode cX7_cutAt 37 = .ok (.return_, 1) := by decide +kernel
theorem dX7_check_0 : decode cX7_check 0 = .ok (.aload_n 0, 1) := by decide +kernel
theorem dX7_check_1 : decode cX7_check 1 = .ok (.getfield 10, 3) := by decide +kernel
theorem dX7_check_4 : decode cX7_check 4 = .ok (.invokevirtual 116, 3) := by decide +kernel
theorem dX7_check_7 : decode cX7_check 7 = .ok (.ireturn, 1) := by decide +kernel
theorem dX7_input_0 : decode cX7_input 0 = .ok (.aload_n 0, 1) := by decide +kernel
theorem dX7_input_1 : decode cX7_input 1 = .ok (.iload_n 1, 1) := by decide +kernel
theorem dX7_input_2 : decode cX7_input 2 = .ok (.invokevirtual 71, 3) := by decide +kernel
theorem dX7_input_5 : decode cX7_input 5 = .ok (.iload_n 2, 1) := by decide +kernel
theorem dX7_input_6 : decode cX7_input 6 = .ok (.invokestatic 120, 3) := by decide +kernel
theorem dX7_input_9 : decode cX7_input 9 = .ok (.aload_n 0, 1) := by decide +kernel
theorem dX7_input_10 : decode cX7_input 10 = .ok (.invokevirtual 54, 3) := by decide +kernel
theorem dX7_input_13 : decode cX7_input 13 = .ok (.aload_n 0, 1) := by decide +kernel
theorem dX7_input_14 : decode cX7_input 14 = .ok (.getfield 23, 3) := by decide +kernel
theorem dX7_input_17 : decode cX7_input 17 = .ok (.iload_n 1, 1) := by decide +kernel
theorem dX7_input_18 : decode cX7_input 18 = .ok (.bipush 8, 2) := by decide +kernel
theorem dX7_input_20 : decode cX7_input 20 = .ok (.imul, 1) := by decide +kernel
theorem dX7_input_21 : decode cX7_input 21 = .ok (.iload_n 2, 1) := by decide +kernel
theorem dX7_input_22 : decode cX7_input 22 = .ok (.iadd, 1) := by decide +kernel
theorem dX7_input_23 : decode cX7_input 23 = .ok (.iload_n 3, 1) := by decide +kernel
theorem dX7_input_24 : decode cX7_input 24 = .ok (.iastore, 1) := by decide +kernel
theorem dX7_input_25 : decode cX7_input 25 = .ok (.return_, 1) := by decide +kernel
theorem dX7_lockstep_0 : decode cX7_lockstep 0 = .ok (.iload_n 1, 1) := by decide +kernel
theorem dX7_lockstep_1 : decode cX7_lockstep 1 = .ok (.ifCond .lt 10, 3) := by decide +kernel
theorem dX7_lockstep_4 : decode cX7_lockstep 4 = .ok (.iload_n 1, 1) := by decide +kernel
theorem dX7_lockstep_5 : decode cX7_lockstep 5 = .ok (.sipush 300, 3) := by decide +kernel
theorem dX7_lockstep_8 : decode cX7_lockstep 8 = .ok (.if_icmp .le 13, 3) := by decide +kernel
theorem dX7_lockstep_11 : decode cX7_lockstep 11 = .ok (.new 47, 3) := by decide +kernel
theorem dX7_lockstep_14 : decode cX7_lockstep 14 = .ok (.dup, 1) := by decide +kernel
theorem dX7_lockstep_15 : decode cX7_lockstep 15 = .ok (.ldc 123, 2) := by decide +kernel
theorem dX7_lockstep_17 : decode cX7_lockstep 17 = .ok (.invokespecial 51, 3) := by decide +kernel
theorem dX7_lockstep_20 : decode cX7_lockstep 20 = .ok (.athrow, 1) := by decide +kernel
theorem dX7_lockstep_21 : decode cX7_lockstep 21 = .ok (.aload_n 0, 1) := by decide +kernel
theorem dX7_lockstep_22 : decode cX7_lockstep 22 = .ok (.invokevirtual 125, 3) := by decide +kernel
theorem dX7_lockstep_25 : decode cX7_lockstep 25 = .ok (.aload_n 0, 1) := by decide +kernel
theorem dX7_lockstep_26 : decode cX7_lockstep 26 = .ok (.getfield 32, 3) := by decide +kernel
theorem dX7_lockstep_29 : decode cX7_lockstep 29 = .ok (.aload_n 0, 1) := by decide +kernel
theorem dX7_lockstep_30 : decode cX7_lockstep 30 = .ok (.getfield 23, 3) := by decide +kernel
theorem dX7_lockstep_33 : decode cX7_lockstep 33 = .ok (.invokevirtual 67, 3) := by decide +kernel
theorem dX7_lockstep_36 : decode cX7_lockstep 36 = .ok (.iconst 1, 1) := by decide +kernel
theorem dX7_lockstep_37 : decode cX7_lockstep 37 = .ok (.istore_n 2, 1) := by decide +kernel
theorem dX7_lockstep_38 : decode cX7_lockstep 38 = .ok (.iload_n 2, 1) := by decide +kernel
theorem dX7_lockstep_39 : decode cX7_lockstep 39 = .ok (.iload_n 1, 1) := by decide +kernel
theorem dX7_lockstep_40 : decode cX7_lockstep 40 = .ok (.if_icmp .gt 46, 3) := by decide +kernel
theorem dX7_lockstep_43 : decode cX7_lockstep 43 = .ok (.iconst 0, 1) := by decide +kernel
theorem dX7_lockstep_44 : decode cX7_lockstep 44 = .ok (.istore_n 3, 1) := by decide +kernel
theorem dX7_lockstep_45 : decode cX7_lockstep 45 = .ok (.iload_n 3, 1) := by decide +kernel
theorem dX7_lockstep_46 : decode cX7_lockstep 46 = .ok (.aload_n 0, 1) := by decide +kernel
theorem dX7_lockstep_47 : decode cX7_lockstep 47 = .ok (.getfield 19, 3) := by decide +kernel
theorem dX7_lockstep_50 : decode cX7_lockstep 50 = .ok (.getfield 128, 3) := by decide +kernel
theorem dX7_lockstep_53 : decode cX7_lockstep 53 = .ok (.if_icmp .ge 27, 3) := by decide +kernel
theorem dX7_lockstep_56 : decode cX7_lockstep 56 = .ok (.aload_n 0, 1) := by decide +kernel
theorem dX7_lockstep_57 : decode cX7_lockstep 57 = .ok (.getfield 32, 3) := by decide +kernel
theorem dX7_lockstep_60 : decode cX7_lockstep 60 = .ok (.iload_n 3, 1) := by decide +kernel
theorem dX7_lockstep_61 : decode cX7_lockstep 61 = .ok (.iload_n 2, 1) := by decide +kernel
theorem dX7_lockstep_62 : decode cX7_lockstep 62 = .ok (.invokevirtual 129, 3) := by decide +kernel
theorem dX7_lockstep_65 : decode cX7_lockstep 65 = .ok (.aload_n 0, 1) := by decide +kernel
theorem dX7_lockstep_66 : decode cX7_lockstep 66 = .ok (.getfield 32, 3) := by decide +kernel
theorem dX7_lockstep_69 : decode cX7_lockstep 69 = .ok (.iload_n 3, 1) := by decide +kernel
theorem dX7_lockstep_70 : decode cX7_lockstep 70 = .ok (.iload_n 2, 1) := by decide +kernel
theorem dX7_lockstep_71 : decode cX7_lockstep 71 = .ok (.invokevirtual 133, 3) := by decide +kernel
theorem dX7_lockstep_74 : decode cX7_lockstep 74 = .ok (.iinc 3 1, 3) := by decide +kernel
theorem dX7_lockstep_77 : decode cX7_lockstep 77 = .ok (.goto (-32), 3) := by decide +kernel
theorem dX7_lockstep_80 : decode cX7_lockstep 80 = .ok (.iinc 2 1, 3) := by decide +kernel
theorem dX7_lockstep_83 : decode cX7_lockstep 83 = .ok (.goto (-45), 3) := by decide +kernel
theorem dX7_lockstep_86 : decode cX7_lockstep 86 = .ok (.return_, 1) := by decide +kernel
theorem dX7_plain_0 : decode cX7_plain 0 = .ok (.aload_n 0, 1) := by decide +kernel
theorem dX7_plain_1 : decode cX7_plain 1 = .ok (.iload_n 1, 1) := by decide +kernel
theorem dX7_plain_2 : decode cX7_plain 2 = .ok (.invokevirtual 71, 3) := by decide +kernel
theorem dX7_plain_5 : decode cX7_plain 5 = .ok (.iload_n 2, 1) := by decide +kernel
theorem dX7_plain_6 : decode cX7_plain 6 = .ok (.invokestatic 120, 3) := by decide +kernel
theorem dX7_plain_9 : decode cX7_plain 9 = .ok (.aload_n 0, 1) := by decide +kernel
theorem dX7_plain_10 : decode cX7_plain 10 = .ok (.getfield 32, 3) := by decide +kernel
theorem dX7_plain_13 : decode cX7_plain 13 = .ok (.getfield 136, 3) := by decide +kernel
theorem dX7_plain_16 : decode cX7_plain 16 = .ok (.iload_n 1, 1) := by decide +kernel
theorem dX7_plain_17 : decode cX7_plain 17 = .ok (.bipush 8, 2) := by decide +kernel
theorem dX7_plain_19 : decode cX7_plain 19 = .ok (.imul, 1) := by decide +kernel
theorem dX7_plain_20 : decode cX7_plain 20 = .ok (.iload_n 2, 1) := by decide +kernel
theorem dX7_plain_21 : decode cX7_plain 21 = .ok (.iadd, 1) := by decide +kernel
theorem dX7_plain_22 : decode cX7_plain 22 = .ok (.iaload, 1) := by decide +kernel
theorem dX7_plain_23 : decode cX7_plain 23 = .ok (.ireturn, 1) := by decide +kernel
theorem dX7_prepare_0 : decode cX7_prepare 0 = .ok (.iload_n 1, 1) := by decide +kernel
theorem dX7_prepare_1 : decode cX7_prepare 1 = .ok (.invokestatic 139, 3) := by decide +kernel
theorem dX7_prepare_4 : decode cX7_prepare 4 = .ok (.ifCond .eq 14, 3) := by decide +kernel
theorem dX7_prepare_7 : decode cX7_prepare 7 = .ok (.iload_n 2, 1) := by decide +kernel
theorem dX7_prepare_8 : decode cX7_prepare 8 = .ok (.iconst 2, 1) := by decide +kernel
theorem dX7_prepare_9 : decode cX7_prepare 9 = .ok (.if_icmp .lt 9, 3) := by decide +kernel
theorem dX7_prepare_12 : decode cX7_prepare 12 = .ok (.iload_n 2, 1) := by decide +kernel
theorem dX7_prepare_13 : decode cX7_prepare 13 = .ok (.bipush 8, 2) := by decide +kernel
theorem dX7_prepare_15 : decode cX7_prepare 15 = .ok (.if_icmp .le 13, 3) := by decide +kernel
theorem dX7_prepare_18 : decode cX7_prepare 18 = .ok (.new 47, 3) := by decide +kernel
theorem dX7_prepare_21 : decode cX7_prepare 21 = .ok (.dup, 1) := by decide +kernel
theorem dX7_prepare_22 : decode cX7_prepare 22 = .ok (.ldc 143, 2) := by decide +kernel
theorem dX7_prepare_24 : decode cX7_prepare 24 = .ok (.invokespecial 51, 3) := by decide +kernel
theorem dX7_prepare_27 : decode cX7_prepare 27 = .ok (.athrow, 1) := by decide +kernel
theorem dX7_prepare_28 : decode cX7_prepare 28 = .ok (.aload_n 0, 1) := by decide +kernel
theorem dX7_prepare_29 : decode cX7_prepare 29 = .ok (.invokevirtual 54, 3) := by decide +kernel
theorem dX7_prepare_32 : decode cX7_prepare 32 = .ok (.aload_n 0, 1) := by decide +kernel
theorem dX7_prepare_33 : decode cX7_prepare 33 = .ok (.invokevirtual 125, 3) := by decide +kernel
theorem dX7_prepare_36 : decode cX7_prepare 36 = .ok (.aload_n 0, 1) := by decide +kernel
theorem dX7_prepare_37 : decode cX7_prepare 37 = .ok (.getfield 19, 3) := by decide +kernel
theorem dX7_prepare_40 : decode cX7_prepare 40 = .ok (.invokevirtual 145, 3) := by decide +kernel
theorem dX7_prepare_43 : decode cX7_prepare 43 = .ok (.ifCond .ne 13, 3) := by decide +kernel
theorem dX7_prepare_46 : decode cX7_prepare 46 = .ok (.new 80, 3) := by decide +kernel
theorem dX7_prepare_49 : decode cX7_prepare 49 = .ok (.dup, 1) := by decide +kernel
theorem dX7_prepare_50 : decode cX7_prepare 50 = .ok (.ldc 149, 2) := by decide +kernel
theorem dX7_prepare_52 : decode cX7_prepare 52 = .ok (.invokespecial 84, 3) := by decide +kernel
theorem dX7_prepare_55 : decode cX7_prepare 55 = .ok (.athrow, 1) := by decide +kernel
theorem dX7_prepare_56 : decode cX7_prepare 56 = .ok (.aload_n 0, 1) := by decide +kernel
theorem dX7_prepare_57 : decode cX7_prepare 57 = .ok (.getfield 39, 3) := by decide +kernel
theorem dX7_prepare_60 : decode cX7_prepare 60 = .ok (.aload_n 0, 1) := by decide +kernel
theorem dX7_prepare_61 : decode cX7_prepare 61 = .ok (.getfield 23, 3) := by decide +kernel
theorem dX7_prepare_64 : decode cX7_prepare 64 = .ok (.iload_n 1, 1) := by decide +kernel
theorem dX7_prepare_65 : decode cX7_prepare 65 = .ok (.iload_n 2, 1) := by decide +kernel
theorem dX7_prepare_66 : decode cX7_prepare 66 = .ok (.invokevirtual 151, 3) := by decide +kernel
theorem dX7_prepare_69 : decode cX7_prepare 69 = .ok (.aload_n 0, 1) := by decide +kernel
theorem dX7_prepare_70 : decode cX7_prepare 70 = .ok (.iconst 1, 1) := by decide +kernel
theorem dX7_prepare_71 : decode cX7_prepare 71 = .ok (.putfield 43, 3) := by decide +kernel
theorem dX7_prepare_74 : decode cX7_prepare 74 = .ok (.aload_n 0, 1) := by decide +kernel
theorem dX7_prepare_75 : decode cX7_prepare 75 = .ok (.getfield 39, 3) := by decide +kernel
theorem dX7_prepare_78 : decode cX7_prepare 78 = .ok (.getfield 154, 3) := by decide +kernel
theorem dX7_prepare_81 : decode cX7_prepare 81 = .ok (.getfield 158, 3) := by decide +kernel
theorem dX7_prepare_84 : decode cX7_prepare 84 = .ok (.ireturn, 1) := by decide +kernel
theorem dX7_release_0 : decode cX7_release 0 = .ok (.aload_n 0, 1) := by decide +kernel
theorem dX7_release_1 : decode cX7_release 1 = .ok (.invokevirtual 161, 3) := by decide +kernel
theorem dX7_release_4 : decode cX7_release 4 = .ok (.aload_n 0, 1) := by decide +kernel
theorem dX7_release_5 : decode cX7_release 5 = .ok (.iconst 0, 1) := by decide +kernel
theorem dX7_release_6 : decode cX7_release 6 = .ok (.putfield 43, 3) := by decide +kernel
theorem dX7_release_9 : decode cX7_release 9 = .ok (.return_, 1) := by decide +kernel
theorem dX7_stopAt_0 : decode cX7_stopAt 0 = .ok (.aload_n 0, 1) := by decide +kernel
theorem dX7_stopAt_1 : decode cX7_stopAt 1 = .ok (.invokevirtual 161, 3) := by decide +kernel
theorem dX7_stopAt_4 : decode cX7_stopAt 4 = .ok (.iload_n 1, 1) := by decide +kernel
theorem dX7_stopAt_5 : decode cX7_stopAt 5 = .ok (.sipush 500, 3) := by decide +kernel
theorem dX7_stopAt_8 : decode cX7_stopAt 8 = .ok (.if_icmp .gt 14, 3) := by decide +kernel
theorem dX7_stopAt_11 : decode cX7_stopAt 11 = .ok (.iload_n 1, 1) := by decide +kernel
theorem dX7_stopAt_12 : decode cX7_stopAt 12 = .ok (.aload_n 0, 1) := by decide +kernel
theorem dX7_stopAt_13 : decode cX7_stopAt 13 = .ok (.getfield 39, 3) := by decide +kernel
theorem dX7_stopAt_16 : decode cX7_stopAt 16 = .ok (.getfield 164, 3) := by decide +kernel
theorem dX7_stopAt_19 : decode cX7_stopAt 19 = .ok (.if_icmp .ge 13, 3) := by decide +kernel
theorem dX7_stopAt_22 : decode cX7_stopAt 22 = .ok (.new 47, 3) := by decide +kernel
theorem dX7_stopAt_25 : decode cX7_stopAt 25 = .ok (.dup, 1) := by decide +kernel
theorem dX7_stopAt_26 : decode cX7_stopAt 26 = .ok (.ldc 167, 2) := by decide +kernel
theorem dX7_stopAt_28 : decode cX7_stopAt 28 = .ok (.invokespecial 51, 3) := by decide +kernel
theorem dX7_stopAt_31 : decode cX7_stopAt 31 = .ok (.athrow, 1) := by decide +kernel
theorem dX7_stopAt_32 : decode cX7_stopAt 32 = .ok (.aload_n 0, 1) := by decide +kernel
theorem dX7_stopAt_33 : decode cX7_stopAt 33 = .ok (.getfield 39, 3) := by decide +kernel
theorem dX7_stopAt_36 : decode cX7_stopAt 36 = .ok (.iload_n 1, 1) := by decide +kernel
theorem dX7_stopAt_37 : decode cX7_stopAt 37 = .ok (.putfield 164, 3) := by decide +kernel
theorem dX7_stopAt_40 : decode cX7_stopAt 40 = .ok (.iconst 0, 1) := by decide +kernel
theorem dX7_stopAt_41 : decode cX7_stopAt 41 = .ok (.istore_n 2, 1) := by decide +kernel
theorem dX7_stopAt_42 : decode cX7_stopAt 42 = .ok (.iload_n 2, 1) := by decide +kernel
theorem dX7_stopAt_43 : decode cX7_stopAt 43 = .ok (.aload_n 0, 1) := by decide +kernel
theorem dX7_stopAt_44 : decode cX7_stopAt 44 = .ok (.getfield 19, 3) := by decide +kernel
theorem dX7_stopAt_47 : decode cX7_stopAt 47 = .ok (.getfield 128, 3) := by decide +kernel
theorem dX7_stopAt_50 : decode cX7_stopAt 50 = .ok (.if_icmp .ge 17, 3) := by decide +kernel
theorem dX7_stopAt_53 : decode cX7_stopAt 53 = .ok (.aload_n 0, 1) := by decide +kernel
theorem dX7_stopAt_54 : decode cX7_stopAt 54 = .ok (.getfield 39, 3) := by decide +kernel
theorem dX7_stopAt_57 : decode cX7_stopAt 57 = .ok (.iload_n 2, 1) := by decide +kernel
theorem dX7_stopAt_58 : decode cX7_stopAt 58 = .ok (.invokevirtual 169, 3) := by decide +kernel
theorem dX7_stopAt_61 : decode cX7_stopAt 61 = .ok (.iinc 2 1, 3) := by decide +kernel
theorem dX7_stopAt_64 : decode cX7_stopAt 64 = .ok (.goto (-22), 3) := by decide +kernel
theorem dX7_stopAt_67 : decode cX7_stopAt 67 = .ok (.return_, 1) := by decide +kernel
theorem dX7_letters_0 : decode cX7_letters 0 = .ok (.aload_n 0, 1) := by decide +kernel
theorem dX7_letters_1 : decode cX7_letters 1 = .ok (.getfield 43, 3) := by decide +kernel
theorem dX7_letters_4 : decode cX7_letters 4 = .ok (.ifCond .eq 16, 3) := by decide +kernel
theorem dX7_letters_7 : decode cX7_letters 7 = .ok (.aload_n 0, 1) := by decide +kernel
theorem dX7_letters_8 : decode cX7_letters 8 = .ok (.getfield 39, 3) := by decide +kernel
theorem dX7_letters_11 : decode cX7_letters 11 = .ok (.getfield 172, 3) := by decide +kernel
theorem dX7_letters_14 : decode cX7_letters 14 = .ok (.getfield 176, 3) := by decide +kernel
theorem dX7_letters_17 : decode cX7_letters 17 = .ok (.goto 4, 3) := by decide +kernel
theorem dX7_letters_20 : decode cX7_letters 20 = .ok (.iconst 0, 1) := by decide +kernel
theorem dX7_letters_21 : decode cX7_letters 21 = .ok (.ireturn, 1) := by decide +kernel
theorem dX7_letter_0 : decode cX7_letter 0 = .ok (.aload_n 0, 1) := by decide +kernel
theorem dX7_letter_1 : decode cX7_letter 1 = .ok (.iload_n 1, 1) := by decide +kernel
theorem dX7_letter_2 : decode cX7_letter 2 = .ok (.invokevirtual 179, 3) := by decide +kernel
theorem dX7_letter_5 : decode cX7_letter 5 = .ok (.iload_n 2, 1) := by decide +kernel
theorem dX7_letter_6 : decode cX7_letter 6 = .ok (.ifCond .lt 8, 3) := by decide +kernel
theorem dX7_letter_9 : decode cX7_letter 9 = .ok (.iload_n 2, 1) := by decide +kernel
theorem dX7_letter_10 : decode cX7_letter 10 = .ok (.iconst 5, 1) := by decide +kernel
theorem dX7_letter_11 : decode cX7_letter 11 = .ok (.if_icmp .lt 13, 3) := by decide +kernel
theorem dX7_letter_14 : decode cX7_letter 14 = .ok (.new 182, 3) := by decide +kernel
theorem dX7_letter_17 : decode cX7_letter 17 = .ok (.dup, 1) := by decide +kernel
theorem dX7_letter_18 : decode cX7_letter 18 = .ok (.ldc 184, 2) := by decide +kernel
theorem dX7_letter_20 : decode cX7_letter 20 = .ok (.invokespecial 186, 3) := by decide +kernel
theorem dX7_letter_23 : decode cX7_letter 23 = .ok (.athrow, 1) := by decide +kernel
theorem dX7_letter_24 : decode cX7_letter 24 = .ok (.aload_n 0, 1) := by decide +kernel
theorem dX7_letter_25 : decode cX7_letter 25 = .ok (.getfield 39, 3) := by decide +kernel
theorem dX7_letter_28 : decode cX7_letter 28 = .ok (.getfield 172, 3) := by decide +kernel
theorem dX7_letter_31 : decode cX7_letter 31 = .ok (.getfield 187, 3) := by decide +kernel
theorem dX7_letter_34 : decode cX7_letter 34 = .ok (.iload_n 2, 1) := by decide +kernel
theorem dX7_letter_35 : decode cX7_letter 35 = .ok (.aaload, 1) := by decide +kernel
theorem dX7_letter_36 : decode cX7_letter 36 = .ok (.iload_n 1, 1) := by decide +kernel
theorem dX7_letter_37 : decode cX7_letter 37 = .ok (.iaload, 1) := by decide +kernel
theorem dX7_letter_38 : decode cX7_letter 38 = .ok (.ireturn, 1) := by decide +kernel
theorem dX7_deliver_0 : decode cX7_deliver 0 = .ok (.aload_n 0, 1) := by decide +kernel
theorem dX7_deliver_1 : decode cX7_deliver 1 = .ok (.iload_n 1, 1) := by decide +kernel
theorem dX7_deliver_2 : decode cX7_deliver 2 = .ok (.invokevirtual 179, 3) := by decide +kernel
theorem dX7_deliver_5 : decode cX7_deliver 5 = .ok (.aload_n 0, 1) := by decide +kernel
theorem dX7_deliver_6 : decode cX7_deliver 6 = .ok (.getfield 39, 3) := by decide +kernel
theorem dX7_deliver_9 : decode cX7_deliver 9 = .ok (.iload_n 1, 1) := by decide +kernel
theorem dX7_deliver_10 : decode cX7_deliver 10 = .ok (.invokevirtual 191, 3) := by decide +kernel
theorem dX7_deliver_13 : decode cX7_deliver 13 = .ok (.ireturn, 1) := by decide +kernel
theorem dX7_deliverAll_0 : decode cX7_deliverAll 0 = .ok (.iload_n 1, 1) := by decide +kernel
theorem dX7_deliverAll_1 : decode cX7_deliverAll 1 = .ok (.ifCond .lt 19, 3) := by decide +kernel
theorem dX7_deliverAll_4 : decode cX7_deliverAll 4 = .ok (.iload_n 1, 1) := by decide +kernel
theorem dX7_deliverAll_5 : decode cX7_deliverAll 5 = .ok (.iconst 2, 1) := by decide +kernel
theorem dX7_deliverAll_6 : decode cX7_deliverAll 6 = .ok (.if_icmp .gt 14, 3) := by decide +kernel
theorem dX7_deliverAll_9 : decode cX7_deliverAll 9 = .ok (.iload_n 3, 1) := by decide +kernel
theorem dX7_deliverAll_10 : decode cX7_deliverAll 10 = .ok (.ifCond .lt 10, 3) := by decide +kernel
theorem dX7_deliverAll_13 : decode cX7_deliverAll 13 = .ok (.iload_n 3, 1) := by decide +kernel
theorem dX7_deliverAll_14 : decode cX7_deliverAll 14 = .ok (.sipush 2000, 3) := by decide +kernel
theorem dX7_deliverAll_17 : decode cX7_deliverAll 17 = .ok (.if_icmp .le 13, 3) := by decide +kernel
theorem dX7_deliverAll_20 : decode cX7_deliverAll 20 = .ok (.new 47, 3) := by decide +kernel
theorem dX7_deliverAll_23 : decode cX7_deliverAll 23 = .ok (.dup, 1) := by decide +kernel
theorem dX7_deliverAll_24 : decode cX7_deliverAll 24 = .ok (.ldc 195, 2) := by decide +kernel
theorem dX7_deliverAll_26 : decode cX7_deliverAll 26 = .ok (.invokespecial 51, 3) := by decide +kernel
theorem dX7_deliverAll_29 : decode cX7_deliverAll 29 = .ok (.athrow, 1) := by decide +kernel
theorem dX7_deliverAll_30 : decode cX7_deliverAll 30 = .ok (.aload_n 0, 1) := by decide +kernel
theorem dX7_deliverAll_31 : decode cX7_deliverAll 31 = .ok (.invokevirtual 161, 3) := by decide +kernel
theorem dX7_deliverAll_34 : decode cX7_deliverAll 34 = .ok (.iload_n 2, 1) := by decide +kernel
theorem dX7_deliverAll_35 : decode cX7_deliverAll 35 = .ok (.istore 4, 2) := by decide +kernel
theorem dX7_deliverAll_37 : decode cX7_deliverAll 37 = .ok (.iconst 0, 1) := by decide +kernel
theorem dX7_deliverAll_38 : decode cX7_deliverAll 38 = .ok (.istore 5, 2) := by decide +kernel
theorem dX7_deliverAll_40 : decode cX7_deliverAll 40 = .ok (.iload 5, 2) := by decide +kernel
theorem dX7_deliverAll_42 : decode cX7_deliverAll 42 = .ok (.iload_n 3, 1) := by decide +kernel
theorem dX7_deliverAll_43 : decode cX7_deliverAll 43 = .ok (.if_icmp .ge 91, 3) := by decide +kernel
theorem dX7_deliverAll_46 : decode cX7_deliverAll 46 = .ok (.aload_n 0, 1) := by decide +kernel
theorem dX7_deliverAll_47 : decode cX7_deliverAll 47 = .ok (.getfield 39, 3) := by decide +kernel
theorem dX7_deliverAll_50 : decode cX7_deliverAll 50 = .ok (.getfield 172, 3) := by decide +kernel
theorem dX7_deliverAll_53 : decode cX7_deliverAll 53 = .ok (.getfield 176, 3) := by decide +kernel
theorem dX7_deliverAll_56 : decode cX7_deliverAll 56 = .ok (.ifCond .le 78, 3) := by decide +kernel
theorem dX7_deliverAll_59 : decode cX7_deliverAll 59 = .ok (.iconst 0, 1) := by decide +kernel
theorem dX7_deliverAll_60 : decode cX7_deliverAll 60 = .ok (.istore 6, 2) := by decide +kernel
theorem dX7_deliverAll_62 : decode cX7_deliverAll 62 = .ok (.iload_n 1, 1) := by decide +kernel
theorem dX7_deliverAll_63 : decode cX7_deliverAll 63 = .ok (.iconst 1, 1) := by decide +kernel
theorem dX7_deliverAll_64 : decode cX7_deliverAll 64 = .ok (.if_icmp .ne 20, 3) := by decide +kernel
theorem dX7_deliverAll_67 : decode cX7_deliverAll 67 = .ok (.aload_n 0, 1) := by decide +kernel
theorem dX7_deliverAll_68 : decode cX7_deliverAll 68 = .ok (.getfield 39, 3) := by decide +kernel
theorem dX7_deliverAll_71 : decode cX7_deliverAll 71 = .ok (.getfield 172, 3) := by decide +kernel
theorem dX7_deliverAll_74 : decode cX7_deliverAll 74 = .ok (.getfield 176, 3) := by decide +kernel
theorem dX7_deliverAll_77 : decode cX7_deliverAll 77 = .ok (.iconst 1, 1) := by decide +kernel
theorem dX7_deliverAll_78 : decode cX7_deliverAll 78 = .ok (.isub, 1) := by decide +kernel
theorem dX7_deliverAll_79 : decode cX7_deliverAll 79 = .ok (.istore 6, 2) := by decide +kernel
theorem dX7_deliverAll_81 : decode cX7_deliverAll 81 = .ok (.goto 37, 3) := by decide +kernel
theorem dX7_deliverAll_84 : decode cX7_deliverAll 84 = .ok (.iload_n 1, 1) := by decide +kernel
theorem dX7_deliverAll_85 : decode cX7_deliverAll 85 = .ok (.iconst 2, 1) := by decide +kernel
theorem dX7_deliverAll_86 : decode cX7_deliverAll 86 = .ok (.if_icmp .ne 32, 3) := by decide +kernel
theorem dX7_deliverAll_89 : decode cX7_deliverAll 89 = .ok (.iload 4, 2) := by decide +kernel
theorem dX7_deliverAll_91 : decode cX7_deliverAll 91 = .ok (.ldc 197, 2) := by decide +kernel
theorem dX7_deliverAll_93 : decode cX7_deliverAll 93 = .ok (.imul, 1) := by decide +kernel
theorem dX7_deliverAll_94 : decode cX7_deliverAll 94 = .ok (.sipush 12345, 3) := by decide +kernel
theorem dX7_deliverAll_97 : decode cX7_deliverAll 97 = .ok (.iadd, 1) := by decide +kernel
theorem dX7_deliverAll_98 : decode cX7_deliverAll 98 = .ok (.istore 4, 2) := by decide +kernel
theorem dX7_deliverAll_100 : decode cX7_deliverAll 100 = .ok (.iload 4, 2) := by decide +kernel
theorem dX7_deliverAll_102 : decode cX7_deliverAll 102 = .ok (.bipush 16, 2) := by decide +kernel
theorem dX7_deliverAll_104 : decode cX7_deliverAll 104 = .ok (.iushr, 1) := by decide +kernel
theorem dX7_deliverAll_105 : decode cX7_deliverAll 105 = .ok (.aload_n 0, 1) := by decide +kernel
theorem dX7_deliverAll_106 : decode cX7_deliverAll 106 = .ok (.getfield 39, 3) := by decide +kernel
theorem dX7_deliverAll_109 : decode cX7_deliverAll 109 = .ok (.getfield 172, 3) := by decide +kernel
theorem dX7_deliverAll_112 : decode cX7_deliverAll 112 = .ok (.getfield 176, 3) := by decide +kernel
theorem dX7_deliverAll_115 : decode cX7_deliverAll 115 = .ok (.irem, 1) := by decide +kernel
theorem dX7_deliverAll_116 : decode cX7_deliverAll 116 = .ok (.istore 6, 2) := by decide +kernel
theorem dX7_deliverAll_118 : decode cX7_deliverAll 118 = .ok (.aload_n 0, 1) := by decide +kernel
theorem dX7_deliverAll_119 : decode cX7_deliverAll 119 = .ok (.getfield 39, 3) := by decide +kernel
theorem dX7_deliverAll_122 : decode cX7_deliverAll 122 = .ok (.iload 6, 2) := by decide +kernel
theorem dX7_deliverAll_124 : decode cX7_deliverAll 124 = .ok (.invokevirtual 191, 3) := by decide +kernel
theorem dX7_deliverAll_127 : decode cX7_deliverAll 127 = .ok (.pop, 1) := by decide +kernel
theorem dX7_deliverAll_128 : decode cX7_deliverAll 128 = .ok (.iinc 5 1, 3) := by decide +kernel
theorem dX7_deliverAll_131 : decode cX7_deliverAll 131 = .ok (.goto (-91), 3) := by decide +kernel
theorem dX7_deliverAll_134 : decode cX7_deliverAll 134 = .ok (.iload 5, 2) := by decide +kernel
theorem dX7_deliverAll_136 : decode cX7_deliverAll 136 = .ok (.ireturn, 1) := by decide +kernel
theorem dX7_switchTo_0 : decode cX7_switchTo 0 = .ok (.iload_n 1, 1) := by decide +kernel
theorem dX7_switchTo_1 : decode cX7_switchTo 1 = .ok (.invokestatic 139, 3) := by decide +kernel
theorem dX7_switchTo_4 : decode cX7_switchTo 4 = .ok (.ifCond .ne 13, 3) := by decide +kernel
theorem dX7_switchTo_7 : decode cX7_switchTo 7 = .ok (.new 47, 3) := by decide +kernel
theorem dX7_switchTo_10 : decode cX7_switchTo 10 = .ok (.dup, 1) := by decide +kernel
theorem dX7_switchTo_11 : decode cX7_switchTo 11 = .ok (.ldc 198, 2) := by decide +kernel
theorem dX7_switchTo_13 : decode cX7_switchTo 13 = .ok (.invokespecial 51, 3) := by decide +kernel
theorem dX7_switchTo_16 : decode cX7_switchTo 16 = .ok (.athrow, 1) := by decide +kernel
theorem dX7_switchTo_17 : decode cX7_switchTo 17 = .ok (.aload_n 0, 1) := by decide +kernel
theorem dX7_switchTo_18 : decode cX7_switchTo 18 = .ok (.invokevirtual 161, 3) := by decide +kernel
theorem dX7_switchTo_21 : decode cX7_switchTo 21 = .ok (.aload_n 0, 1) := by decide +kernel
theorem dX7_switchTo_22 : decode cX7_switchTo 22 = .ok (.getfield 39, 3) := by decide +kernel
theorem dX7_switchTo_25 : decode cX7_switchTo 25 = .ok (.getfield 200, 3) := by decide +kernel
theorem dX7_switchTo_28 : decode cX7_switchTo 28 = .ok (.bipush 8, 2) := by decide +kernel
theorem dX7_switchTo_30 : decode cX7_switchTo 30 = .ok (.if_icmp .le 13, 3) := by decide +kernel
theorem dX7_switchTo_33 : decode cX7_switchTo 33 = .ok (.new 89, 3) := by decide +kernel
theorem dX7_switchTo_36 : decode cX7_switchTo 36 = .ok (.dup, 1) := by decide +kernel
theorem dX7_switchTo_37 : decode cX7_switchTo 37 = .ok (.ldc 203, 2) := by decide +kernel
theorem dX7_switchTo_39 : decode cX7_switchTo 39 = .ok (.invokespecial 93, 3) := by decide +kernel
theorem dX7_switchTo_42 : decode cX7_switchTo 42 = .ok (.athrow, 1) := by decide +kernel
theorem dX7_switchTo_43 : decode cX7_switchTo 43 = .ok (.aload_n 0, 1) := by decide +kernel
theorem dX7_switchTo_44 : decode cX7_switchTo 44 = .ok (.getfield 39, 3) := by decide +kernel
theorem dX7_switchTo_47 : decode cX7_switchTo 47 = .ok (.iload_n 1, 1) := by decide +kernel
theorem dX7_switchTo_48 : decode cX7_switchTo 48 = .ok (.invokevirtual 205, 3) := by decide +kernel
theorem dX7_switchTo_51 : decode cX7_switchTo 51 = .ok (.ireturn, 1) := by decide +kernel
theorem dX7_roundOf_0 : decode cX7_roundOf 0 = .ok (.aload_n 0, 1) := by decide +kernel
theorem dX7_roundOf_1 : decode cX7_roundOf 1 = .ok (.iload_n 1, 1) := by decide +kernel
theorem dX7_roundOf_2 : decode cX7_roundOf 2 = .ok (.invokevirtual 71, 3) := by decide +kernel
theorem dX7_roundOf_5 : decode cX7_roundOf 5 = .ok (.aload_n 0, 1) := by decide +kernel
theorem dX7_roundOf_6 : decode cX7_roundOf 6 = .ok (.invokevirtual 161, 3) := by decide +kernel
theorem dX7_roundOf_9 : decode cX7_roundOf 9 = .ok (.aload_n 0, 1) := by decide +kernel
theorem dX7_roundOf_10 : decode cX7_roundOf 10 = .ok (.getfield 39, 3) := by decide +kernel
theorem dX7_roundOf_13 : decode cX7_roundOf 13 = .ok (.getfield 208, 3) := by decide +kernel
theorem dX7_roundOf_16 : decode cX7_roundOf 16 = .ok (.iload_n 1, 1) := by decide +kernel
theorem dX7_roundOf_17 : decode cX7_roundOf 17 = .ok (.iaload, 1) := by decide +kernel
theorem dX7_roundOf_18 : decode cX7_roundOf 18 = .ok (.ireturn, 1) := by decide +kernel
theorem dX7_value_0 : decode cX7_value 0 = .ok (.aload_n 0, 1) := by decide +kernel
theorem dX7_value_1 : decode cX7_value 1 = .ok (.iload_n 1, 1) := by decide +kernel
theorem dX7_value_2 : decode cX7_value 2 = .ok (.invokevirtual 71, 3) := by decide +kernel
theorem dX7_value_5 : decode cX7_value 5 = .ok (.iload_n 2, 1) := by decide +kernel
theorem dX7_value_6 : decode cX7_value 6 = .ok (.invokestatic 120, 3) := by decide +kernel
theorem dX7_value_9 : decode cX7_value 9 = .ok (.aload_n 0, 1) := by decide +kernel
theorem dX7_value_10 : decode cX7_value 10 = .ok (.invokevirtual 161, 3) := by decide +kernel
theorem dX7_value_13 : decode cX7_value 13 = .ok (.aload_n 0, 1) := by decide +kernel
theorem dX7_value_14 : decode cX7_value 14 = .ok (.getfield 39, 3) := by decide +kernel
theorem dX7_value_17 : decode cX7_value 17 = .ok (.getfield 211, 3) := by decide +kernel
theorem dX7_value_20 : decode cX7_value 20 = .ok (.getfield 136, 3) := by decide +kernel
theorem dX7_value_23 : decode cX7_value 23 = .ok (.iload_n 1, 1) := by decide +kernel
theorem dX7_value_24 : decode cX7_value 24 = .ok (.bipush 8, 2) := by decide +kernel
theorem dX7_value_26 : decode cX7_value 26 = .ok (.imul, 1) := by decide +kernel
theorem dX7_value_27 : decode cX7_value 27 = .ok (.iload_n 2, 1) := by decide +kernel
theorem dX7_value_28 : decode cX7_value 28 = .ok (.iadd, 1) := by decide +kernel
theorem dX7_value_29 : decode cX7_value 29 = .ok (.iaload, 1) := by decide +kernel
theorem dX7_value_30 : decode cX7_value 30 = .ok (.ireturn, 1) := by decide +kernel
theorem dX7_place_0 : decode cX7_place 0 = .ok (.aload_n 0, 1) := by decide +kernel
theorem dX7_place_1 : decode cX7_place 1 = .ok (.iload_n 1, 1) := by decide +kernel
theorem dX7_place_2 : decode cX7_place 2 = .ok (.invokevirtual 71, 3) := by decide +kernel
theorem dX7_place_5 : decode cX7_place 5 = .ok (.iload_n 2, 1) := by decide +kernel
theorem dX7_place_6 : decode cX7_place 6 = .ok (.ifCond .lt 8, 3) := by decide +kernel
theorem dX7_place_9 : decode cX7_place 9 = .ok (.iload_n 2, 1) := by decide +kernel
theorem dX7_place_10 : decode cX7_place 10 = .ok (.iconst 5, 1) := by decide +kernel
theorem dX7_place_11 : decode cX7_place 11 = .ok (.if_icmp .le 13, 3) := by decide +kernel
theorem dX7_place_14 : decode cX7_place 14 = .ok (.new 182, 3) := by decide +kernel
theorem dX7_place_17 : decode cX7_place 17 = .ok (.dup, 1) := by decide +kernel
theorem dX7_place_18 : decode cX7_place 18 = .ok (.ldc 214, 2) := by decide +kernel
theorem dX7_place_20 : decode cX7_place 20 = .ok (.invokespecial 186, 3) := by decide +kernel
theorem dX7_place_23 : decode cX7_place 23 = .ok (.athrow, 1) := by decide +kernel
theorem dX7_place_24 : decode cX7_place 24 = .ok (.aload_n 0, 1) := by decide +kernel
theorem dX7_place_25 : decode cX7_place 25 = .ok (.invokevirtual 161, 3) := by decide +kernel
theorem dX7_place_28 : decode cX7_place 28 = .ok (.iload_n 2, 1) := by decide +kernel
theorem dX7_place_29 : decode cX7_place 29 = .ok (.tableswitch 106 0 4 #[35, 48, 61, 74, 90], 35) := by decide +kernel
theorem dX7_place_64 : decode cX7_place 64 = .ok (.aload_n 0, 1) := by decide +kernel
theorem dX7_place_65 : decode cX7_place 65 = .ok (.getfield 39, 3) := by decide +kernel
theorem dX7_place_68 : decode cX7_place 68 = .ok (.getfield 216, 3) := by decide +kernel
theorem dX7_place_71 : decode cX7_place 71 = .ok (.getfield 220, 3) := by decide +kernel
theorem dX7_place_74 : decode cX7_place 74 = .ok (.iload_n 1, 1) := by decide +kernel
theorem dX7_place_75 : decode cX7_place 75 = .ok (.iaload, 1) := by decide +kernel
theorem dX7_place_76 : decode cX7_place 76 = .ok (.ireturn, 1) := by decide +kernel
theorem dX7_place_77 : decode cX7_place 77 = .ok (.aload_n 0, 1) := by decide +kernel
theorem dX7_place_78 : decode cX7_place 78 = .ok (.getfield 39, 3) := by decide +kernel
theorem dX7_place_81 : decode cX7_place 81 = .ok (.getfield 216, 3) := by decide +kernel
theorem dX7_place_84 : decode cX7_place 84 = .ok (.getfield 225, 3) := by decide +kernel
theorem dX7_place_87 : decode cX7_place 87 = .ok (.iload_n 1, 1) := by decide +kernel
theorem dX7_place_88 : decode cX7_place 88 = .ok (.iaload, 1) := by decide +kernel
theorem dX7_place_89 : decode cX7_place 89 = .ok (.ireturn, 1) := by decide +kernel
theorem dX7_place_90 : decode cX7_place 90 = .ok (.aload_n 0, 1) := by decide +kernel
theorem dX7_place_91 : decode cX7_place 91 = .ok (.getfield 39, 3) := by decide +kernel
theorem dX7_place_94 : decode cX7_place 94 = .ok (.getfield 154, 3) := by decide +kernel
theorem dX7_place_97 : decode cX7_place 97 = .ok (.getfield 228, 3) := by decide +kernel
theorem dX7_place_100 : decode cX7_place 100 = .ok (.iload_n 1, 1) := by decide +kernel
theorem dX7_place_101 : decode cX7_place 101 = .ok (.iaload, 1) := by decide +kernel
theorem dX7_place_102 : decode cX7_place 102 = .ok (.ireturn, 1) := by decide +kernel
theorem dX7_place_103 : decode cX7_place 103 = .ok (.aload_n 0, 1) := by decide +kernel
theorem dX7_place_104 : decode cX7_place 104 = .ok (.getfield 39, 3) := by decide +kernel
theorem dX7_place_107 : decode cX7_place 107 = .ok (.getfield 154, 3) := by decide +kernel
theorem dX7_place_110 : decode cX7_place 110 = .ok (.getfield 231, 3) := by decide +kernel
theorem dX7_place_113 : decode cX7_place 113 = .ok (.getfield 220, 3) := by decide +kernel
theorem dX7_place_116 : decode cX7_place 116 = .ok (.iload_n 1, 1) := by decide +kernel
theorem dX7_place_117 : decode cX7_place 117 = .ok (.iaload, 1) := by decide +kernel
theorem dX7_place_118 : decode cX7_place 118 = .ok (.ireturn, 1) := by decide +kernel
theorem dX7_place_119 : decode cX7_place 119 = .ok (.aload_n 0, 1) := by decide +kernel
theorem dX7_place_120 : decode cX7_place 120 = .ok (.getfield 39, 3) := by decide +kernel
theorem dX7_place_123 : decode cX7_place 123 = .ok (.getfield 154, 3) := by decide +kernel
theorem dX7_place_126 : decode cX7_place 126 = .ok (.getfield 231, 3) := by decide +kernel
theorem dX7_place_129 : decode cX7_place 129 = .ok (.getfield 225, 3) := by decide +kernel
theorem dX7_place_132 : decode cX7_place 132 = .ok (.iload_n 1, 1) := by decide +kernel
theorem dX7_place_133 : decode cX7_place 133 = .ok (.iaload, 1) := by decide +kernel
theorem dX7_place_134 : decode cX7_place 134 = .ok (.ireturn, 1) := by decide +kernel
theorem dX7_place_135 : decode cX7_place 135 = .ok (.aload_n 0, 1) := by decide +kernel
theorem dX7_place_136 : decode cX7_place 136 = .ok (.getfield 39, 3) := by decide +kernel
theorem dX7_place_139 : decode cX7_place 139 = .ok (.getfield 154, 3) := by decide +kernel
theorem dX7_place_142 : decode cX7_place 142 = .ok (.getfield 234, 3) := by decide +kernel
theorem dX7_place_145 : decode cX7_place 145 = .ok (.iload_n 1, 1) := by decide +kernel
theorem dX7_place_146 : decode cX7_place 146 = .ok (.iaload, 1) := by decide +kernel
theorem dX7_place_147 : decode cX7_place 147 = .ok (.invokestatic 237, 3) := by decide +kernel
theorem dX7_place_150 : decode cX7_place 150 = .ok (.ireturn, 1) := by decide +kernel
theorem dX7_chosen_0 : decode cX7_chosen 0 = .ok (.aload_n 0, 1) := by decide +kernel
theorem dX7_chosen_1 : decode cX7_chosen 1 = .ok (.iload_n 1, 1) := by decide +kernel
theorem dX7_chosen_2 : decode cX7_chosen 2 = .ok (.invokevirtual 242, 3) := by decide +kernel
theorem dX7_chosen_5 : decode cX7_chosen 5 = .ok (.aload_n 0, 1) := by decide +kernel
theorem dX7_chosen_6 : decode cX7_chosen 6 = .ok (.iload_n 2, 1) := by decide +kernel
theorem dX7_chosen_7 : decode cX7_chosen 7 = .ok (.invokevirtual 242, 3) := by decide +kernel
theorem dX7_chosen_10 : decode cX7_chosen 10 = .ok (.aload_n 0, 1) := by decide +kernel
theorem dX7_chosen_11 : decode cX7_chosen 11 = .ok (.getfield 39, 3) := by decide +kernel
theorem dX7_chosen_14 : decode cX7_chosen 14 = .ok (.getfield 154, 3) := by decide +kernel
theorem dX7_chosen_17 : decode cX7_chosen 17 = .ok (.getfield 245, 3) := by decide +kernel
theorem dX7_chosen_20 : decode cX7_chosen 20 = .ok (.iload_n 1, 1) := by decide +kernel
theorem dX7_chosen_21 : decode cX7_chosen 21 = .ok (.bipush 24, 2) := by decide +kernel
theorem dX7_chosen_23 : decode cX7_chosen 23 = .ok (.imul, 1) := by decide +kernel
theorem dX7_chosen_24 : decode cX7_chosen 24 = .ok (.iload_n 2, 1) := by decide +kernel
theorem dX7_chosen_25 : decode cX7_chosen 25 = .ok (.iadd, 1) := by decide +kernel
theorem dX7_chosen_26 : decode cX7_chosen 26 = .ok (.iaload, 1) := by decide +kernel
theorem dX7_chosen_27 : decode cX7_chosen 27 = .ok (.ireturn, 1) := by decide +kernel
theorem dX7_count_0 : decode cX7_count 0 = .ok (.aload_n 0, 1) := by decide +kernel
theorem dX7_count_1 : decode cX7_count 1 = .ok (.getfield 43, 3) := by decide +kernel
theorem dX7_count_4 : decode cX7_count 4 = .ok (.ifCond .eq 13, 3) := by decide +kernel
theorem dX7_count_7 : decode cX7_count 7 = .ok (.iload_n 1, 1) := by decide +kernel
theorem dX7_count_8 : decode cX7_count 8 = .ok (.ifCond .lt 9, 3) := by decide +kernel
theorem dX7_count_11 : decode cX7_count 11 = .ok (.iload_n 1, 1) := by decide +kernel
theorem dX7_count_12 : decode cX7_count 12 = .ok (.bipush 6, 2) := by decide +kernel
theorem dX7_count_14 : decode cX7_count 14 = .ok (.if_icmp .le 13, 3) := by decide +kernel
theorem dX7_count_17 : decode cX7_count 17 = .ok (.new 182, 3) := by decide +kernel
theorem dX7_count_20 : decode cX7_count 20 = .ok (.dup, 1) := by decide +kernel
theorem dX7_count_21 : decode cX7_count 21 = .ok (.ldc 248, 2) := by decide +kernel
theorem dX7_count_23 : decode cX7_count 23 = .ok (.invokespecial 186, 3) := by decide +kernel
theorem dX7_count_26 : decode cX7_count 26 = .ok (.athrow, 1) := by decide +kernel
theorem dX7_count_27 : decode cX7_count 27 = .ok (.iload_n 1, 1) := by decide +kernel
theorem dX7_count_28 : decode cX7_count 28 = .ok (.tableswitch 83 0 5 #[40, 40, 40, 53, 61, 71], 40) := by decide +kernel
theorem dX7_count_68 : decode cX7_count 68 = .ok (.aload_n 0, 1) := by decide +kernel
theorem dX7_count_69 : decode cX7_count 69 = .ok (.getfield 39, 3) := by decide +kernel
theorem dX7_count_72 : decode cX7_count 72 = .ok (.getfield 172, 3) := by decide +kernel
theorem dX7_count_75 : decode cX7_count 75 = .ok (.getfield 250, 3) := by decide +kernel
theorem dX7_count_78 : decode cX7_count 78 = .ok (.iload_n 1, 1) := by decide +kernel
theorem dX7_count_79 : decode cX7_count 79 = .ok (.iaload, 1) := by decide +kernel
theorem dX7_count_80 : decode cX7_count 80 = .ok (.ireturn, 1) := by decide +kernel
theorem dX7_count_81 : decode cX7_count 81 = .ok (.aload_n 0, 1) := by decide +kernel
theorem dX7_count_82 : decode cX7_count 82 = .ok (.getfield 39, 3) := by decide +kernel
theorem dX7_count_85 : decode cX7_count 85 = .ok (.getfield 253, 3) := by decide +kernel
theorem dX7_count_88 : decode cX7_count 88 = .ok (.ireturn, 1) := by decide +kernel
theorem dX7_count_89 : decode cX7_count 89 = .ok (.iconst 2, 1) := by decide +kernel
theorem dX7_count_90 : decode cX7_count 90 = .ok (.aload_n 0, 1) := by decide +kernel
theorem dX7_count_91 : decode cX7_count 91 = .ok (.getfield 19, 3) := by decide +kernel
theorem dX7_count_94 : decode cX7_count 94 = .ok (.getfield 85, 3) := by decide +kernel
theorem dX7_count_97 : decode cX7_count 97 = .ok (.imul, 1) := by decide +kernel
theorem dX7_count_98 : decode cX7_count 98 = .ok (.ireturn, 1) := by decide +kernel
theorem dX7_count_99 : decode cX7_count 99 = .ok (.iconst 2, 1) := by decide +kernel
theorem dX7_count_100 : decode cX7_count 100 = .ok (.aload_n 0, 1) := by decide +kernel
theorem dX7_count_101 : decode cX7_count 101 = .ok (.getfield 19, 3) := by decide +kernel
theorem dX7_count_104 : decode cX7_count 104 = .ok (.getfield 128, 3) := by decide +kernel
theorem dX7_count_107 : decode cX7_count 107 = .ok (.iconst 1, 1) := by decide +kernel
theorem dX7_count_108 : decode cX7_count 108 = .ok (.isub, 1) := by decide +kernel
theorem dX7_count_109 : decode cX7_count 109 = .ok (.imul, 1) := by decide +kernel
theorem dX7_count_110 : decode cX7_count 110 = .ok (.ireturn, 1) := by decide +kernel
theorem dX7_count_111 : decode cX7_count 111 = .ok (.iconst 4, 1) := by decide +kernel
theorem dX7_count_112 : decode cX7_count 112 = .ok (.aload_n 0, 1) := by decide +kernel
theorem dX7_count_113 : decode cX7_count 113 = .ok (.getfield 19, 3) := by decide +kernel
theorem dX7_count_116 : decode cX7_count 116 = .ok (.getfield 128, 3) := by decide +kernel
theorem dX7_count_119 : decode cX7_count 119 = .ok (.aload_n 0, 1) := by decide +kernel
theorem dX7_count_120 : decode cX7_count 120 = .ok (.getfield 39, 3) := by decide +kernel
theorem dX7_count_123 : decode cX7_count 123 = .ok (.getfield 154, 3) := by decide +kernel
theorem dX7_count_126 : decode cX7_count 126 = .ok (.getfield 158, 3) := by decide +kernel
theorem dX7_count_129 : decode cX7_count 129 = .ok (.isub, 1) := by decide +kernel
theorem dX7_count_130 : decode cX7_count 130 = .ok (.imul, 1) := by decide +kernel
theorem dX7_count_131 : decode cX7_count 131 = .ok (.iconst 2, 1) := by decide +kernel
theorem dX7_count_132 : decode cX7_count 132 = .ok (.aload_n 0, 1) := by decide +kernel
theorem dX7_count_133 : decode cX7_count 133 = .ok (.getfield 39, 3) := by decide +kernel
theorem dX7_count_136 : decode cX7_count 136 = .ok (.getfield 154, 3) := by decide +kernel
theorem dX7_count_139 : decode cX7_count 139 = .ok (.getfield 256, 3) := by decide +kernel
theorem dX7_count_142 : decode cX7_count 142 = .ok (.imul, 1) := by decide +kernel
theorem dX7_count_143 : decode cX7_count 143 = .ok (.iadd, 1) := by decide +kernel
theorem dX7_count_144 : decode cX7_count 144 = .ok (.ireturn, 1) := by decide +kernel
theorem dX7_isWay_0 : decode cX7_isWay 0 = .ok (.iload_n 0, 1) := by decide +kernel
theorem dX7_isWay_1 : decode cX7_isWay 1 = .ok (.ifCond .lt 12, 3) := by decide +kernel
theorem dX7_isWay_4 : decode cX7_isWay 4 = .ok (.iload_n 0, 1) := by decide +kernel
theorem dX7_isWay_5 : decode cX7_isWay 5 = .ok (.iconst 2, 1) := by decide +kernel
theorem dX7_isWay_6 : decode cX7_isWay 6 = .ok (.if_icmp .gt 7, 3) := by decide +kernel
theorem dX7_isWay_9 : decode cX7_isWay 9 = .ok (.iconst 1, 1) := by decide +kernel
theorem dX7_isWay_10 : decode cX7_isWay 10 = .ok (.goto 4, 3) := by decide +kernel
theorem dX7_isWay_13 : decode cX7_isWay 13 = .ok (.iconst 0, 1) := by decide +kernel
theorem dX7_isWay_14 : decode cX7_isWay 14 = .ok (.ireturn, 1) := by decide +kernel
theorem dX7_needNode_0 : decode cX7_needNode 0 = .ok (.iload_n 1, 1) := by decide +kernel
theorem dX7_needNode_1 : decode cX7_needNode 1 = .ok (.ifCond .lt 14, 3) := by decide +kernel
theorem dX7_needNode_4 : decode cX7_needNode 4 = .ok (.iload_n 1, 1) := by decide +kernel
theorem dX7_needNode_5 : decode cX7_needNode 5 = .ok (.aload_n 0, 1) := by decide +kernel
theorem dX7_needNode_6 : decode cX7_needNode 6 = .ok (.getfield 19, 3) := by decide +kernel
theorem dX7_needNode_9 : decode cX7_needNode 9 = .ok (.getfield 128, 3) := by decide +kernel
theorem dX7_needNode_12 : decode cX7_needNode 12 = .ok (.if_icmp .lt 14, 3) := by decide +kernel
theorem dX7_needNode_15 : decode cX7_needNode 15 = .ok (.new 259, 3) := by decide +kernel
theorem dX7_needNode_18 : decode cX7_needNode 18 = .ok (.dup, 1) := by decide +kernel
theorem dX7_needNode_19 : decode cX7_needNode 19 = .ok (.ldc_w 261, 3) := by decide +kernel
theorem dX7_needNode_22 : decode cX7_needNode 22 = .ok (.invokespecial 263, 3) := by decide +kernel
theorem dX7_needNode_25 : decode cX7_needNode 25 = .ok (.athrow, 1) := by decide +kernel
theorem dX7_needNode_26 : decode cX7_needNode 26 = .ok (.return_, 1) := by decide +kernel
theorem dX7_needRegister_0 : decode cX7_needRegister 0 = .ok (.iload_n 0, 1) := by decide +kernel
theorem dX7_needRegister_1 : decode cX7_needRegister 1 = .ok (.ifCond .lt 9, 3) := by decide +kernel
theorem dX7_needRegister_4 : decode cX7_needRegister 4 = .ok (.iload_n 0, 1) := by decide +kernel
theorem dX7_needRegister_5 : decode cX7_needRegister 5 = .ok (.bipush 8, 2) := by decide +kernel
theorem dX7_needRegister_7 : decode cX7_needRegister 7 = .ok (.if_icmp .lt 14, 3) := by decide +kernel
theorem dX7_needRegister_10 : decode cX7_needRegister 10 = .ok (.new 182, 3) := by decide +kernel
theorem dX7_needRegister_13 : decode cX7_needRegister 13 = .ok (.dup, 1) := by decide +kernel
theorem dX7_needRegister_14 : decode cX7_needRegister 14 = .ok (.ldc_w 264, 3) := by decide +kernel
theorem dX7_needRegister_17 : decode cX7_needRegister 17 = .ok (.invokespecial 186, 3) := by decide +kernel
theorem dX7_needRegister_20 : decode cX7_needRegister 20 = .ok (.athrow, 1) := by decide +kernel
theorem dX7_needRegister_21 : decode cX7_needRegister 21 = .ok (.return_, 1) := by decide +kernel
theorem dX7_needLetter_0 : decode cX7_needLetter 0 = .ok (.aload_n 0, 1) := by decide +kernel
theorem dX7_needLetter_1 : decode cX7_needLetter 1 = .ok (.getfield 43, 3) := by decide +kernel
theorem dX7_needLetter_4 : decode cX7_needLetter 4 = .ok (.ifCond .eq 21, 3) := by decide +kernel
theorem dX7_needLetter_7 : decode cX7_needLetter 7 = .ok (.iload_n 1, 1) := by decide +kernel
theorem dX7_needLetter_8 : decode cX7_needLetter 8 = .ok (.ifCond .lt 17, 3) := by decide +kernel
theorem dX7_needLetter_11 : decode cX7_needLetter 11 = .ok (.iload_n 1, 1) := by decide +kernel
theorem dX7_needLetter_12 : decode cX7_needLetter 12 = .ok (.aload_n 0, 1) := by decide +kernel
theorem dX7_needLetter_13 : decode cX7_needLetter 13 = .ok (.getfield 39, 3) := by decide +kernel
theorem dX7_needLetter_16 : decode cX7_needLetter 16 = .ok (.getfield 172, 3) := by decide +kernel
theorem dX7_needLetter_19 : decode cX7_needLetter 19 = .ok (.getfield 176, 3) := by decide +kernel
theorem dX7_needLetter_22 : decode cX7_needLetter 22 = .ok (.if_icmp .lt 14, 3) := by decide +kernel
theorem dX7_needLetter_25 : decode cX7_needLetter 25 = .ok (.new 182, 3) := by decide +kernel
theorem dX7_needLetter_28 : decode cX7_needLetter 28 = .ok (.dup, 1) := by decide +kernel
theorem dX7_needLetter_29 : decode cX7_needLetter 29 = .ok (.ldc_w 266, 3) := by decide +kernel
theorem dX7_needLetter_32 : decode cX7_needLetter 32 = .ok (.invokespecial 186, 3) := by decide +kernel
theorem dX7_needLetter_35 : decode cX7_needLetter 35 = .ok (.athrow, 1) := by decide +kernel
theorem dX7_needLetter_36 : decode cX7_needLetter 36 = .ok (.return_, 1) := by decide +kernel
theorem dX7_needCluster_0 : decode cX7_needCluster 0 = .ok (.aload_n 0, 1) := by decide +kernel
theorem dX7_needCluster_1 : decode cX7_needCluster 1 = .ok (.getfield 43, 3) := by decide +kernel
theorem dX7_needCluster_4 : decode cX7_needCluster 4 = .ok (.ifCond .eq 21, 3) := by decide +kernel
theorem dX7_needCluster_7 : decode cX7_needCluster 7 = .ok (.iload_n 1, 1) := by decide +kernel
theorem dX7_needCluster_8 : decode cX7_needCluster 8 = .ok (.ifCond .lt 17, 3) := by decide +kernel
theorem dX7_needCluster_11 : decode cX7_needCluster 11 = .ok (.iload_n 1, 1) := by decide +kernel
theorem dX7_needCluster_12 : decode cX7_needCluster 12 = .ok (.aload_n 0, 1) := by decide +kernel
theorem dX7_needCluster_13 : decode cX7_needCluster 13 = .ok (.getfield 39, 3) := by decide +kernel
theorem dX7_needCluster_16 : decode cX7_needCluster 16 = .ok (.getfield 154, 3) := by decide +kernel
theorem dX7_needCluster_19 : decode cX7_needCluster 19 = .ok (.getfield 158, 3) := by decide +kernel
theorem dX7_needCluster_22 : decode cX7_needCluster 22 = .ok (.if_icmp .lt 14, 3) := by decide +kernel
theorem dX7_needCluster_25 : decode cX7_needCluster 25 = .ok (.new 182, 3) := by decide +kernel
theorem dX7_needCluster_28 : decode cX7_needCluster 28 = .ok (.dup, 1) := by decide +kernel
theorem dX7_needCluster_29 : decode cX7_needCluster 29 = .ok (.ldc_w 268, 3) := by decide +kernel
theorem dX7_needCluster_32 : decode cX7_needCluster 32 = .ok (.invokespecial 186, 3) := by decide +kernel
theorem dX7_needCluster_35 : decode cX7_needCluster 35 = .ok (.athrow, 1) := by decide +kernel
theorem dX7_needCluster_36 : decode cX7_needCluster 36 = .ok (.return_, 1) := by decide +kernel
theorem dX7_needRun_0 : decode cX7_needRun 0 = .ok (.aload_n 0, 1) := by decide +kernel
theorem dX7_needRun_1 : decode cX7_needRun 1 = .ok (.getfield 43, 3) := by decide +kernel
theorem dX7_needRun_4 : decode cX7_needRun 4 = .ok (.ifCond .ne 14, 3) := by decide +kernel
theorem dX7_needRun_7 : decode cX7_needRun 7 = .ok (.new 80, 3) := by decide +kernel
theorem dX7_needRun_10 : decode cX7_needRun 10 = .ok (.dup, 1) := by decide +kernel
theorem dX7_needRun_11 : decode cX7_needRun 11 = .ok (.ldc_w 270, 3) := by decide +kernel
theorem dX7_needRun_14 : decode cX7_needRun 14 = .ok (.invokespecial 84, 3) := by decide +kernel
theorem dX7_needRun_17 : decode cX7_needRun 17 = .ok (.athrow, 1) := by decide +kernel
theorem dX7_needRun_18 : decode cX7_needRun 18 = .ok (.return_, 1) := by decide +kernel
theorem dX7_refuseWithRun_0 : decode cX7_refuseWithRun 0 = .ok (.aload_n 0, 1) := by decide +kernel
theorem dX7_refuseWithRun_1 : decode cX7_refuseWithRun 1 = .ok (.getfield 43, 3) := by decide +kernel
theorem dX7_refuseWithRun_4 : decode cX7_refuseWithRun 4 = .ok (.ifCond .eq 14, 3) := by decide +kernel
theorem dX7_refuseWithRun_7 : decode cX7_refuseWithRun 7 = .ok (.new 80, 3) := by decide +kernel
theorem dX7_refuseWithRun_10 : decode cX7_refuseWithRun 10 = .ok (.dup, 1) := by decide +kernel
theorem dX7_refuseWithRun_11 : decode cX7_refuseWithRun 11 = .ok (.ldc_w 272, 3) := by decide +kernel
theorem dX7_refuseWithRun_14 : decode cX7_refuseWithRun 14 = .ok (.invokespecial 84, 3) := by decide +kernel
theorem dX7_refuseWithRun_17 : decode cX7_refuseWithRun 17 = .ok (.athrow, 1) := by decide +kernel
theorem dX7_refuseWithRun_18 : decode cX7_refuseWithRun 18 = .ok (.return_, 1) := by decide +kernel
theorem dX7_refuseWrongWord_0 : decode cX7_refuseWrongWord 0 = .ok (.aload_n 0, 1) := by decide +kernel
theorem dX7_refuseWrongWord_1 : decode cX7_refuseWrongWord 1 = .ok (.getfield 10, 3) := by decide +kernel
theorem dX7_refuseWrongWord_4 : decode cX7_refuseWrongWord 4 = .ok (.invokevirtual 116, 3) := by decide +kernel
theorem dX7_refuseWrongWord_7 : decode cX7_refuseWrongWord 7 = .ok (.ifCond .lt 14, 3) := by decide +kernel
theorem dX7_refuseWrongWord_10 : decode cX7_refuseWrongWord 10 = .ok (.new 80, 3) := by decide +kernel
theorem dX7_refuseWrongWord_13 : decode cX7_refuseWrongWord 13 = .ok (.dup, 1) := by decide +kernel
theorem dX7_refuseWrongWord_14 : decode cX7_refuseWrongWord 14 = .ok (.ldc_w 274, 3) := by decide +kernel
theorem dX7_refuseWrongWord_17 : decode cX7_refuseWrongWord 17 = .ok (.invokespecial 84, 3) := by decide +kernel
theorem dX7_refuseWrongWord_20 : decode cX7_refuseWrongWord 20 = .ok (.athrow, 1) := by decide +kernel
theorem dX7_refuseWrongWord_21 : decode cX7_refuseWrongWord 21 = .ok (.return_, 1) := by decide +kernel
theorem dX7_lowestNode_0 : decode cX7_lowestNode 0 = .ok (.iload_n 0, 1) := by decide +kernel
theorem dX7_lowestNode_1 : decode cX7_lowestNode 1 = .ok (.iload_n 0, 1) := by decide +kernel
theorem dX7_lowestNode_2 : decode cX7_lowestNode 2 = .ok (.ineg, 1) := by decide +kernel
theorem dX7_lowestNode_3 : decode cX7_lowestNode 3 = .ok (.iand, 1) := by decide +kernel
theorem dX7_lowestNode_4 : decode cX7_lowestNode 4 = .ok (.iconst 1, 1) := by decide +kernel
theorem dX7_lowestNode_5 : decode cX7_lowestNode 5 = .ok (.isub, 1) := by decide +kernel
theorem dX7_lowestNode_6 : decode cX7_lowestNode 6 = .ok (.invokestatic 237, 3) := by decide +kernel
theorem dX7_lowestNode_9 : decode cX7_lowestNode 9 = .ok (.ireturn, 1) := by decide +kernel
