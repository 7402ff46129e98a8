theorem d_Ld_init_0 : decode b_Ld_init 0 = .ok (.aload_n 0, 1) := by decide +kernel
theorem d_Ld_init_1 : decode b_Ld_init 1 = .ok (.invokespecial 3, 3) := by decide +kernel
theorem d_Ld_init_4 : decode b_Ld_init 4 = .ok (.aload_n 0, 1) := by decide +kernel
theorem d_Ld_init_5 : decode b_Ld_init 5 = .ok (.iconst 3, 1) := by decide +kernel
theorem d_Ld_init_6 : decode b_Ld_init 6 = .ok (.newarray .long, 2) := by decide +kernel
theorem d_Ld_init_8 : decode b_Ld_init 8 = .ok (.putfield 9, 3) := by decide +kernel
theorem d_Ld_init_11 : decode b_Ld_init 11 = .ok (.aload_n 0, 1) := by decide +kernel
theorem d_Ld_init_12 : decode b_Ld_init 12 = .ok (.bipush 6, 2) := by decide +kernel
theorem d_Ld_init_14 : decode b_Ld_init 14 = .ok (.newarray .long, 2) := by decide +kernel
theorem d_Ld_init_16 : decode b_Ld_init 16 = .ok (.putfield 15, 3) := by decide +kernel
theorem d_Ld_init_19 : decode b_Ld_init 19 = .ok (.aload_n 0, 1) := by decide +kernel
theorem d_Ld_init_20 : decode b_Ld_init 20 = .ok (.iconst 3, 1) := by decide +kernel
theorem d_Ld_init_21 : decode b_Ld_init 21 = .ok (.newarray .long, 2) := by decide +kernel
theorem d_Ld_init_23 : decode b_Ld_init 23 = .ok (.putfield 18, 3) := by decide +kernel
theorem d_Ld_init_26 : decode b_Ld_init 26 = .ok (.aload_n 0, 1) := by decide +kernel
theorem d_Ld_init_27 : decode b_Ld_init 27 = .ok (.bipush 6, 2) := by decide +kernel
theorem d_Ld_init_29 : decode b_Ld_init 29 = .ok (.newarray .int, 2) := by decide +kernel
theorem d_Ld_init_31 : decode b_Ld_init 31 = .ok (.putfield 21, 3) := by decide +kernel
theorem d_Ld_init_34 : decode b_Ld_init 34 = .ok (.aload_n 0, 1) := by decide +kernel
theorem d_Ld_init_35 : decode b_Ld_init 35 = .ok (.bipush 6, 2) := by decide +kernel
theorem d_Ld_init_37 : decode b_Ld_init 37 = .ok (.newarray .int, 2) := by decide +kernel
theorem d_Ld_init_39 : decode b_Ld_init 39 = .ok (.putfield 25, 3) := by decide +kernel
theorem d_Ld_init_42 : decode b_Ld_init 42 = .ok (.aload_n 0, 1) := by decide +kernel
theorem d_Ld_init_43 : decode b_Ld_init 43 = .ok (.bipush 6, 2) := by decide +kernel
theorem d_Ld_init_45 : decode b_Ld_init 45 = .ok (.newarray .int, 2) := by decide +kernel
theorem d_Ld_init_47 : decode b_Ld_init 47 = .ok (.putfield 28, 3) := by decide +kernel
theorem d_Ld_init_50 : decode b_Ld_init 50 = .ok (.aload_n 0, 1) := by decide +kernel
theorem d_Ld_init_51 : decode b_Ld_init 51 = .ok (.bipush 6, 2) := by decide +kernel
theorem d_Ld_init_53 : decode b_Ld_init 53 = .ok (.newarray .int, 2) := by decide +kernel
theorem d_Ld_init_55 : decode b_Ld_init 55 = .ok (.putfield 31, 3) := by decide +kernel
theorem d_Ld_init_58 : decode b_Ld_init 58 = .ok (.aload_n 0, 1) := by decide +kernel
theorem d_Ld_init_59 : decode b_Ld_init 59 = .ok (.bipush 6, 2) := by decide +kernel
theorem d_Ld_init_61 : decode b_Ld_init 61 = .ok (.newarray .int, 2) := by decide +kernel
theorem d_Ld_init_63 : decode b_Ld_init 63 = .ok (.putfield 34, 3) := by decide +kernel
theorem d_Ld_init_66 : decode b_Ld_init 66 = .ok (.aload_n 0, 1) := by decide +kernel
theorem d_Ld_init_67 : decode b_Ld_init 67 = .ok (.bipush 6, 2) := by decide +kernel
theorem d_Ld_init_69 : decode b_Ld_init 69 = .ok (.newarray .int, 2) := by decide +kernel
theorem d_Ld_init_71 : decode b_Ld_init 71 = .ok (.putfield 37, 3) := by decide +kernel
theorem d_Ld_init_74 : decode b_Ld_init 74 = .ok (.aload_n 0, 1) := by decide +kernel
theorem d_Ld_init_75 : decode b_Ld_init 75 = .ok (.bipush 40, 2) := by decide +kernel
theorem d_Ld_init_77 : decode b_Ld_init 77 = .ok (.newarray .int, 2) := by decide +kernel
theorem d_Ld_init_79 : decode b_Ld_init 79 = .ok (.putfield 40, 3) := by decide +kernel
theorem d_Ld_init_82 : decode b_Ld_init 82 = .ok (.aload_n 0, 1) := by decide +kernel
theorem d_Ld_init_83 : decode b_Ld_init 83 = .ok (.sipush 328, 3) := by decide +kernel
theorem d_Ld_init_86 : decode b_Ld_init 86 = .ok (.newarray .int, 2) := by decide +kernel
theorem d_Ld_init_88 : decode b_Ld_init 88 = .ok (.putfield 43, 3) := by decide +kernel
theorem d_Ld_init_91 : decode b_Ld_init 91 = .ok (.aload_n 0, 1) := by decide +kernel
theorem d_Ld_init_92 : decode b_Ld_init 92 = .ok (.iconst 5, 1) := by decide +kernel
theorem d_Ld_init_93 : decode b_Ld_init 93 = .ok (.iconst 5, 1) := by decide +kernel
theorem d_Ld_init_94 : decode b_Ld_init 94 = .ok (.invokevirtual 46, 3) := by decide +kernel
theorem d_Ld_init_97 : decode b_Ld_init 97 = .ok (.return_, 1) := by decide +kernel
theorem d_Ld_lay_0 : decode b_Ld_lay 0 = .ok (.aload_n 0, 1) := by decide +kernel
theorem d_Ld_lay_1 : decode b_Ld_lay 1 = .ok (.iload_n 1, 1) := by decide +kernel
theorem d_Ld_lay_2 : decode b_Ld_lay 2 = .ok (.putfield 50, 3) := by decide +kernel
theorem d_Ld_lay_5 : decode b_Ld_lay 5 = .ok (.aload_n 0, 1) := by decide +kernel
theorem d_Ld_lay_6 : decode b_Ld_lay 6 = .ok (.iload_n 2, 1) := by decide +kernel
theorem d_Ld_lay_7 : decode b_Ld_lay 7 = .ok (.putfield 54, 3) := by decide +kernel
theorem d_Ld_lay_10 : decode b_Ld_lay 10 = .ok (.aload_n 0, 1) := by decide +kernel
theorem d_Ld_lay_11 : decode b_Ld_lay 11 = .ok (.lconst 1, 1) := by decide +kernel
theorem d_Ld_lay_12 : decode b_Ld_lay 12 = .ok (.iload_n 1, 1) := by decide +kernel
theorem d_Ld_lay_13 : decode b_Ld_lay 13 = .ok (.iload_n 2, 1) := by decide +kernel
theorem d_Ld_lay_14 : decode b_Ld_lay 14 = .ok (.imul, 1) := by decide +kernel
theorem d_Ld_lay_15 : decode b_Ld_lay 15 = .ok (.lshl, 1) := by decide +kernel
theorem d_Ld_lay_16 : decode b_Ld_lay 16 = .ok (.lconst 1, 1) := by decide +kernel
theorem d_Ld_lay_17 : decode b_Ld_lay 17 = .ok (.lsub, 1) := by decide +kernel
theorem d_Ld_lay_18 : decode b_Ld_lay 18 = .ok (.putfield 57, 3) := by decide +kernel
theorem d_Ld_lay_21 : decode b_Ld_lay 21 = .ok (.aload_n 0, 1) := by decide +kernel
theorem d_Ld_lay_22 : decode b_Ld_lay 22 = .ok (.lconst 0, 1) := by decide +kernel
theorem d_Ld_lay_23 : decode b_Ld_lay 23 = .ok (.putfield 61, 3) := by decide +kernel
theorem d_Ld_lay_26 : decode b_Ld_lay 26 = .ok (.iconst 0, 1) := by decide +kernel
theorem d_Ld_lay_27 : decode b_Ld_lay 27 = .ok (.istore_n 3, 1) := by decide +kernel
theorem d_Ld_lay_28 : decode b_Ld_lay 28 = .ok (.iload_n 3, 1) := by decide +kernel
theorem d_Ld_lay_29 : decode b_Ld_lay 29 = .ok (.iload_n 2, 1) := by decide +kernel
theorem d_Ld_lay_30 : decode b_Ld_lay 30 = .ok (.if_icmp .ge 23, 3) := by decide +kernel
theorem d_Ld_lay_33 : decode b_Ld_lay 33 = .ok (.aload_n 0, 1) := by decide +kernel
theorem d_Ld_lay_34 : decode b_Ld_lay 34 = .ok (.dup, 1) := by decide +kernel
theorem d_Ld_lay_35 : decode b_Ld_lay 35 = .ok (.getfield 61, 3) := by decide +kernel
theorem d_Ld_lay_38 : decode b_Ld_lay 38 = .ok (.lconst 1, 1) := by decide +kernel
theorem d_Ld_lay_39 : decode b_Ld_lay 39 = .ok (.iload_n 1, 1) := by decide +kernel
theorem d_Ld_lay_40 : decode b_Ld_lay 40 = .ok (.iload_n 3, 1) := by decide +kernel
theorem d_Ld_lay_41 : decode b_Ld_lay 41 = .ok (.imul, 1) := by decide +kernel
theorem d_Ld_lay_42 : decode b_Ld_lay 42 = .ok (.lshl, 1) := by decide +kernel
theorem d_Ld_lay_43 : decode b_Ld_lay 43 = .ok (.lor, 1) := by decide +kernel
theorem d_Ld_lay_44 : decode b_Ld_lay 44 = .ok (.putfield 61, 3) := by decide +kernel
theorem d_Ld_lay_47 : decode b_Ld_lay 47 = .ok (.iinc 3 1, 3) := by decide +kernel
theorem d_Ld_lay_50 : decode b_Ld_lay 50 = .ok (.goto (-22), 3) := by decide +kernel
theorem d_Ld_lay_53 : decode b_Ld_lay 53 = .ok (.aload_n 0, 1) := by decide +kernel
theorem d_Ld_lay_54 : decode b_Ld_lay 54 = .ok (.aload_n 0, 1) := by decide +kernel
theorem d_Ld_lay_55 : decode b_Ld_lay 55 = .ok (.getfield 61, 3) := by decide +kernel
theorem d_Ld_lay_58 : decode b_Ld_lay 58 = .ok (.iload_n 1, 1) := by decide +kernel
theorem d_Ld_lay_59 : decode b_Ld_lay 59 = .ok (.iconst 1, 1) := by decide +kernel
theorem d_Ld_lay_60 : decode b_Ld_lay 60 = .ok (.isub, 1) := by decide +kernel
theorem d_Ld_lay_61 : decode b_Ld_lay 61 = .ok (.lshl, 1) := by decide +kernel
theorem d_Ld_lay_62 : decode b_Ld_lay 62 = .ok (.putfield 64, 3) := by decide +kernel
theorem d_Ld_lay_65 : decode b_Ld_lay 65 = .ok (.aload_n 0, 1) := by decide +kernel
theorem d_Ld_lay_66 : decode b_Ld_lay 66 = .ok (.aload_n 0, 1) := by decide +kernel
theorem d_Ld_lay_67 : decode b_Ld_lay 67 = .ok (.getfield 9, 3) := by decide +kernel
theorem d_Ld_lay_70 : decode b_Ld_lay 70 = .ok (.invokevirtual 67, 3) := by decide +kernel
theorem d_Ld_lay_73 : decode b_Ld_lay 73 = .ok (.aload_n 0, 1) := by decide +kernel
theorem d_Ld_lay_74 : decode b_Ld_lay 74 = .ok (.aload_n 0, 1) := by decide +kernel
theorem d_Ld_lay_75 : decode b_Ld_lay 75 = .ok (.getfield 15, 3) := by decide +kernel
theorem d_Ld_lay_78 : decode b_Ld_lay 78 = .ok (.invokevirtual 67, 3) := by decide +kernel
theorem d_Ld_lay_81 : decode b_Ld_lay 81 = .ok (.aload_n 0, 1) := by decide +kernel
theorem d_Ld_lay_82 : decode b_Ld_lay 82 = .ok (.aload_n 0, 1) := by decide +kernel
theorem d_Ld_lay_83 : decode b_Ld_lay 83 = .ok (.getfield 18, 3) := by decide +kernel
theorem d_Ld_lay_86 : decode b_Ld_lay 86 = .ok (.invokevirtual 67, 3) := by decide +kernel
theorem d_Ld_lay_89 : decode b_Ld_lay 89 = .ok (.aload_n 0, 1) := by decide +kernel
theorem d_Ld_lay_90 : decode b_Ld_lay 90 = .ok (.getfield 21, 3) := by decide +kernel
theorem d_Ld_lay_93 : decode b_Ld_lay 93 = .ok (.iconst 1, 1) := by decide +kernel
theorem d_Ld_lay_94 : decode b_Ld_lay 94 = .ok (.invokestatic 71, 3) := by decide +kernel
theorem d_Ld_lay_97 : decode b_Ld_lay 97 = .ok (.aload_n 0, 1) := by decide +kernel
theorem d_Ld_lay_98 : decode b_Ld_lay 98 = .ok (.getfield 25, 3) := by decide +kernel
theorem d_Ld_lay_101 : decode b_Ld_lay 101 = .ok (.iconst (-1), 1) := by decide +kernel
theorem d_Ld_lay_102 : decode b_Ld_lay 102 = .ok (.invokestatic 71, 3) := by decide +kernel
theorem d_Ld_lay_105 : decode b_Ld_lay 105 = .ok (.aload_n 0, 1) := by decide +kernel
theorem d_Ld_lay_106 : decode b_Ld_lay 106 = .ok (.iconst 0, 1) := by decide +kernel
theorem d_Ld_lay_107 : decode b_Ld_lay 107 = .ok (.putfield 77, 3) := by decide +kernel
theorem d_Ld_lay_110 : decode b_Ld_lay 110 = .ok (.aload_n 0, 1) := by decide +kernel
theorem d_Ld_lay_111 : decode b_Ld_lay 111 = .ok (.iconst 0, 1) := by decide +kernel
theorem d_Ld_lay_112 : decode b_Ld_lay 112 = .ok (.putfield 80, 3) := by decide +kernel
theorem d_Ld_lay_115 : decode b_Ld_lay 115 = .ok (.aload_n 0, 1) := by decide +kernel
theorem d_Ld_lay_116 : decode b_Ld_lay 116 = .ok (.iconst 0, 1) := by decide +kernel
theorem d_Ld_lay_117 : decode b_Ld_lay 117 = .ok (.putfield 83, 3) := by decide +kernel
theorem d_Ld_lay_120 : decode b_Ld_lay 120 = .ok (.return_, 1) := by decide +kernel
theorem d_Ld_startRows_0 : decode b_Ld_startRows 0 = .ok (.iconst 0, 1) := by decide +kernel
theorem d_Ld_startRows_1 : decode b_Ld_startRows 1 = .ok (.istore_n 2, 1) := by decide +kernel
theorem d_Ld_startRows_2 : decode b_Ld_startRows 2 = .ok (.iload_n 2, 1) := by decide +kernel
theorem d_Ld_startRows_3 : decode b_Ld_startRows 3 = .ok (.aload_n 1, 1) := by decide +kernel
theorem d_Ld_startRows_4 : decode b_Ld_startRows 4 = .ok (.arraylength, 1) := by decide +kernel
theorem d_Ld_startRows_5 : decode b_Ld_startRows 5 = .ok (.if_icmp .ge 24, 3) := by decide +kernel
theorem d_Ld_startRows_8 : decode b_Ld_startRows 8 = .ok (.aload_n 1, 1) := by decide +kernel
theorem d_Ld_startRows_9 : decode b_Ld_startRows 9 = .ok (.iload_n 2, 1) := by decide +kernel
theorem d_Ld_startRows_10 : decode b_Ld_startRows 10 = .ok (.iload_n 2, 1) := by decide +kernel
theorem d_Ld_startRows_11 : decode b_Ld_startRows 11 = .ok (.ifCond .ne 10, 3) := by decide +kernel
theorem d_Ld_startRows_14 : decode b_Ld_startRows 14 = .ok (.aload_n 0, 1) := by decide +kernel
theorem d_Ld_startRows_15 : decode b_Ld_startRows 15 = .ok (.getfield 57, 3) := by decide +kernel
theorem d_Ld_startRows_18 : decode b_Ld_startRows 18 = .ok (.goto 4, 3) := by decide +kernel
theorem d_Ld_startRows_21 : decode b_Ld_startRows 21 = .ok (.lconst 0, 1) := by decide +kernel
theorem d_Ld_startRows_22 : decode b_Ld_startRows 22 = .ok (.lastore, 1) := by decide +kernel
theorem d_Ld_startRows_23 : decode b_Ld_startRows 23 = .ok (.iinc 2 1, 3) := by decide +kernel
theorem d_Ld_startRows_26 : decode b_Ld_startRows 26 = .ok (.goto (-24), 3) := by decide +kernel
theorem d_Ld_startRows_29 : decode b_Ld_startRows 29 = .ok (.return_, 1) := by decide +kernel
theorem d_Ld_copyFrom_0 : decode b_Ld_copyFrom 0 = .ok (.aload_n 0, 1) := by decide +kernel
theorem d_Ld_copyFrom_1 : decode b_Ld_copyFrom 1 = .ok (.aload_n 1, 1) := by decide +kernel
theorem d_Ld_copyFrom_2 : decode b_Ld_copyFrom 2 = .ok (.getfield 50, 3) := by decide +kernel
theorem d_Ld_copyFrom_5 : decode b_Ld_copyFrom 5 = .ok (.putfield 50, 3) := by decide +kernel
theorem d_Ld_copyFrom_8 : decode b_Ld_copyFrom 8 = .ok (.aload_n 0, 1) := by decide +kernel
theorem d_Ld_copyFrom_9 : decode b_Ld_copyFrom 9 = .ok (.aload_n 1, 1) := by decide +kernel
theorem d_Ld_copyFrom_10 : decode b_Ld_copyFrom 10 = .ok (.getfield 54, 3) := by decide +kernel
theorem d_Ld_copyFrom_13 : decode b_Ld_copyFrom 13 = .ok (.putfield 54, 3) := by decide +kernel
theorem d_Ld_copyFrom_16 : decode b_Ld_copyFrom 16 = .ok (.aload_n 0, 1) := by decide +kernel
theorem d_Ld_copyFrom_17 : decode b_Ld_copyFrom 17 = .ok (.aload_n 1, 1) := by decide +kernel
theorem d_Ld_copyFrom_18 : decode b_Ld_copyFrom 18 = .ok (.getfield 57, 3) := by decide +kernel
theorem d_Ld_copyFrom_21 : decode b_Ld_copyFrom 21 = .ok (.putfield 57, 3) := by decide +kernel
theorem d_Ld_copyFrom_24 : decode b_Ld_copyFrom 24 = .ok (.aload_n 0, 1) := by decide +kernel
theorem d_Ld_copyFrom_25 : decode b_Ld_copyFrom 25 = .ok (.aload_n 1, 1) := by decide +kernel
theorem d_Ld_copyFrom_26 : decode b_Ld_copyFrom 26 = .ok (.getfield 61, 3) := by decide +kernel
theorem d_Ld_copyFrom_29 : decode b_Ld_copyFrom 29 = .ok (.putfield 61, 3) := by decide +kernel
theorem d_Ld_copyFrom_32 : decode b_Ld_copyFrom 32 = .ok (.aload_n 0, 1) := by decide +kernel
theorem d_Ld_copyFrom_33 : decode b_Ld_copyFrom 33 = .ok (.aload_n 1, 1) := by decide +kernel
theorem d_Ld_copyFrom_34 : decode b_Ld_copyFrom 34 = .ok (.getfield 64, 3) := by decide +kernel
theorem d_Ld_copyFrom_37 : decode b_Ld_copyFrom 37 = .ok (.putfield 64, 3) := by decide +kernel
theorem d_Ld_copyFrom_40 : decode b_Ld_copyFrom 40 = .ok (.aload_n 1, 1) := by decide +kernel
theorem d_Ld_copyFrom_41 : decode b_Ld_copyFrom 41 = .ok (.getfield 9, 3) := by decide +kernel
theorem d_Ld_copyFrom_44 : decode b_Ld_copyFrom 44 = .ok (.iconst 0, 1) := by decide +kernel
theorem d_Ld_copyFrom_45 : decode b_Ld_copyFrom 45 = .ok (.aload_n 0, 1) := by decide +kernel
theorem d_Ld_copyFrom_46 : decode b_Ld_copyFrom 46 = .ok (.getfield 9, 3) := by decide +kernel
theorem d_Ld_copyFrom_49 : decode b_Ld_copyFrom 49 = .ok (.iconst 0, 1) := by decide +kernel
theorem d_Ld_copyFrom_50 : decode b_Ld_copyFrom 50 = .ok (.iconst 3, 1) := by decide +kernel
theorem d_Ld_copyFrom_51 : decode b_Ld_copyFrom 51 = .ok (.invokestatic 86, 3) := by decide +kernel
theorem d_Ld_copyFrom_54 : decode b_Ld_copyFrom 54 = .ok (.aload_n 1, 1) := by decide +kernel
theorem d_Ld_copyFrom_55 : decode b_Ld_copyFrom 55 = .ok (.getfield 15, 3) := by decide +kernel
theorem d_Ld_copyFrom_58 : decode b_Ld_copyFrom 58 = .ok (.iconst 0, 1) := by decide +kernel
theorem d_Ld_copyFrom_59 : decode b_Ld_copyFrom 59 = .ok (.aload_n 0, 1) := by decide +kernel
theorem d_Ld_copyFrom_60 : decode b_Ld_copyFrom 60 = .ok (.getfield 15, 3) := by decide +kernel
theorem d_Ld_copyFrom_63 : decode b_Ld_copyFrom 63 = .ok (.iconst 0, 1) := by decide +kernel
theorem d_Ld_copyFrom_64 : decode b_Ld_copyFrom 64 = .ok (.bipush 6, 2) := by decide +kernel
theorem d_Ld_copyFrom_66 : decode b_Ld_copyFrom 66 = .ok (.invokestatic 86, 3) := by decide +kernel
theorem d_Ld_copyFrom_69 : decode b_Ld_copyFrom 69 = .ok (.aload_n 1, 1) := by decide +kernel
theorem d_Ld_copyFrom_70 : decode b_Ld_copyFrom 70 = .ok (.getfield 18, 3) := by decide +kernel
theorem d_Ld_copyFrom_73 : decode b_Ld_copyFrom 73 = .ok (.iconst 0, 1) := by decide +kernel
theorem d_Ld_copyFrom_74 : decode b_Ld_copyFrom 74 = .ok (.aload_n 0, 1) := by decide +kernel
theorem d_Ld_copyFrom_75 : decode b_Ld_copyFrom 75 = .ok (.getfield 18, 3) := by decide +kernel
theorem d_Ld_copyFrom_78 : decode b_Ld_copyFrom 78 = .ok (.iconst 0, 1) := by decide +kernel
theorem d_Ld_copyFrom_79 : decode b_Ld_copyFrom 79 = .ok (.iconst 3, 1) := by decide +kernel
theorem d_Ld_copyFrom_80 : decode b_Ld_copyFrom 80 = .ok (.invokestatic 86, 3) := by decide +kernel
theorem d_Ld_copyFrom_83 : decode b_Ld_copyFrom 83 = .ok (.aload_n 1, 1) := by decide +kernel
theorem d_Ld_copyFrom_84 : decode b_Ld_copyFrom 84 = .ok (.getfield 21, 3) := by decide +kernel
theorem d_Ld_copyFrom_87 : decode b_Ld_copyFrom 87 = .ok (.iconst 0, 1) := by decide +kernel
theorem d_Ld_copyFrom_88 : decode b_Ld_copyFrom 88 = .ok (.aload_n 0, 1) := by decide +kernel
theorem d_Ld_copyFrom_89 : decode b_Ld_copyFrom 89 = .ok (.getfield 21, 3) := by decide +kernel
theorem d_Ld_copyFrom_92 : decode b_Ld_copyFrom 92 = .ok (.iconst 0, 1) := by decide +kernel
theorem d_Ld_copyFrom_93 : decode b_Ld_copyFrom 93 = .ok (.bipush 6, 2) := by decide +kernel
theorem d_Ld_copyFrom_95 : decode b_Ld_copyFrom 95 = .ok (.invokestatic 86, 3) := by decide +kernel
theorem d_Ld_copyFrom_98 : decode b_Ld_copyFrom 98 = .ok (.aload_n 1, 1) := by decide +kernel
theorem d_Ld_copyFrom_99 : decode b_Ld_copyFrom 99 = .ok (.getfield 25, 3) := by decide +kernel
theorem d_Ld_copyFrom_102 : decode b_Ld_copyFrom 102 = .ok (.iconst 0, 1) := by decide +kernel
theorem d_Ld_copyFrom_103 : decode b_Ld_copyFrom 103 = .ok (.aload_n 0, 1) := by decide +kernel
theorem d_Ld_copyFrom_104 : decode b_Ld_copyFrom 104 = .ok (.getfield 25, 3) := by decide +kernel
theorem d_Ld_copyFrom_107 : decode b_Ld_copyFrom 107 = .ok (.iconst 0, 1) := by decide +kernel
theorem d_Ld_copyFrom_108 : decode b_Ld_copyFrom 108 = .ok (.bipush 6, 2) := by decide +kernel
theorem d_Ld_copyFrom_110 : decode b_Ld_copyFrom 110 = .ok (.invokestatic 86, 3) := by decide +kernel
theorem d_Ld_copyFrom_113 : decode b_Ld_copyFrom 113 = .ok (.aload_n 0, 1) := by decide +kernel
theorem d_Ld_copyFrom_114 : decode b_Ld_copyFrom 114 = .ok (.aload_n 1, 1) := by decide +kernel
theorem d_Ld_copyFrom_115 : decode b_Ld_copyFrom 115 = .ok (.getfield 77, 3) := by decide +kernel
theorem d_Ld_copyFrom_118 : decode b_Ld_copyFrom 118 = .ok (.putfield 77, 3) := by decide +kernel
theorem d_Ld_copyFrom_121 : decode b_Ld_copyFrom 121 = .ok (.aload_n 1, 1) := by decide +kernel
theorem d_Ld_copyFrom_122 : decode b_Ld_copyFrom 122 = .ok (.getfield 28, 3) := by decide +kernel
theorem d_Ld_copyFrom_125 : decode b_Ld_copyFrom 125 = .ok (.iconst 0, 1) := by decide +kernel
theorem d_Ld_copyFrom_126 : decode b_Ld_copyFrom 126 = .ok (.aload_n 0, 1) := by decide +kernel
theorem d_Ld_copyFrom_127 : decode b_Ld_copyFrom 127 = .ok (.getfield 28, 3) := by decide +kernel
theorem d_Ld_copyFrom_130 : decode b_Ld_copyFrom 130 = .ok (.iconst 0, 1) := by decide +kernel
theorem d_Ld_copyFrom_131 : decode b_Ld_copyFrom 131 = .ok (.bipush 6, 2) := by decide +kernel
theorem d_Ld_copyFrom_133 : decode b_Ld_copyFrom 133 = .ok (.invokestatic 86, 3) := by decide +kernel
theorem d_Ld_copyFrom_136 : decode b_Ld_copyFrom 136 = .ok (.aload_n 1, 1) := by decide +kernel
theorem d_Ld_copyFrom_137 : decode b_Ld_copyFrom 137 = .ok (.getfield 31, 3) := by decide +kernel
theorem d_Ld_copyFrom_140 : decode b_Ld_copyFrom 140 = .ok (.iconst 0, 1) := by decide +kernel
theorem d_Ld_copyFrom_141 : decode b_Ld_copyFrom 141 = .ok (.aload_n 0, 1) := by decide +kernel
theorem d_Ld_copyFrom_142 : decode b_Ld_copyFrom 142 = .ok (.getfield 31, 3) := by decide +kernel
theorem d_Ld_copyFrom_145 : decode b_Ld_copyFrom 145 = .ok (.iconst 0, 1) := by decide +kernel
theorem d_Ld_copyFrom_146 : decode b_Ld_copyFrom 146 = .ok (.bipush 6, 2) := by decide +kernel
theorem d_Ld_copyFrom_148 : decode b_Ld_copyFrom 148 = .ok (.invokestatic 86, 3) := by decide +kernel
theorem d_Ld_copyFrom_151 : decode b_Ld_copyFrom 151 = .ok (.aload_n 1, 1) := by decide +kernel
theorem d_Ld_copyFrom_152 : decode b_Ld_copyFrom 152 = .ok (.getfield 34, 3) := by decide +kernel
theorem d_Ld_copyFrom_155 : decode b_Ld_copyFrom 155 = .ok (.iconst 0, 1) := by decide +kernel
theorem d_Ld_copyFrom_156 : decode b_Ld_copyFrom 156 = .ok (.aload_n 0, 1) := by decide +kernel
theorem d_Ld_copyFrom_157 : decode b_Ld_copyFrom 157 = .ok (.getfield 34, 3) := by decide +kernel
theorem d_Ld_copyFrom_160 : decode b_Ld_copyFrom 160 = .ok (.iconst 0, 1) := by decide +kernel
theorem d_Ld_copyFrom_161 : decode b_Ld_copyFrom 161 = .ok (.bipush 6, 2) := by decide +kernel
theorem d_Ld_copyFrom_163 : decode b_Ld_copyFrom 163 = .ok (.invokestatic 86, 3) := by decide +kernel
theorem d_Ld_copyFrom_166 : decode b_Ld_copyFrom 166 = .ok (.aload_n 1, 1) := by decide +kernel
theorem d_Ld_copyFrom_167 : decode b_Ld_copyFrom 167 = .ok (.getfield 37, 3) := by decide +kernel
theorem d_Ld_copyFrom_170 : decode b_Ld_copyFrom 170 = .ok (.iconst 0, 1) := by decide +kernel
theorem d_Ld_copyFrom_171 : decode b_Ld_copyFrom 171 = .ok (.aload_n 0, 1) := by decide +kernel
theorem d_Ld_copyFrom_172 : decode b_Ld_copyFrom 172 = .ok (.getfield 37, 3) := by decide +kernel
theorem d_Ld_copyFrom_175 : decode b_Ld_copyFrom 175 = .ok (.iconst 0, 1) := by decide +kernel
theorem d_Ld_copyFrom_176 : decode b_Ld_copyFrom 176 = .ok (.bipush 6, 2) := by decide +kernel
theorem d_Ld_copyFrom_178 : decode b_Ld_copyFrom 178 = .ok (.invokestatic 86, 3) := by decide +kernel
theorem d_Ld_copyFrom_181 : decode b_Ld_copyFrom 181 = .ok (.aload_n 0, 1) := by decide +kernel
theorem d_Ld_copyFrom_182 : decode b_Ld_copyFrom 182 = .ok (.aload_n 1, 1) := by decide +kernel
theorem d_Ld_copyFrom_183 : decode b_Ld_copyFrom 183 = .ok (.getfield 80, 3) := by decide +kernel
theorem d_Ld_copyFrom_186 : decode b_Ld_copyFrom 186 = .ok (.putfield 80, 3) := by decide +kernel
theorem d_Ld_copyFrom_189 : decode b_Ld_copyFrom 189 = .ok (.aload_n 1, 1) := by decide +kernel
theorem d_Ld_copyFrom_190 : decode b_Ld_copyFrom 190 = .ok (.getfield 40, 3) := by decide +kernel
theorem d_Ld_copyFrom_193 : decode b_Ld_copyFrom 193 = .ok (.iconst 0, 1) := by decide +kernel
theorem d_Ld_copyFrom_194 : decode b_Ld_copyFrom 194 = .ok (.aload_n 0, 1) := by decide +kernel
theorem d_Ld_copyFrom_195 : decode b_Ld_copyFrom 195 = .ok (.getfield 40, 3) := by decide +kernel
theorem d_Ld_copyFrom_198 : decode b_Ld_copyFrom 198 = .ok (.iconst 0, 1) := by decide +kernel
theorem d_Ld_copyFrom_199 : decode b_Ld_copyFrom 199 = .ok (.bipush 40, 2) := by decide +kernel
theorem d_Ld_copyFrom_201 : decode b_Ld_copyFrom 201 = .ok (.invokestatic 86, 3) := by decide +kernel
theorem d_Ld_copyFrom_204 : decode b_Ld_copyFrom 204 = .ok (.aload_n 0, 1) := by decide +kernel
theorem d_Ld_copyFrom_205 : decode b_Ld_copyFrom 205 = .ok (.aload_n 1, 1) := by decide +kernel
theorem d_Ld_copyFrom_206 : decode b_Ld_copyFrom 206 = .ok (.getfield 83, 3) := by decide +kernel
theorem d_Ld_copyFrom_209 : decode b_Ld_copyFrom 209 = .ok (.putfield 83, 3) := by decide +kernel
theorem d_Ld_copyFrom_212 : decode b_Ld_copyFrom 212 = .ok (.aload_n 1, 1) := by decide +kernel
theorem d_Ld_copyFrom_213 : decode b_Ld_copyFrom 213 = .ok (.getfield 43, 3) := by decide +kernel
theorem d_Ld_copyFrom_216 : decode b_Ld_copyFrom 216 = .ok (.iconst 0, 1) := by decide +kernel
theorem d_Ld_copyFrom_217 : decode b_Ld_copyFrom 217 = .ok (.aload_n 0, 1) := by decide +kernel
theorem d_Ld_copyFrom_218 : decode b_Ld_copyFrom 218 = .ok (.getfield 43, 3) := by decide +kernel
theorem d_Ld_copyFrom_221 : decode b_Ld_copyFrom 221 = .ok (.iconst 0, 1) := by decide +kernel
theorem d_Ld_copyFrom_222 : decode b_Ld_copyFrom 222 = .ok (.sipush 328, 3) := by decide +kernel
theorem d_Ld_copyFrom_225 : decode b_Ld_copyFrom 225 = .ok (.invokestatic 86, 3) := by decide +kernel
theorem d_Ld_copyFrom_228 : decode b_Ld_copyFrom 228 = .ok (.return_, 1) := by decide +kernel
theorem d_Ld_rowOf_0 : decode b_Ld_rowOf 0 = .ok (.iconst 0, 1) := by decide +kernel
theorem d_Ld_rowOf_1 : decode b_Ld_rowOf 1 = .ok (.istore_n 2, 1) := by decide +kernel
theorem d_Ld_rowOf_2 : decode b_Ld_rowOf 2 = .ok (.iload_n 2, 1) := by decide +kernel
theorem d_Ld_rowOf_3 : decode b_Ld_rowOf 3 = .ok (.aload_n 0, 1) := by decide +kernel
theorem d_Ld_rowOf_4 : decode b_Ld_rowOf 4 = .ok (.arraylength, 1) := by decide +kernel
theorem d_Ld_rowOf_5 : decode b_Ld_rowOf 5 = .ok (.if_icmp .ge 21, 3) := by decide +kernel
theorem d_Ld_rowOf_8 : decode b_Ld_rowOf 8 = .ok (.aload_n 0, 1) := by decide +kernel
theorem d_Ld_rowOf_9 : decode b_Ld_rowOf 9 = .ok (.iload_n 2, 1) := by decide +kernel
theorem d_Ld_rowOf_10 : decode b_Ld_rowOf 10 = .ok (.laload, 1) := by decide +kernel
theorem d_Ld_rowOf_11 : decode b_Ld_rowOf 11 = .ok (.iload_n 1, 1) := by decide +kernel
theorem d_Ld_rowOf_12 : decode b_Ld_rowOf 12 = .ok (.invokestatic 92, 3) := by decide +kernel
theorem d_Ld_rowOf_15 : decode b_Ld_rowOf 15 = .ok (.ifCond .eq 5, 3) := by decide +kernel
theorem d_Ld_rowOf_18 : decode b_Ld_rowOf 18 = .ok (.iload_n 2, 1) := by decide +kernel
theorem d_Ld_rowOf_19 : decode b_Ld_rowOf 19 = .ok (.ireturn, 1) := by decide +kernel
theorem d_Ld_rowOf_20 : decode b_Ld_rowOf 20 = .ok (.iinc 2 1, 3) := by decide +kernel
theorem d_Ld_rowOf_23 : decode b_Ld_rowOf 23 = .ok (.goto (-21), 3) := by decide +kernel
theorem d_Ld_rowOf_26 : decode b_Ld_rowOf 26 = .ok (.iconst 0, 1) := by decide +kernel
theorem d_Ld_rowOf_27 : decode b_Ld_rowOf 27 = .ok (.ireturn, 1) := by decide +kernel
theorem d_Ld_sortInto_0 : decode b_Ld_sortInto 0 = .ok (.aload_n 0, 1) := by decide +kernel
theorem d_Ld_sortInto_1 : decode b_Ld_sortInto 1 = .ok (.iload_n 1, 1) := by decide +kernel
theorem d_Ld_sortInto_2 : decode b_Ld_sortInto 2 = .ok (.invokestatic 96, 3) := by decide +kernel
theorem d_Ld_sortInto_5 : decode b_Ld_sortInto 5 = .ok (.istore_n 3, 1) := by decide +kernel
theorem d_Ld_sortInto_6 : decode b_Ld_sortInto 6 = .ok (.lconst 1, 1) := by decide +kernel
theorem d_Ld_sortInto_7 : decode b_Ld_sortInto 7 = .ok (.iload_n 1, 1) := by decide +kernel
theorem d_Ld_sortInto_8 : decode b_Ld_sortInto 8 = .ok (.lshl, 1) := by decide +kernel
theorem d_Ld_sortInto_9 : decode b_Ld_sortInto 9 = .ok (.lstore 4, 2) := by decide +kernel
theorem d_Ld_sortInto_11 : decode b_Ld_sortInto 11 = .ok (.iconst 0, 1) := by decide +kernel
theorem d_Ld_sortInto_12 : decode b_Ld_sortInto 12 = .ok (.istore 6, 2) := by decide +kernel
theorem d_Ld_sortInto_14 : decode b_Ld_sortInto 14 = .ok (.iload 6, 2) := by decide +kernel
theorem d_Ld_sortInto_16 : decode b_Ld_sortInto 16 = .ok (.aload_n 0, 1) := by decide +kernel
theorem d_Ld_sortInto_17 : decode b_Ld_sortInto 17 = .ok (.arraylength, 1) := by decide +kernel
theorem d_Ld_sortInto_18 : decode b_Ld_sortInto 18 = .ok (.if_icmp .ge 40, 3) := by decide +kernel
theorem d_Ld_sortInto_21 : decode b_Ld_sortInto 21 = .ok (.aload_n 0, 1) := by decide +kernel
theorem d_Ld_sortInto_22 : decode b_Ld_sortInto 22 = .ok (.iload 6, 2) := by decide +kernel
theorem d_Ld_sortInto_24 : decode b_Ld_sortInto 24 = .ok (.iload 6, 2) := by decide +kernel
theorem d_Ld_sortInto_26 : decode b_Ld_sortInto 26 = .ok (.iload_n 2, 1) := by decide +kernel
theorem d_Ld_sortInto_27 : decode b_Ld_sortInto 27 = .ok (.if_icmp .ne 13, 3) := by decide +kernel
theorem d_Ld_sortInto_30 : decode b_Ld_sortInto 30 = .ok (.aload_n 0, 1) := by decide +kernel
theorem d_Ld_sortInto_31 : decode b_Ld_sortInto 31 = .ok (.iload 6, 2) := by decide +kernel
theorem d_Ld_sortInto_33 : decode b_Ld_sortInto 33 = .ok (.laload, 1) := by decide +kernel
theorem d_Ld_sortInto_34 : decode b_Ld_sortInto 34 = .ok (.lload 4, 2) := by decide +kernel
theorem d_Ld_sortInto_36 : decode b_Ld_sortInto 36 = .ok (.lor, 1) := by decide +kernel
theorem d_Ld_sortInto_37 : decode b_Ld_sortInto 37 = .ok (.goto 14, 3) := by decide +kernel
theorem d_Ld_sortInto_40 : decode b_Ld_sortInto 40 = .ok (.aload_n 0, 1) := by decide +kernel
theorem d_Ld_sortInto_41 : decode b_Ld_sortInto 41 = .ok (.iload 6, 2) := by decide +kernel
theorem d_Ld_sortInto_43 : decode b_Ld_sortInto 43 = .ok (.laload, 1) := by decide +kernel
theorem d_Ld_sortInto_44 : decode b_Ld_sortInto 44 = .ok (.lload 4, 2) := by decide +kernel
theorem d_Ld_sortInto_46 : decode b_Ld_sortInto 46 = .ok (.ldc2_w 100, 3) := by decide +kernel
theorem d_Ld_sortInto_49 : decode b_Ld_sortInto 49 = .ok (.lxor, 1) := by decide +kernel
theorem d_Ld_sortInto_50 : decode b_Ld_sortInto 50 = .ok (.land, 1) := by decide +kernel
theorem d_Ld_sortInto_51 : decode b_Ld_sortInto 51 = .ok (.lastore, 1) := by decide +kernel
theorem d_Ld_sortInto_52 : decode b_Ld_sortInto 52 = .ok (.iinc 6 1, 3) := by decide +kernel
theorem d_Ld_sortInto_55 : decode b_Ld_sortInto 55 = .ok (.goto (-41), 3) := by decide +kernel
theorem d_Ld_sortInto_58 : decode b_Ld_sortInto 58 = .ok (.iload_n 3, 1) := by decide +kernel
theorem d_Ld_sortInto_59 : decode b_Ld_sortInto 59 = .ok (.ireturn, 1) := by decide +kernel
theorem d_Ld_beside_0 : decode b_Ld_beside 0 = .ok (.lload_n 1, 1) := by decide +kernel
theorem d_Ld_beside_1 : decode b_Ld_beside 1 = .ok (.aload_n 0, 1) := by decide +kernel
theorem d_Ld_beside_2 : decode b_Ld_beside 2 = .ok (.getfield 61, 3) := by decide +kernel
theorem d_Ld_beside_5 : decode b_Ld_beside 5 = .ok (.ldc2_w 100, 3) := by decide +kernel
theorem d_Ld_beside_8 : decode b_Ld_beside 8 = .ok (.lxor, 1) := by decide +kernel
theorem d_Ld_beside_9 : decode b_Ld_beside 9 = .ok (.land, 1) := by decide +kernel
theorem d_Ld_beside_10 : decode b_Ld_beside 10 = .ok (.iconst 1, 1) := by decide +kernel
theorem d_Ld_beside_11 : decode b_Ld_beside 11 = .ok (.lushr, 1) := by decide +kernel
theorem d_Ld_beside_12 : decode b_Ld_beside 12 = .ok (.lload_n 1, 1) := by decide +kernel
theorem d_Ld_beside_13 : decode b_Ld_beside 13 = .ok (.aload_n 0, 1) := by decide +kernel
theorem d_Ld_beside_14 : decode b_Ld_beside 14 = .ok (.getfield 64, 3) := by decide +kernel
theorem d_Ld_beside_17 : decode b_Ld_beside 17 = .ok (.ldc2_w 100, 3) := by decide +kernel
theorem d_Ld_beside_20 : decode b_Ld_beside 20 = .ok (.lxor, 1) := by decide +kernel
theorem d_Ld_beside_21 : decode b_Ld_beside 21 = .ok (.land, 1) := by decide +kernel
theorem d_Ld_beside_22 : decode b_Ld_beside 22 = .ok (.iconst 1, 1) := by decide +kernel
theorem d_Ld_beside_23 : decode b_Ld_beside 23 = .ok (.lshl, 1) := by decide +kernel
theorem d_Ld_beside_24 : decode b_Ld_beside 24 = .ok (.lor, 1) := by decide +kernel
theorem d_Ld_beside_25 : decode b_Ld_beside 25 = .ok (.lstore_n 3, 1) := by decide +kernel
theorem d_Ld_beside_26 : decode b_Ld_beside 26 = .ok (.lload_n 3, 1) := by decide +kernel
theorem d_Ld_beside_27 : decode b_Ld_beside 27 = .ok (.lload_n 1, 1) := by decide +kernel
theorem d_Ld_beside_28 : decode b_Ld_beside 28 = .ok (.aload_n 0, 1) := by decide +kernel
theorem d_Ld_beside_29 : decode b_Ld_beside 29 = .ok (.getfield 50, 3) := by decide +kernel
theorem d_Ld_beside_32 : decode b_Ld_beside 32 = .ok (.lushr, 1) := by decide +kernel
theorem d_Ld_beside_33 : decode b_Ld_beside 33 = .ok (.lor, 1) := by decide +kernel
theorem d_Ld_beside_34 : decode b_Ld_beside 34 = .ok (.lload_n 1, 1) := by decide +kernel
theorem d_Ld_beside_35 : decode b_Ld_beside 35 = .ok (.aload_n 0, 1) := by decide +kernel
theorem d_Ld_beside_36 : decode b_Ld_beside 36 = .ok (.getfield 50, 3) := by decide +kernel
theorem d_Ld_beside_39 : decode b_Ld_beside 39 = .ok (.lshl, 1) := by decide +kernel
theorem d_Ld_beside_40 : decode b_Ld_beside 40 = .ok (.lor, 1) := by decide +kernel
theorem d_Ld_beside_41 : decode b_Ld_beside 41 = .ok (.aload_n 0, 1) := by decide +kernel
theorem d_Ld_beside_42 : decode b_Ld_beside 42 = .ok (.getfield 57, 3) := by decide +kernel
theorem d_Ld_beside_45 : decode b_Ld_beside 45 = .ok (.land, 1) := by decide +kernel
theorem d_Ld_beside_46 : decode b_Ld_beside 46 = .ok (.lreturn, 1) := by decide +kernel
theorem d_Ld_airOf_0 : decode b_Ld_airOf 0 = .ok (.iload_n 1, 1) := by decide +kernel
theorem d_Ld_airOf_1 : decode b_Ld_airOf 1 = .ok (.ifCond .lt 18, 3) := by decide +kernel
theorem d_Ld_airOf_4 : decode b_Ld_airOf 4 = .ok (.iload_n 1, 1) := by decide +kernel
theorem d_Ld_airOf_5 : decode b_Ld_airOf 5 = .ok (.bipush 6, 2) := by decide +kernel
theorem d_Ld_airOf_7 : decode b_Ld_airOf 7 = .ok (.if_icmp .ge 12, 3) := by decide +kernel
theorem d_Ld_airOf_10 : decode b_Ld_airOf 10 = .ok (.aload_n 0, 1) := by decide +kernel
theorem d_Ld_airOf_11 : decode b_Ld_airOf 11 = .ok (.getfield 15, 3) := by decide +kernel
theorem d_Ld_airOf_14 : decode b_Ld_airOf 14 = .ok (.iload_n 1, 1) := by decide +kernel
theorem d_Ld_airOf_15 : decode b_Ld_airOf 15 = .ok (.laload, 1) := by decide +kernel
theorem d_Ld_airOf_16 : decode b_Ld_airOf 16 = .ok (.goto 4, 3) := by decide +kernel
theorem d_Ld_airOf_19 : decode b_Ld_airOf 19 = .ok (.lconst 0, 1) := by decide +kernel
theorem d_Ld_airOf_20 : decode b_Ld_airOf 20 = .ok (.lreturn, 1) := by decide +kernel
theorem d_Ld_changeFee_0 : decode b_Ld_changeFee 0 = .ok (.iload_n 1, 1) := by decide +kernel
theorem d_Ld_changeFee_1 : decode b_Ld_changeFee 1 = .ok (.ifCond .lt 9, 3) := by decide +kernel
theorem d_Ld_changeFee_4 : decode b_Ld_changeFee 4 = .ok (.iload_n 1, 1) := by decide +kernel
theorem d_Ld_changeFee_5 : decode b_Ld_changeFee 5 = .ok (.bipush 6, 2) := by decide +kernel
theorem d_Ld_changeFee_7 : decode b_Ld_changeFee 7 = .ok (.if_icmp .lt 5, 3) := by decide +kernel
theorem d_Ld_changeFee_10 : decode b_Ld_changeFee 10 = .ok (.iconst (-1), 1) := by decide +kernel
theorem d_Ld_changeFee_11 : decode b_Ld_changeFee 11 = .ok (.ireturn, 1) := by decide +kernel
theorem d_Ld_changeFee_12 : decode b_Ld_changeFee 12 = .ok (.aload_n 0, 1) := by decide +kernel
theorem d_Ld_changeFee_13 : decode b_Ld_changeFee 13 = .ok (.getfield 21, 3) := by decide +kernel
theorem d_Ld_changeFee_16 : decode b_Ld_changeFee 16 = .ok (.iload_n 1, 1) := by decide +kernel
theorem d_Ld_changeFee_17 : decode b_Ld_changeFee 17 = .ok (.iaload, 1) := by decide +kernel
theorem d_Ld_changeFee_18 : decode b_Ld_changeFee 18 = .ok (.istore_n 3, 1) := by decide +kernel
theorem d_Ld_changeFee_19 : decode b_Ld_changeFee 19 = .ok (.aload_n 0, 1) := by decide +kernel
theorem d_Ld_changeFee_20 : decode b_Ld_changeFee 20 = .ok (.getfield 21, 3) := by decide +kernel
theorem d_Ld_changeFee_23 : decode b_Ld_changeFee 23 = .ok (.iload_n 1, 1) := by decide +kernel
theorem d_Ld_changeFee_24 : decode b_Ld_changeFee 24 = .ok (.iload_n 2, 1) := by decide +kernel
theorem d_Ld_changeFee_25 : decode b_Ld_changeFee 25 = .ok (.iastore, 1) := by decide +kernel
theorem d_Ld_changeFee_26 : decode b_Ld_changeFee 26 = .ok (.iload_n 3, 1) := by decide +kernel
theorem d_Ld_changeFee_27 : decode b_Ld_changeFee 27 = .ok (.ireturn, 1) := by decide +kernel
theorem d_Ld_letBy_0 : decode b_Ld_letBy 0 = .ok (.iload_n 1, 1) := by decide +kernel
theorem d_Ld_letBy_1 : decode b_Ld_letBy 1 = .ok (.ifCond .lt 18, 3) := by decide +kernel
theorem d_Ld_letBy_4 : decode b_Ld_letBy 4 = .ok (.iload_n 1, 1) := by decide +kernel
theorem d_Ld_letBy_5 : decode b_Ld_letBy 5 = .ok (.bipush 6, 2) := by decide +kernel
theorem d_Ld_letBy_7 : decode b_Ld_letBy 7 = .ok (.if_icmp .ge 12, 3) := by decide +kernel
theorem d_Ld_letBy_10 : decode b_Ld_letBy 10 = .ok (.aload_n 0, 1) := by decide +kernel
theorem d_Ld_letBy_11 : decode b_Ld_letBy 11 = .ok (.getfield 25, 3) := by decide +kernel
theorem d_Ld_letBy_14 : decode b_Ld_letBy 14 = .ok (.iload_n 1, 1) := by decide +kernel
theorem d_Ld_letBy_15 : decode b_Ld_letBy 15 = .ok (.iaload, 1) := by decide +kernel
theorem d_Ld_letBy_16 : decode b_Ld_letBy 16 = .ok (.goto 4, 3) := by decide +kernel
theorem d_Ld_letBy_19 : decode b_Ld_letBy 19 = .ok (.iconst (-1), 1) := by decide +kernel
theorem d_Ld_letBy_20 : decode b_Ld_letBy 20 = .ok (.ireturn, 1) := by decide +kernel
theorem d_Ld_selfOf_0 : decode b_Ld_selfOf 0 = .ok (.iload_n 1, 1) := by decide +kernel
theorem d_Ld_selfOf_1 : decode b_Ld_selfOf 1 = .ok (.ifCond .lt 20, 3) := by decide +kernel
theorem d_Ld_selfOf_4 : decode b_Ld_selfOf 4 = .ok (.iload_n 1, 1) := by decide +kernel
theorem d_Ld_selfOf_5 : decode b_Ld_selfOf 5 = .ok (.aload_n 0, 1) := by decide +kernel
theorem d_Ld_selfOf_6 : decode b_Ld_selfOf 6 = .ok (.getfield 77, 3) := by decide +kernel
theorem d_Ld_selfOf_9 : decode b_Ld_selfOf 9 = .ok (.if_icmp .ge 12, 3) := by decide +kernel
theorem d_Ld_selfOf_12 : decode b_Ld_selfOf 12 = .ok (.aload_n 0, 1) := by decide +kernel
theorem d_Ld_selfOf_13 : decode b_Ld_selfOf 13 = .ok (.getfield 34, 3) := by decide +kernel
theorem d_Ld_selfOf_16 : decode b_Ld_selfOf 16 = .ok (.iload_n 1, 1) := by decide +kernel
theorem d_Ld_selfOf_17 : decode b_Ld_selfOf 17 = .ok (.iaload, 1) := by decide +kernel
theorem d_Ld_selfOf_18 : decode b_Ld_selfOf 18 = .ok (.goto 4, 3) := by decide +kernel
theorem d_Ld_selfOf_21 : decode b_Ld_selfOf 21 = .ok (.iconst (-1), 1) := by decide +kernel
theorem d_Ld_selfOf_22 : decode b_Ld_selfOf 22 = .ok (.ireturn, 1) := by decide +kernel
theorem d_Ld_addMaker_0 : decode b_Ld_addMaker 0 = .ok (.aload_n 0, 1) := by decide +kernel
theorem d_Ld_addMaker_1 : decode b_Ld_addMaker 1 = .ok (.getfield 77, 3) := by decide +kernel
theorem d_Ld_addMaker_4 : decode b_Ld_addMaker 4 = .ok (.bipush 6, 2) := by decide +kernel
theorem d_Ld_addMaker_6 : decode b_Ld_addMaker 6 = .ok (.if_icmp .ge 53, 3) := by decide +kernel
theorem d_Ld_addMaker_9 : decode b_Ld_addMaker 9 = .ok (.aload_n 0, 1) := by decide +kernel
theorem d_Ld_addMaker_10 : decode b_Ld_addMaker 10 = .ok (.getfield 28, 3) := by decide +kernel
theorem d_Ld_addMaker_13 : decode b_Ld_addMaker 13 = .ok (.aload_n 0, 1) := by decide +kernel
theorem d_Ld_addMaker_14 : decode b_Ld_addMaker 14 = .ok (.getfield 77, 3) := by decide +kernel
theorem d_Ld_addMaker_17 : decode b_Ld_addMaker 17 = .ok (.iload_n 1, 1) := by decide +kernel
theorem d_Ld_addMaker_18 : decode b_Ld_addMaker 18 = .ok (.iastore, 1) := by decide +kernel
theorem d_Ld_addMaker_19 : decode b_Ld_addMaker 19 = .ok (.aload_n 0, 1) := by decide +kernel
theorem d_Ld_addMaker_20 : decode b_Ld_addMaker 20 = .ok (.getfield 31, 3) := by decide +kernel
theorem d_Ld_addMaker_23 : decode b_Ld_addMaker 23 = .ok (.aload_n 0, 1) := by decide +kernel
theorem d_Ld_addMaker_24 : decode b_Ld_addMaker 24 = .ok (.getfield 77, 3) := by decide +kernel
theorem d_Ld_addMaker_27 : decode b_Ld_addMaker 27 = .ok (.iload_n 2, 1) := by decide +kernel
theorem d_Ld_addMaker_28 : decode b_Ld_addMaker 28 = .ok (.iastore, 1) := by decide +kernel
theorem d_Ld_addMaker_29 : decode b_Ld_addMaker 29 = .ok (.aload_n 0, 1) := by decide +kernel
theorem d_Ld_addMaker_30 : decode b_Ld_addMaker 30 = .ok (.getfield 34, 3) := by decide +kernel
theorem d_Ld_addMaker_33 : decode b_Ld_addMaker 33 = .ok (.aload_n 0, 1) := by decide +kernel
theorem d_Ld_addMaker_34 : decode b_Ld_addMaker 34 = .ok (.getfield 77, 3) := by decide +kernel
theorem d_Ld_addMaker_37 : decode b_Ld_addMaker 37 = .ok (.iload_n 3, 1) := by decide +kernel
theorem d_Ld_addMaker_38 : decode b_Ld_addMaker 38 = .ok (.iastore, 1) := by decide +kernel
theorem d_Ld_addMaker_39 : decode b_Ld_addMaker 39 = .ok (.aload_n 0, 1) := by decide +kernel
theorem d_Ld_addMaker_40 : decode b_Ld_addMaker 40 = .ok (.getfield 37, 3) := by decide +kernel
theorem d_Ld_addMaker_43 : decode b_Ld_addMaker 43 = .ok (.aload_n 0, 1) := by decide +kernel
theorem d_Ld_addMaker_44 : decode b_Ld_addMaker 44 = .ok (.getfield 77, 3) := by decide +kernel
theorem d_Ld_addMaker_47 : decode b_Ld_addMaker 47 = .ok (.iconst 5, 1) := by decide +kernel
theorem d_Ld_addMaker_48 : decode b_Ld_addMaker 48 = .ok (.iastore, 1) := by decide +kernel
theorem d_Ld_addMaker_49 : decode b_Ld_addMaker 49 = .ok (.aload_n 0, 1) := by decide +kernel
theorem d_Ld_addMaker_50 : decode b_Ld_addMaker 50 = .ok (.dup, 1) := by decide +kernel
theorem d_Ld_addMaker_51 : decode b_Ld_addMaker 51 = .ok (.getfield 77, 3) := by decide +kernel
theorem d_Ld_addMaker_54 : decode b_Ld_addMaker 54 = .ok (.iconst 1, 1) := by decide +kernel
theorem d_Ld_addMaker_55 : decode b_Ld_addMaker 55 = .ok (.iadd, 1) := by decide +kernel
theorem d_Ld_addMaker_56 : decode b_Ld_addMaker 56 = .ok (.putfield 77, 3) := by decide +kernel
theorem d_Ld_addMaker_59 : decode b_Ld_addMaker 59 = .ok (.return_, 1) := by decide +kernel
theorem d_Ld_part_0 : decode b_Ld_part 0 = .ok (.iload_n 1, 1) := by decide +kernel
theorem d_Ld_part_1 : decode b_Ld_part 1 = .ok (.iconst 5, 1) := by decide +kernel
theorem d_Ld_part_2 : decode b_Ld_part 2 = .ok (.imul, 1) := by decide +kernel
theorem d_Ld_part_3 : decode b_Ld_part 3 = .ok (.iload_n 2, 1) := by decide +kernel
theorem d_Ld_part_4 : decode b_Ld_part 4 = .ok (.iadd, 1) := by decide +kernel
theorem d_Ld_part_5 : decode b_Ld_part 5 = .ok (.istore_n 3, 1) := by decide +kernel
theorem d_Ld_part_6 : decode b_Ld_part 6 = .ok (.iload_n 3, 1) := by decide +kernel
theorem d_Ld_part_7 : decode b_Ld_part 7 = .ok (.ifCond .lt 21, 3) := by decide +kernel
theorem d_Ld_part_10 : decode b_Ld_part 10 = .ok (.iload_n 3, 1) := by decide +kernel
theorem d_Ld_part_11 : decode b_Ld_part 11 = .ok (.aload_n 0, 1) := by decide +kernel
theorem d_Ld_part_12 : decode b_Ld_part 12 = .ok (.getfield 40, 3) := by decide +kernel
theorem d_Ld_part_15 : decode b_Ld_part 15 = .ok (.arraylength, 1) := by decide +kernel
theorem d_Ld_part_16 : decode b_Ld_part 16 = .ok (.if_icmp .ge 12, 3) := by decide +kernel
theorem d_Ld_part_19 : decode b_Ld_part 19 = .ok (.aload_n 0, 1) := by decide +kernel
theorem d_Ld_part_20 : decode b_Ld_part 20 = .ok (.getfield 40, 3) := by decide +kernel
theorem d_Ld_part_23 : decode b_Ld_part 23 = .ok (.iload_n 3, 1) := by decide +kernel
theorem d_Ld_part_24 : decode b_Ld_part 24 = .ok (.iaload, 1) := by decide +kernel
theorem d_Ld_part_25 : decode b_Ld_part 25 = .ok (.goto 4, 3) := by decide +kernel
theorem d_Ld_part_28 : decode b_Ld_part 28 = .ok (.iconst (-1), 1) := by decide +kernel
theorem d_Ld_part_29 : decode b_Ld_part 29 = .ok (.ireturn, 1) := by decide +kernel
theorem d_Ld_isIn_0 : decode b_Ld_isIn 0 = .ok (.aload_n 0, 1) := by decide +kernel
theorem d_Ld_isIn_1 : decode b_Ld_isIn 1 = .ok (.iload_n 1, 1) := by decide +kernel
theorem d_Ld_isIn_2 : decode b_Ld_isIn 2 = .ok (.iconst 2, 1) := by decide +kernel
theorem d_Ld_isIn_3 : decode b_Ld_isIn 3 = .ok (.invokevirtual 102, 3) := by decide +kernel
theorem d_Ld_isIn_6 : decode b_Ld_isIn 6 = .ok (.iload_n 2, 1) := by decide +kernel
theorem d_Ld_isIn_7 : decode b_Ld_isIn 7 = .ok (.if_icmp .gt 17, 3) := by decide +kernel
theorem d_Ld_isIn_10 : decode b_Ld_isIn 10 = .ok (.iload_n 2, 1) := by decide +kernel
theorem d_Ld_isIn_11 : decode b_Ld_isIn 11 = .ok (.aload_n 0, 1) := by decide +kernel
theorem d_Ld_isIn_12 : decode b_Ld_isIn 12 = .ok (.iload_n 1, 1) := by decide +kernel
theorem d_Ld_isIn_13 : decode b_Ld_isIn 13 = .ok (.iconst 3, 1) := by decide +kernel
theorem d_Ld_isIn_14 : decode b_Ld_isIn 14 = .ok (.invokevirtual 102, 3) := by decide +kernel
theorem d_Ld_isIn_17 : decode b_Ld_isIn 17 = .ok (.if_icmp .gt 7, 3) := by decide +kernel
theorem d_Ld_isIn_20 : decode b_Ld_isIn 20 = .ok (.iconst 1, 1) := by decide +kernel
theorem d_Ld_isIn_21 : decode b_Ld_isIn 21 = .ok (.goto 4, 3) := by decide +kernel
theorem d_Ld_isIn_24 : decode b_Ld_isIn 24 = .ok (.iconst 0, 1) := by decide +kernel
theorem d_Ld_isIn_25 : decode b_Ld_isIn 25 = .ok (.ireturn, 1) := by decide +kernel
theorem d_Ld_addLeave_0 : decode b_Ld_addLeave 0 = .ok (.aload_n 0, 1) := by decide +kernel
theorem d_Ld_addLeave_1 : decode b_Ld_addLeave 1 = .ok (.getfield 80, 3) := by decide +kernel
theorem d_Ld_addLeave_4 : decode b_Ld_addLeave 4 = .ok (.bipush 8, 2) := by decide +kernel
theorem d_Ld_addLeave_6 : decode b_Ld_addLeave 6 = .ok (.if_icmp .ge 73, 3) := by decide +kernel
theorem d_Ld_addLeave_9 : decode b_Ld_addLeave 9 = .ok (.aload_n 0, 1) := by decide +kernel
theorem d_Ld_addLeave_10 : decode b_Ld_addLeave 10 = .ok (.getfield 80, 3) := by decide +kernel
theorem d_Ld_addLeave_13 : decode b_Ld_addLeave 13 = .ok (.iconst 5, 1) := by decide +kernel
theorem d_Ld_addLeave_14 : decode b_Ld_addLeave 14 = .ok (.imul, 1) := by decide +kernel
theorem d_Ld_addLeave_15 : decode b_Ld_addLeave 15 = .ok (.istore 6, 2) := by decide +kernel
theorem d_Ld_addLeave_17 : decode b_Ld_addLeave 17 = .ok (.aload_n 0, 1) := by decide +kernel
theorem d_Ld_addLeave_18 : decode b_Ld_addLeave 18 = .ok (.getfield 40, 3) := by decide +kernel
theorem d_Ld_addLeave_21 : decode b_Ld_addLeave 21 = .ok (.iload 6, 2) := by decide +kernel
theorem d_Ld_addLeave_23 : decode b_Ld_addLeave 23 = .ok (.iconst 0, 1) := by decide +kernel
theorem d_Ld_addLeave_24 : decode b_Ld_addLeave 24 = .ok (.iadd, 1) := by decide +kernel
theorem d_Ld_addLeave_25 : decode b_Ld_addLeave 25 = .ok (.iload_n 1, 1) := by decide +kernel
theorem d_Ld_addLeave_26 : decode b_Ld_addLeave 26 = .ok (.iastore, 1) := by decide +kernel
theorem d_Ld_addLeave_27 : decode b_Ld_addLeave 27 = .ok (.aload_n 0, 1) := by decide +kernel
theorem d_Ld_addLeave_28 : decode b_Ld_addLeave 28 = .ok (.getfield 40, 3) := by decide +kernel
theorem d_Ld_addLeave_31 : decode b_Ld_addLeave 31 = .ok (.iload 6, 2) := by decide +kernel
theorem d_Ld_addLeave_33 : decode b_Ld_addLeave 33 = .ok (.iconst 1, 1) := by decide +kernel
theorem d_Ld_addLeave_34 : decode b_Ld_addLeave 34 = .ok (.iadd, 1) := by decide +kernel
theorem d_Ld_addLeave_35 : decode b_Ld_addLeave 35 = .ok (.iload_n 2, 1) := by decide +kernel
theorem d_Ld_addLeave_36 : decode b_Ld_addLeave 36 = .ok (.iastore, 1) := by decide +kernel
theorem d_Ld_addLeave_37 : decode b_Ld_addLeave 37 = .ok (.aload_n 0, 1) := by decide +kernel
theorem d_Ld_addLeave_38 : decode b_Ld_addLeave 38 = .ok (.getfield 40, 3) := by decide +kernel
theorem d_Ld_addLeave_41 : decode b_Ld_addLeave 41 = .ok (.iload 6, 2) := by decide +kernel
theorem d_Ld_addLeave_43 : decode b_Ld_addLeave 43 = .ok (.iconst 2, 1) := by decide +kernel
theorem d_Ld_addLeave_44 : decode b_Ld_addLeave 44 = .ok (.iadd, 1) := by decide +kernel
theorem d_Ld_addLeave_45 : decode b_Ld_addLeave 45 = .ok (.iload_n 3, 1) := by decide +kernel
theorem d_Ld_addLeave_46 : decode b_Ld_addLeave 46 = .ok (.iastore, 1) := by decide +kernel
theorem d_Ld_addLeave_47 : decode b_Ld_addLeave 47 = .ok (.aload_n 0, 1) := by decide +kernel
theorem d_Ld_addLeave_48 : decode b_Ld_addLeave 48 = .ok (.getfield 40, 3) := by decide +kernel
theorem d_Ld_addLeave_51 : decode b_Ld_addLeave 51 = .ok (.iload 6, 2) := by decide +kernel
theorem d_Ld_addLeave_53 : decode b_Ld_addLeave 53 = .ok (.iconst 3, 1) := by decide +kernel
theorem d_Ld_addLeave_54 : decode b_Ld_addLeave 54 = .ok (.iadd, 1) := by decide +kernel
theorem d_Ld_addLeave_55 : decode b_Ld_addLeave 55 = .ok (.iload 4, 2) := by decide +kernel
theorem d_Ld_addLeave_57 : decode b_Ld_addLeave 57 = .ok (.iastore, 1) := by decide +kernel
theorem d_Ld_addLeave_58 : decode b_Ld_addLeave 58 = .ok (.aload_n 0, 1) := by decide +kernel
theorem d_Ld_addLeave_59 : decode b_Ld_addLeave 59 = .ok (.getfield 40, 3) := by decide +kernel
theorem d_Ld_addLeave_62 : decode b_Ld_addLeave 62 = .ok (.iload 6, 2) := by decide +kernel
theorem d_Ld_addLeave_64 : decode b_Ld_addLeave 64 = .ok (.iconst 4, 1) := by decide +kernel
theorem d_Ld_addLeave_65 : decode b_Ld_addLeave 65 = .ok (.iadd, 1) := by decide +kernel
theorem d_Ld_addLeave_66 : decode b_Ld_addLeave 66 = .ok (.iload 5, 2) := by decide +kernel
theorem d_Ld_addLeave_68 : decode b_Ld_addLeave 68 = .ok (.iastore, 1) := by decide +kernel
theorem d_Ld_addLeave_69 : decode b_Ld_addLeave 69 = .ok (.aload_n 0, 1) := by decide +kernel
theorem d_Ld_addLeave_70 : decode b_Ld_addLeave 70 = .ok (.dup, 1) := by decide +kernel
theorem d_Ld_addLeave_71 : decode b_Ld_addLeave 71 = .ok (.getfield 80, 3) := by decide +kernel
theorem d_Ld_addLeave_74 : decode b_Ld_addLeave 74 = .ok (.iconst 1, 1) := by decide +kernel
theorem d_Ld_addLeave_75 : decode b_Ld_addLeave 75 = .ok (.iadd, 1) := by decide +kernel
theorem d_Ld_addLeave_76 : decode b_Ld_addLeave 76 = .ok (.putfield 80, 3) := by decide +kernel
theorem d_Ld_addLeave_79 : decode b_Ld_addLeave 79 = .ok (.return_, 1) := by decide +kernel
theorem d_Ld_dropLeave_0 : decode b_Ld_dropLeave 0 = .ok (.iload_n 1, 1) := by decide +kernel
theorem d_Ld_dropLeave_1 : decode b_Ld_dropLeave 1 = .ok (.ifCond .lt 57, 3) := by decide +kernel
theorem d_Ld_dropLeave_4 : decode b_Ld_dropLeave 4 = .ok (.iload_n 1, 1) := by decide +kernel
theorem d_Ld_dropLeave_5 : decode b_Ld_dropLeave 5 = .ok (.aload_n 0, 1) := by decide +kernel
theorem d_Ld_dropLeave_6 : decode b_Ld_dropLeave 6 = .ok (.getfield 80, 3) := by decide +kernel
theorem d_Ld_dropLeave_9 : decode b_Ld_dropLeave 9 = .ok (.if_icmp .ge 49, 3) := by decide +kernel
theorem d_Ld_dropLeave_12 : decode b_Ld_dropLeave 12 = .ok (.iload_n 1, 1) := by decide +kernel
theorem d_Ld_dropLeave_13 : decode b_Ld_dropLeave 13 = .ok (.iconst 5, 1) := by decide +kernel
theorem d_Ld_dropLeave_14 : decode b_Ld_dropLeave 14 = .ok (.imul, 1) := by decide +kernel
theorem d_Ld_dropLeave_15 : decode b_Ld_dropLeave 15 = .ok (.istore_n 2, 1) := by decide +kernel
theorem d_Ld_dropLeave_16 : decode b_Ld_dropLeave 16 = .ok (.iload_n 2, 1) := by decide +kernel
theorem d_Ld_dropLeave_17 : decode b_Ld_dropLeave 17 = .ok (.aload_n 0, 1) := by decide +kernel
theorem d_Ld_dropLeave_18 : decode b_Ld_dropLeave 18 = .ok (.getfield 80, 3) := by decide +kernel
theorem d_Ld_dropLeave_21 : decode b_Ld_dropLeave 21 = .ok (.iconst 1, 1) := by decide +kernel
theorem d_Ld_dropLeave_22 : decode b_Ld_dropLeave 22 = .ok (.isub, 1) := by decide +kernel
theorem d_Ld_dropLeave_23 : decode b_Ld_dropLeave 23 = .ok (.iconst 5, 1) := by decide +kernel
theorem d_Ld_dropLeave_24 : decode b_Ld_dropLeave 24 = .ok (.imul, 1) := by decide +kernel
theorem d_Ld_dropLeave_25 : decode b_Ld_dropLeave 25 = .ok (.if_icmp .ge 23, 3) := by decide +kernel
theorem d_Ld_dropLeave_28 : decode b_Ld_dropLeave 28 = .ok (.aload_n 0, 1) := by decide +kernel
theorem d_Ld_dropLeave_29 : decode b_Ld_dropLeave 29 = .ok (.getfield 40, 3) := by decide +kernel
theorem d_Ld_dropLeave_32 : decode b_Ld_dropLeave 32 = .ok (.iload_n 2, 1) := by decide +kernel
theorem d_Ld_dropLeave_33 : decode b_Ld_dropLeave 33 = .ok (.aload_n 0, 1) := by decide +kernel
theorem d_Ld_dropLeave_34 : decode b_Ld_dropLeave 34 = .ok (.getfield 40, 3) := by decide +kernel
theorem d_Ld_dropLeave_37 : decode b_Ld_dropLeave 37 = .ok (.iload_n 2, 1) := by decide +kernel
theorem d_Ld_dropLeave_38 : decode b_Ld_dropLeave 38 = .ok (.iconst 5, 1) := by decide +kernel
theorem d_Ld_dropLeave_39 : decode b_Ld_dropLeave 39 = .ok (.iadd, 1) := by decide +kernel
theorem d_Ld_dropLeave_40 : decode b_Ld_dropLeave 40 = .ok (.iaload, 1) := by decide +kernel
theorem d_Ld_dropLeave_41 : decode b_Ld_dropLeave 41 = .ok (.iastore, 1) := by decide +kernel
theorem d_Ld_dropLeave_42 : decode b_Ld_dropLeave 42 = .ok (.iinc 2 1, 3) := by decide +kernel
theorem d_Ld_dropLeave_45 : decode b_Ld_dropLeave 45 = .ok (.goto (-29), 3) := by decide +kernel
theorem d_Ld_dropLeave_48 : decode b_Ld_dropLeave 48 = .ok (.aload_n 0, 1) := by decide +kernel
theorem d_Ld_dropLeave_49 : decode b_Ld_dropLeave 49 = .ok (.dup, 1) := by decide +kernel
theorem d_Ld_dropLeave_50 : decode b_Ld_dropLeave 50 = .ok (.getfield 80, 3) := by decide +kernel
theorem d_Ld_dropLeave_53 : decode b_Ld_dropLeave 53 = .ok (.iconst 1, 1) := by decide +kernel
theorem d_Ld_dropLeave_54 : decode b_Ld_dropLeave 54 = .ok (.isub, 1) := by decide +kernel
theorem d_Ld_dropLeave_55 : decode b_Ld_dropLeave 55 = .ok (.putfield 80, 3) := by decide +kernel
theorem d_Ld_dropLeave_58 : decode b_Ld_dropLeave 58 = .ok (.return_, 1) := by decide +kernel
theorem d_Ld_keepPast_0 : decode b_Ld_keepPast 0 = .ok (.aload_n 0, 1) := by decide +kernel
theorem d_Ld_keepPast_1 : decode b_Ld_keepPast 1 = .ok (.getfield 83, 3) := by decide +kernel
theorem d_Ld_keepPast_4 : decode b_Ld_keepPast 4 = .ok (.bipush 8, 2) := by decide +kernel
theorem d_Ld_keepPast_6 : decode b_Ld_keepPast 6 = .ok (.if_icmp .lt 26, 3) := by decide +kernel
theorem d_Ld_keepPast_9 : decode b_Ld_keepPast 9 = .ok (.aload_n 0, 1) := by decide +kernel
theorem d_Ld_keepPast_10 : decode b_Ld_keepPast 10 = .ok (.getfield 43, 3) := by decide +kernel
theorem d_Ld_keepPast_13 : decode b_Ld_keepPast 13 = .ok (.bipush 41, 2) := by decide +kernel
theorem d_Ld_keepPast_15 : decode b_Ld_keepPast 15 = .ok (.aload_n 0, 1) := by decide +kernel
theorem d_Ld_keepPast_16 : decode b_Ld_keepPast 16 = .ok (.getfield 43, 3) := by decide +kernel
theorem d_Ld_keepPast_19 : decode b_Ld_keepPast 19 = .ok (.iconst 0, 1) := by decide +kernel
theorem d_Ld_keepPast_20 : decode b_Ld_keepPast 20 = .ok (.sipush 287, 3) := by decide +kernel
theorem d_Ld_keepPast_23 : decode b_Ld_keepPast 23 = .ok (.invokestatic 86, 3) := by decide +kernel
theorem d_Ld_keepPast_26 : decode b_Ld_keepPast 26 = .ok (.aload_n 0, 1) := by decide +kernel
theorem d_Ld_keepPast_27 : decode b_Ld_keepPast 27 = .ok (.bipush 7, 2) := by decide +kernel
theorem d_Ld_keepPast_29 : decode b_Ld_keepPast 29 = .ok (.putfield 83, 3) := by decide +kernel
theorem d_Ld_keepPast_32 : decode b_Ld_keepPast 32 = .ok (.aload_n 0, 1) := by decide +kernel
theorem d_Ld_keepPast_33 : decode b_Ld_keepPast 33 = .ok (.getfield 83, 3) := by decide +kernel
theorem d_Ld_keepPast_36 : decode b_Ld_keepPast 36 = .ok (.bipush 41, 2) := by decide +kernel
theorem d_Ld_keepPast_38 : decode b_Ld_keepPast 38 = .ok (.imul, 1) := by decide +kernel
theorem d_Ld_keepPast_39 : decode b_Ld_keepPast 39 = .ok (.istore_n 1, 1) := by decide +kernel
theorem d_Ld_keepPast_40 : decode b_Ld_keepPast 40 = .ok (.aload_n 0, 1) := by decide +kernel
theorem d_Ld_keepPast_41 : decode b_Ld_keepPast 41 = .ok (.getfield 43, 3) := by decide +kernel
theorem d_Ld_keepPast_44 : decode b_Ld_keepPast 44 = .ok (.iload_n 1, 1) := by decide +kernel
theorem d_Ld_keepPast_45 : decode b_Ld_keepPast 45 = .ok (.aload_n 0, 1) := by decide +kernel
theorem d_Ld_keepPast_46 : decode b_Ld_keepPast 46 = .ok (.getfield 80, 3) := by decide +kernel
theorem d_Ld_keepPast_49 : decode b_Ld_keepPast 49 = .ok (.iastore, 1) := by decide +kernel
theorem d_Ld_keepPast_50 : decode b_Ld_keepPast 50 = .ok (.aload_n 0, 1) := by decide +kernel
theorem d_Ld_keepPast_51 : decode b_Ld_keepPast 51 = .ok (.getfield 40, 3) := by decide +kernel
theorem d_Ld_keepPast_54 : decode b_Ld_keepPast 54 = .ok (.iconst 0, 1) := by decide +kernel
theorem d_Ld_keepPast_55 : decode b_Ld_keepPast 55 = .ok (.aload_n 0, 1) := by decide +kernel
theorem d_Ld_keepPast_56 : decode b_Ld_keepPast 56 = .ok (.getfield 43, 3) := by decide +kernel
theorem d_Ld_keepPast_59 : decode b_Ld_keepPast 59 = .ok (.iload_n 1, 1) := by decide +kernel
theorem d_Ld_keepPast_60 : decode b_Ld_keepPast 60 = .ok (.iconst 1, 1) := by decide +kernel
theorem d_Ld_keepPast_61 : decode b_Ld_keepPast 61 = .ok (.iadd, 1) := by decide +kernel
theorem d_Ld_keepPast_62 : decode b_Ld_keepPast 62 = .ok (.bipush 40, 2) := by decide +kernel
theorem d_Ld_keepPast_64 : decode b_Ld_keepPast 64 = .ok (.invokestatic 86, 3) := by decide +kernel
theorem d_Ld_keepPast_67 : decode b_Ld_keepPast 67 = .ok (.aload_n 0, 1) := by decide +kernel
theorem d_Ld_keepPast_68 : decode b_Ld_keepPast 68 = .ok (.dup, 1) := by decide +kernel
theorem d_Ld_keepPast_69 : decode b_Ld_keepPast 69 = .ok (.getfield 83, 3) := by decide +kernel
theorem d_Ld_keepPast_72 : decode b_Ld_keepPast 72 = .ok (.iconst 1, 1) := by decide +kernel
theorem d_Ld_keepPast_73 : decode b_Ld_keepPast 73 = .ok (.iadd, 1) := by decide +kernel
theorem d_Ld_keepPast_74 : decode b_Ld_keepPast 74 = .ok (.putfield 83, 3) := by decide +kernel
theorem d_Ld_keepPast_77 : decode b_Ld_keepPast 77 = .ok (.return_, 1) := by decide +kernel
theorem d_Ld_goBack_0 : decode b_Ld_goBack 0 = .ok (.aload_n 0, 1) := by decide +kernel
theorem d_Ld_goBack_1 : decode b_Ld_goBack 1 = .ok (.getfield 83, 3) := by decide +kernel
theorem d_Ld_goBack_4 : decode b_Ld_goBack 4 = .ok (.ifCond .le 48, 3) := by decide +kernel
theorem d_Ld_goBack_7 : decode b_Ld_goBack 7 = .ok (.aload_n 0, 1) := by decide +kernel
theorem d_Ld_goBack_8 : decode b_Ld_goBack 8 = .ok (.dup, 1) := by decide +kernel
theorem d_Ld_goBack_9 : decode b_Ld_goBack 9 = .ok (.getfield 83, 3) := by decide +kernel
theorem d_Ld_goBack_12 : decode b_Ld_goBack 12 = .ok (.iconst 1, 1) := by decide +kernel
theorem d_Ld_goBack_13 : decode b_Ld_goBack 13 = .ok (.isub, 1) := by decide +kernel
theorem d_Ld_goBack_14 : decode b_Ld_goBack 14 = .ok (.putfield 83, 3) := by decide +kernel
theorem d_Ld_goBack_17 : decode b_Ld_goBack 17 = .ok (.aload_n 0, 1) := by decide +kernel
theorem d_Ld_goBack_18 : decode b_Ld_goBack 18 = .ok (.getfield 83, 3) := by decide +kernel
theorem d_Ld_goBack_21 : decode b_Ld_goBack 21 = .ok (.bipush 41, 2) := by decide +kernel
theorem d_Ld_goBack_23 : decode b_Ld_goBack 23 = .ok (.imul, 1) := by decide +kernel
theorem d_Ld_goBack_24 : decode b_Ld_goBack 24 = .ok (.istore_n 1, 1) := by decide +kernel
theorem d_Ld_goBack_25 : decode b_Ld_goBack 25 = .ok (.aload_n 0, 1) := by decide +kernel
theorem d_Ld_goBack_26 : decode b_Ld_goBack 26 = .ok (.aload_n 0, 1) := by decide +kernel
theorem d_Ld_goBack_27 : decode b_Ld_goBack 27 = .ok (.getfield 43, 3) := by decide +kernel
theorem d_Ld_goBack_30 : decode b_Ld_goBack 30 = .ok (.iload_n 1, 1) := by decide +kernel
theorem d_Ld_goBack_31 : decode b_Ld_goBack 31 = .ok (.iaload, 1) := by decide +kernel
theorem d_Ld_goBack_32 : decode b_Ld_goBack 32 = .ok (.putfield 80, 3) := by decide +kernel
theorem d_Ld_goBack_35 : decode b_Ld_goBack 35 = .ok (.aload_n 0, 1) := by decide +kernel
theorem d_Ld_goBack_36 : decode b_Ld_goBack 36 = .ok (.getfield 43, 3) := by decide +kernel
theorem d_Ld_goBack_39 : decode b_Ld_goBack 39 = .ok (.iload_n 1, 1) := by decide +kernel
theorem d_Ld_goBack_40 : decode b_Ld_goBack 40 = .ok (.iconst 1, 1) := by decide +kernel
theorem d_Ld_goBack_41 : decode b_Ld_goBack 41 = .ok (.iadd, 1) := by decide +kernel
theorem d_Ld_goBack_42 : decode b_Ld_goBack 42 = .ok (.aload_n 0, 1) := by decide +kernel
theorem d_Ld_goBack_43 : decode b_Ld_goBack 43 = .ok (.getfield 40, 3) := by decide +kernel
theorem d_Ld_goBack_46 : decode b_Ld_goBack 46 = .ok (.iconst 0, 1) := by decide +kernel
theorem d_Ld_goBack_47 : decode b_Ld_goBack 47 = .ok (.bipush 40, 2) := by decide +kernel
theorem d_Ld_goBack_49 : decode b_Ld_goBack 49 = .ok (.invokestatic 86, 3) := by decide +kernel
theorem d_Ld_goBack_52 : decode b_Ld_goBack 52 = .ok (.return_, 1) := by decide +kernel
