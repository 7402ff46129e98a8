theorem d_Sd_init_0 : decode b_Sd_init 0 = .ok (.aload_n 0, 1) := by decide +kernel
theorem d_Sd_init_1 : decode b_Sd_init 1 = .ok (.invokespecial 3, 3) := by decide +kernel
theorem d_Sd_init_4 : decode b_Sd_init 4 = .ok (.aload_n 0, 1) := by decide +kernel
theorem d_Sd_init_5 : decode b_Sd_init 5 = .ok (.bipush 21, 2) := by decide +kernel
theorem d_Sd_init_7 : decode b_Sd_init 7 = .ok (.newarray .long, 2) := by decide +kernel
theorem d_Sd_init_9 : decode b_Sd_init 9 = .ok (.putfield 9, 3) := by decide +kernel
theorem d_Sd_init_12 : decode b_Sd_init 12 = .ok (.aload_n 0, 1) := by decide +kernel
theorem d_Sd_init_13 : decode b_Sd_init 13 = .ok (.bipush 21, 2) := by decide +kernel
theorem d_Sd_init_15 : decode b_Sd_init 15 = .ok (.newarray .long, 2) := by decide +kernel
theorem d_Sd_init_17 : decode b_Sd_init 17 = .ok (.putfield 15, 3) := by decide +kernel
theorem d_Sd_init_20 : decode b_Sd_init 20 = .ok (.aload_n 0, 1) := by decide +kernel
theorem d_Sd_init_21 : decode b_Sd_init 21 = .ok (.bipush 21, 2) := by decide +kernel
theorem d_Sd_init_23 : decode b_Sd_init 23 = .ok (.newarray .long, 2) := by decide +kernel
theorem d_Sd_init_25 : decode b_Sd_init 25 = .ok (.putfield 18, 3) := by decide +kernel
theorem d_Sd_init_28 : decode b_Sd_init 28 = .ok (.aload_n 0, 1) := by decide +kernel
theorem d_Sd_init_29 : decode b_Sd_init 29 = .ok (.bipush 21, 2) := by decide +kernel
theorem d_Sd_init_31 : decode b_Sd_init 31 = .ok (.newarray .long, 2) := by decide +kernel
theorem d_Sd_init_33 : decode b_Sd_init 33 = .ok (.putfield 21, 3) := by decide +kernel
theorem d_Sd_init_36 : decode b_Sd_init 36 = .ok (.aload_n 0, 1) := by decide +kernel
theorem d_Sd_init_37 : decode b_Sd_init 37 = .ok (.aload_n 1, 1) := by decide +kernel
theorem d_Sd_init_38 : decode b_Sd_init 38 = .ok (.putfield 24, 3) := by decide +kernel
theorem d_Sd_init_41 : decode b_Sd_init 41 = .ok (.return_, 1) := by decide +kernel
theorem d_Sd_make_0 : decode b_Sd_make 0 = .ok (.aload_n 0, 1) := by decide +kernel
theorem d_Sd_make_1 : decode b_Sd_make 1 = .ok (.aload_n 1, 1) := by decide +kernel
theorem d_Sd_make_2 : decode b_Sd_make 2 = .ok (.putfield 24, 3) := by decide +kernel
theorem d_Sd_make_5 : decode b_Sd_make 5 = .ok (.aload_n 0, 1) := by decide +kernel
theorem d_Sd_make_6 : decode b_Sd_make 6 = .ok (.iload_n 2, 1) := by decide +kernel
theorem d_Sd_make_7 : decode b_Sd_make 7 = .ok (.putfield 28, 3) := by decide +kernel
theorem d_Sd_make_10 : decode b_Sd_make 10 = .ok (.aload_n 0, 1) := by decide +kernel
theorem d_Sd_make_11 : decode b_Sd_make 11 = .ok (.iload_n 3, 1) := by decide +kernel
theorem d_Sd_make_12 : decode b_Sd_make 12 = .ok (.putfield 32, 3) := by decide +kernel
theorem d_Sd_make_15 : decode b_Sd_make 15 = .ok (.aload_n 0, 1) := by decide +kernel
theorem d_Sd_make_16 : decode b_Sd_make 16 = .ok (.iload 4, 2) := by decide +kernel
theorem d_Sd_make_18 : decode b_Sd_make 18 = .ok (.putfield 35, 3) := by decide +kernel
theorem d_Sd_make_21 : decode b_Sd_make 21 = .ok (.aload_n 0, 1) := by decide +kernel
theorem d_Sd_make_22 : decode b_Sd_make 22 = .ok (.iload 5, 2) := by decide +kernel
theorem d_Sd_make_24 : decode b_Sd_make 24 = .ok (.putfield 38, 3) := by decide +kernel
theorem d_Sd_make_27 : decode b_Sd_make 27 = .ok (.aload_n 0, 1) := by decide +kernel
theorem d_Sd_make_28 : decode b_Sd_make 28 = .ok (.iload 6, 2) := by decide +kernel
theorem d_Sd_make_30 : decode b_Sd_make 30 = .ok (.putfield 41, 3) := by decide +kernel
theorem d_Sd_make_33 : decode b_Sd_make 33 = .ok (.aload_n 0, 1) := by decide +kernel
theorem d_Sd_make_34 : decode b_Sd_make 34 = .ok (.aload_n 0, 1) := by decide +kernel
theorem d_Sd_make_35 : decode b_Sd_make 35 = .ok (.invokevirtual 44, 3) := by decide +kernel
theorem d_Sd_make_38 : decode b_Sd_make 38 = .ok (.invokestatic 48, 3) := by decide +kernel
theorem d_Sd_make_41 : decode b_Sd_make 41 = .ok (.invokevirtual 52, 3) := by decide +kernel
theorem d_Sd_make_44 : decode b_Sd_make 44 = .ok (.aload_n 0, 1) := by decide +kernel
theorem d_Sd_make_45 : decode b_Sd_make 45 = .ok (.getfield 21, 3) := by decide +kernel
theorem d_Sd_make_48 : decode b_Sd_make 48 = .ok (.lconst 0, 1) := by decide +kernel
theorem d_Sd_make_49 : decode b_Sd_make 49 = .ok (.invokestatic 56, 3) := by decide +kernel
theorem d_Sd_make_52 : decode b_Sd_make 52 = .ok (.iconst 0, 1) := by decide +kernel
theorem d_Sd_make_53 : decode b_Sd_make 53 = .ok (.istore 7, 2) := by decide +kernel
theorem d_Sd_make_55 : decode b_Sd_make 55 = .ok (.iload 7, 2) := by decide +kernel
theorem d_Sd_make_57 : decode b_Sd_make 57 = .ok (.bipush 6, 2) := by decide +kernel
theorem d_Sd_make_59 : decode b_Sd_make 59 = .ok (.if_icmp .ge 29, 3) := by decide +kernel
theorem d_Sd_make_62 : decode b_Sd_make 62 = .ok (.aload_n 0, 1) := by decide +kernel
theorem d_Sd_make_63 : decode b_Sd_make 63 = .ok (.aload_n 0, 1) := by decide +kernel
theorem d_Sd_make_64 : decode b_Sd_make 64 = .ok (.invokevirtual 62, 3) := by decide +kernel
theorem d_Sd_make_67 : decode b_Sd_make 67 = .ok (.aload_n 0, 1) := by decide +kernel
theorem d_Sd_make_68 : decode b_Sd_make 68 = .ok (.getfield 24, 3) := by decide +kernel
theorem d_Sd_make_71 : decode b_Sd_make 71 = .ok (.iload 7, 2) := by decide +kernel
theorem d_Sd_make_73 : decode b_Sd_make 73 = .ok (.invokevirtual 66, 3) := by decide +kernel
theorem d_Sd_make_76 : decode b_Sd_make 76 = .ok (.land, 1) := by decide +kernel
theorem d_Sd_make_77 : decode b_Sd_make 77 = .ok (.iload 7, 2) := by decide +kernel
theorem d_Sd_make_79 : decode b_Sd_make 79 = .ok (.invokevirtual 72, 3) := by decide +kernel
theorem d_Sd_make_82 : decode b_Sd_make 82 = .ok (.iinc 7 1, 3) := by decide +kernel
theorem d_Sd_make_85 : decode b_Sd_make 85 = .ok (.goto (-30), 3) := by decide +kernel
theorem d_Sd_make_88 : decode b_Sd_make 88 = .ok (.aload_n 0, 1) := by decide +kernel
theorem d_Sd_make_89 : decode b_Sd_make 89 = .ok (.aload_n 0, 1) := by decide +kernel
theorem d_Sd_make_90 : decode b_Sd_make 90 = .ok (.getfield 76, 3) := by decide +kernel
theorem d_Sd_make_93 : decode b_Sd_make 93 = .ok (.aload_n 0, 1) := by decide +kernel
theorem d_Sd_make_94 : decode b_Sd_make 94 = .ok (.getfield 21, 3) := by decide +kernel
theorem d_Sd_make_97 : decode b_Sd_make 97 = .ok (.invokestatic 80, 3) := by decide +kernel
theorem d_Sd_make_100 : decode b_Sd_make 100 = .ok (.lor, 1) := by decide +kernel
theorem d_Sd_make_101 : decode b_Sd_make 101 = .ok (.putfield 84, 3) := by decide +kernel
theorem d_Sd_make_104 : decode b_Sd_make 104 = .ok (.return_, 1) := by decide +kernel
theorem d_Sd_straightIfFree_0 : decode b_Sd_straightIfFree 0 = .ok (.aload_n 0, 1) := by decide +kernel
theorem d_Sd_straightIfFree_1 : decode b_Sd_straightIfFree 1 = .ok (.bipush 20, 2) := by decide +kernel
theorem d_Sd_straightIfFree_3 : decode b_Sd_straightIfFree 3 = .ok (.invokevirtual 52, 3) := by decide +kernel
theorem d_Sd_straightIfFree_6 : decode b_Sd_straightIfFree 6 = .ok (.aload_n 0, 1) := by decide +kernel
theorem d_Sd_straightIfFree_7 : decode b_Sd_straightIfFree 7 = .ok (.getfield 76, 3) := by decide +kernel
theorem d_Sd_straightIfFree_10 : decode b_Sd_straightIfFree 10 = .ok (.lreturn, 1) := by decide +kernel
theorem d_Sd_carriers_0 : decode b_Sd_carriers 0 = .ok (.lconst 0, 1) := by decide +kernel
theorem d_Sd_carriers_1 : decode b_Sd_carriers 1 = .ok (.lstore_n 1, 1) := by decide +kernel
theorem d_Sd_carriers_2 : decode b_Sd_carriers 2 = .ok (.iconst 0, 1) := by decide +kernel
theorem d_Sd_carriers_3 : decode b_Sd_carriers 3 = .ok (.istore_n 3, 1) := by decide +kernel
theorem d_Sd_carriers_4 : decode b_Sd_carriers 4 = .ok (.iload_n 3, 1) := by decide +kernel
theorem d_Sd_carriers_5 : decode b_Sd_carriers 5 = .ok (.bipush 36, 2) := by decide +kernel
theorem d_Sd_carriers_7 : decode b_Sd_carriers 7 = .ok (.if_icmp .ge 77, 3) := by decide +kernel
theorem d_Sd_carriers_10 : decode b_Sd_carriers 10 = .ok (.lconst 1, 1) := by decide +kernel
theorem d_Sd_carriers_11 : decode b_Sd_carriers 11 = .ok (.iload_n 3, 1) := by decide +kernel
theorem d_Sd_carriers_12 : decode b_Sd_carriers 12 = .ok (.lshl, 1) := by decide +kernel
theorem d_Sd_carriers_13 : decode b_Sd_carriers 13 = .ok (.aload_n 0, 1) := by decide +kernel
theorem d_Sd_carriers_14 : decode b_Sd_carriers 14 = .ok (.invokevirtual 62, 3) := by decide +kernel
theorem d_Sd_carriers_17 : decode b_Sd_carriers 17 = .ok (.land, 1) := by decide +kernel
theorem d_Sd_carriers_18 : decode b_Sd_carriers 18 = .ok (.lstore 4, 2) := by decide +kernel
theorem d_Sd_carriers_20 : decode b_Sd_carriers 20 = .ok (.lload 4, 2) := by decide +kernel
theorem d_Sd_carriers_22 : decode b_Sd_carriers 22 = .ok (.lconst 0, 1) := by decide +kernel
theorem d_Sd_carriers_23 : decode b_Sd_carriers 23 = .ok (.lcmp, 1) := by decide +kernel
theorem d_Sd_carriers_24 : decode b_Sd_carriers 24 = .ok (.ifCond .eq 54, 3) := by decide +kernel
theorem d_Sd_carriers_27 : decode b_Sd_carriers 27 = .ok (.aload_n 0, 1) := by decide +kernel
theorem d_Sd_carriers_28 : decode b_Sd_carriers 28 = .ok (.getfield 21, 3) := by decide +kernel
theorem d_Sd_carriers_31 : decode b_Sd_carriers 31 = .ok (.lconst 0, 1) := by decide +kernel
theorem d_Sd_carriers_32 : decode b_Sd_carriers 32 = .ok (.invokestatic 56, 3) := by decide +kernel
theorem d_Sd_carriers_35 : decode b_Sd_carriers 35 = .ok (.aload_n 0, 1) := by decide +kernel
theorem d_Sd_carriers_36 : decode b_Sd_carriers 36 = .ok (.lload 4, 2) := by decide +kernel
theorem d_Sd_carriers_38 : decode b_Sd_carriers 38 = .ok (.aload_n 0, 1) := by decide +kernel
theorem d_Sd_carriers_39 : decode b_Sd_carriers 39 = .ok (.getfield 24, 3) := by decide +kernel
theorem d_Sd_carriers_42 : decode b_Sd_carriers 42 = .ok (.getfield 87, 3) := by decide +kernel
theorem d_Sd_carriers_45 : decode b_Sd_carriers 45 = .ok (.iload_n 3, 1) := by decide +kernel
theorem d_Sd_carriers_46 : decode b_Sd_carriers 46 = .ok (.invokestatic 90, 3) := by decide +kernel
theorem d_Sd_carriers_49 : decode b_Sd_carriers 49 = .ok (.invokevirtual 72, 3) := by decide +kernel
theorem d_Sd_carriers_52 : decode b_Sd_carriers 52 = .ok (.aload_n 0, 1) := by decide +kernel
theorem d_Sd_carriers_53 : decode b_Sd_carriers 53 = .ok (.getfield 21, 3) := by decide +kernel
theorem d_Sd_carriers_56 : decode b_Sd_carriers 56 = .ok (.invokestatic 80, 3) := by decide +kernel
theorem d_Sd_carriers_59 : decode b_Sd_carriers 59 = .ok (.aload_n 0, 1) := by decide +kernel
theorem d_Sd_carriers_60 : decode b_Sd_carriers 60 = .ok (.getfield 76, 3) := by decide +kernel
theorem d_Sd_carriers_63 : decode b_Sd_carriers 63 = .ok (.ldc2_w 94, 3) := by decide +kernel
theorem d_Sd_carriers_66 : decode b_Sd_carriers 66 = .ok (.lxor, 1) := by decide +kernel
theorem d_Sd_carriers_67 : decode b_Sd_carriers 67 = .ok (.land, 1) := by decide +kernel
theorem d_Sd_carriers_68 : decode b_Sd_carriers 68 = .ok (.lconst 0, 1) := by decide +kernel
theorem d_Sd_carriers_69 : decode b_Sd_carriers 69 = .ok (.lcmp, 1) := by decide +kernel
theorem d_Sd_carriers_70 : decode b_Sd_carriers 70 = .ok (.ifCond .eq 8, 3) := by decide +kernel
theorem d_Sd_carriers_73 : decode b_Sd_carriers 73 = .ok (.lload_n 1, 1) := by decide +kernel
theorem d_Sd_carriers_74 : decode b_Sd_carriers 74 = .ok (.lload 4, 2) := by decide +kernel
theorem d_Sd_carriers_76 : decode b_Sd_carriers 76 = .ok (.lor, 1) := by decide +kernel
theorem d_Sd_carriers_77 : decode b_Sd_carriers 77 = .ok (.lstore_n 1, 1) := by decide +kernel
theorem d_Sd_carriers_78 : decode b_Sd_carriers 78 = .ok (.iinc 3 1, 3) := by decide +kernel
theorem d_Sd_carriers_81 : decode b_Sd_carriers 81 = .ok (.goto (-77), 3) := by decide +kernel
theorem d_Sd_carriers_84 : decode b_Sd_carriers 84 = .ok (.lload_n 1, 1) := by decide +kernel
theorem d_Sd_carriers_85 : decode b_Sd_carriers 85 = .ok (.lreturn, 1) := by decide +kernel
theorem d_Sd_loudIn_0 : decode b_Sd_loudIn 0 = .ok (.bipush 20, 2) := by decide +kernel
theorem d_Sd_loudIn_2 : decode b_Sd_loudIn 2 = .ok (.istore_n 2, 1) := by decide +kernel
theorem d_Sd_loudIn_3 : decode b_Sd_loudIn 3 = .ok (.iload_n 2, 1) := by decide +kernel
theorem d_Sd_loudIn_4 : decode b_Sd_loudIn 4 = .ok (.ifCond .le 31, 3) := by decide +kernel
theorem d_Sd_loudIn_7 : decode b_Sd_loudIn 7 = .ok (.aload_n 0, 1) := by decide +kernel
theorem d_Sd_loudIn_8 : decode b_Sd_loudIn 8 = .ok (.getfield 15, 3) := by decide +kernel
theorem d_Sd_loudIn_11 : decode b_Sd_loudIn 11 = .ok (.iload_n 2, 1) := by decide +kernel
theorem d_Sd_loudIn_12 : decode b_Sd_loudIn 12 = .ok (.laload, 1) := by decide +kernel
theorem d_Sd_loudIn_13 : decode b_Sd_loudIn 13 = .ok (.aload_n 0, 1) := by decide +kernel
theorem d_Sd_loudIn_14 : decode b_Sd_loudIn 14 = .ok (.getfield 21, 3) := by decide +kernel
theorem d_Sd_loudIn_17 : decode b_Sd_loudIn 17 = .ok (.iload_n 2, 1) := by decide +kernel
theorem d_Sd_loudIn_18 : decode b_Sd_loudIn 18 = .ok (.laload, 1) := by decide +kernel
theorem d_Sd_loudIn_19 : decode b_Sd_loudIn 19 = .ok (.lor, 1) := by decide +kernel
theorem d_Sd_loudIn_20 : decode b_Sd_loudIn 20 = .ok (.iload_n 1, 1) := by decide +kernel
theorem d_Sd_loudIn_21 : decode b_Sd_loudIn 21 = .ok (.invokestatic 96, 3) := by decide +kernel
theorem d_Sd_loudIn_24 : decode b_Sd_loudIn 24 = .ok (.ifCond .eq 5, 3) := by decide +kernel
theorem d_Sd_loudIn_27 : decode b_Sd_loudIn 27 = .ok (.iload_n 2, 1) := by decide +kernel
theorem d_Sd_loudIn_28 : decode b_Sd_loudIn 28 = .ok (.ireturn, 1) := by decide +kernel
theorem d_Sd_loudIn_29 : decode b_Sd_loudIn 29 = .ok (.iinc 2 (-1), 3) := by decide +kernel
theorem d_Sd_loudIn_32 : decode b_Sd_loudIn 32 = .ok (.goto (-29), 3) := by decide +kernel
theorem d_Sd_loudIn_35 : decode b_Sd_loudIn 35 = .ok (.iconst 0, 1) := by decide +kernel
theorem d_Sd_loudIn_36 : decode b_Sd_loudIn 36 = .ok (.ireturn, 1) := by decide +kernel
theorem d_Sd_kind_0 : decode b_Sd_kind 0 = .ok (.aload_n 0, 1) := by decide +kernel
theorem d_Sd_kind_1 : decode b_Sd_kind 1 = .ok (.getfield 28, 3) := by decide +kernel
theorem d_Sd_kind_4 : decode b_Sd_kind 4 = .ok (.ifCond .lt 32, 3) := by decide +kernel
theorem d_Sd_kind_7 : decode b_Sd_kind 7 = .ok (.aload_n 0, 1) := by decide +kernel
theorem d_Sd_kind_8 : decode b_Sd_kind 8 = .ok (.getfield 28, 3) := by decide +kernel
theorem d_Sd_kind_11 : decode b_Sd_kind 11 = .ok (.aload_n 0, 1) := by decide +kernel
theorem d_Sd_kind_12 : decode b_Sd_kind 12 = .ok (.getfield 24, 3) := by decide +kernel
theorem d_Sd_kind_15 : decode b_Sd_kind 15 = .ok (.getfield 100, 3) := by decide +kernel
theorem d_Sd_kind_18 : decode b_Sd_kind 18 = .ok (.if_icmp .ge 18, 3) := by decide +kernel
theorem d_Sd_kind_21 : decode b_Sd_kind 21 = .ok (.aload_n 0, 1) := by decide +kernel
theorem d_Sd_kind_22 : decode b_Sd_kind 22 = .ok (.getfield 24, 3) := by decide +kernel
theorem d_Sd_kind_25 : decode b_Sd_kind 25 = .ok (.getfield 103, 3) := by decide +kernel
theorem d_Sd_kind_28 : decode b_Sd_kind 28 = .ok (.aload_n 0, 1) := by decide +kernel
theorem d_Sd_kind_29 : decode b_Sd_kind 29 = .ok (.getfield 28, 3) := by decide +kernel
theorem d_Sd_kind_32 : decode b_Sd_kind 32 = .ok (.iaload, 1) := by decide +kernel
theorem d_Sd_kind_33 : decode b_Sd_kind 33 = .ok (.goto 4, 3) := by decide +kernel
theorem d_Sd_kind_36 : decode b_Sd_kind 36 = .ok (.iconst 0, 1) := by decide +kernel
theorem d_Sd_kind_37 : decode b_Sd_kind 37 = .ok (.ireturn, 1) := by decide +kernel
theorem d_Sd_place_0 : decode b_Sd_place 0 = .ok (.aload_n 0, 1) := by decide +kernel
theorem d_Sd_place_1 : decode b_Sd_place 1 = .ok (.getfield 28, 3) := by decide +kernel
theorem d_Sd_place_4 : decode b_Sd_place 4 = .ok (.ifCond .lt 34, 3) := by decide +kernel
theorem d_Sd_place_7 : decode b_Sd_place 7 = .ok (.aload_n 0, 1) := by decide +kernel
theorem d_Sd_place_8 : decode b_Sd_place 8 = .ok (.getfield 28, 3) := by decide +kernel
theorem d_Sd_place_11 : decode b_Sd_place 11 = .ok (.aload_n 0, 1) := by decide +kernel
theorem d_Sd_place_12 : decode b_Sd_place 12 = .ok (.getfield 24, 3) := by decide +kernel
theorem d_Sd_place_15 : decode b_Sd_place 15 = .ok (.getfield 100, 3) := by decide +kernel
theorem d_Sd_place_18 : decode b_Sd_place 18 = .ok (.if_icmp .ge 20, 3) := by decide +kernel
theorem d_Sd_place_21 : decode b_Sd_place 21 = .ok (.lconst 1, 1) := by decide +kernel
theorem d_Sd_place_22 : decode b_Sd_place 22 = .ok (.aload_n 0, 1) := by decide +kernel
theorem d_Sd_place_23 : decode b_Sd_place 23 = .ok (.getfield 24, 3) := by decide +kernel
theorem d_Sd_place_26 : decode b_Sd_place 26 = .ok (.getfield 107, 3) := by decide +kernel
theorem d_Sd_place_29 : decode b_Sd_place 29 = .ok (.aload_n 0, 1) := by decide +kernel
theorem d_Sd_place_30 : decode b_Sd_place 30 = .ok (.getfield 28, 3) := by decide +kernel
theorem d_Sd_place_33 : decode b_Sd_place 33 = .ok (.iaload, 1) := by decide +kernel
theorem d_Sd_place_34 : decode b_Sd_place 34 = .ok (.lshl, 1) := by decide +kernel
theorem d_Sd_place_35 : decode b_Sd_place 35 = .ok (.goto 4, 3) := by decide +kernel
theorem d_Sd_place_38 : decode b_Sd_place 38 = .ok (.lconst 0, 1) := by decide +kernel
theorem d_Sd_place_39 : decode b_Sd_place 39 = .ok (.lreturn, 1) := by decide +kernel
theorem d_Sd_cliffs_0 : decode b_Sd_cliffs 0 = .ok (.aload_n 0, 1) := by decide +kernel
theorem d_Sd_cliffs_1 : decode b_Sd_cliffs 1 = .ok (.getfield 76, 3) := by decide +kernel
theorem d_Sd_cliffs_4 : decode b_Sd_cliffs 4 = .ok (.aload_n 0, 1) := by decide +kernel
theorem d_Sd_cliffs_5 : decode b_Sd_cliffs 5 = .ok (.getfield 24, 3) := by decide +kernel
theorem d_Sd_cliffs_8 : decode b_Sd_cliffs 8 = .ok (.getfield 110, 3) := by decide +kernel
theorem d_Sd_cliffs_11 : decode b_Sd_cliffs 11 = .ok (.iconst 2, 1) := by decide +kernel
theorem d_Sd_cliffs_12 : decode b_Sd_cliffs 12 = .ok (.laload, 1) := by decide +kernel
theorem d_Sd_cliffs_13 : decode b_Sd_cliffs 13 = .ok (.land, 1) := by decide +kernel
theorem d_Sd_cliffs_14 : decode b_Sd_cliffs 14 = .ok (.aload_n 0, 1) := by decide +kernel
theorem d_Sd_cliffs_15 : decode b_Sd_cliffs 15 = .ok (.invokevirtual 113, 3) := by decide +kernel
theorem d_Sd_cliffs_18 : decode b_Sd_cliffs 18 = .ok (.ldc2_w 94, 3) := by decide +kernel
theorem d_Sd_cliffs_21 : decode b_Sd_cliffs 21 = .ok (.lxor, 1) := by decide +kernel
theorem d_Sd_cliffs_22 : decode b_Sd_cliffs 22 = .ok (.land, 1) := by decide +kernel
theorem d_Sd_cliffs_23 : decode b_Sd_cliffs 23 = .ok (.lreturn, 1) := by decide +kernel
theorem d_Sd_goStraight_0 : decode b_Sd_goStraight 0 = .ok (.aload_n 0, 1) := by decide +kernel
theorem d_Sd_goStraight_1 : decode b_Sd_goStraight 1 = .ok (.invokevirtual 44, 3) := by decide +kernel
theorem d_Sd_goStraight_4 : decode b_Sd_goStraight 4 = .ok (.istore_n 2, 1) := by decide +kernel
theorem d_Sd_goStraight_5 : decode b_Sd_goStraight 5 = .ok (.aload_n 0, 1) := by decide +kernel
theorem d_Sd_goStraight_6 : decode b_Sd_goStraight 6 = .ok (.aload_n 0, 1) := by decide +kernel
theorem d_Sd_goStraight_7 : decode b_Sd_goStraight 7 = .ok (.getfield 24, 3) := by decide +kernel
theorem d_Sd_goStraight_10 : decode b_Sd_goStraight 10 = .ok (.aload_n 0, 1) := by decide +kernel
theorem d_Sd_goStraight_11 : decode b_Sd_goStraight 11 = .ok (.getfield 28, 3) := by decide +kernel
theorem d_Sd_goStraight_14 : decode b_Sd_goStraight 14 = .ok (.invokevirtual 116, 3) := by decide +kernel
theorem d_Sd_goStraight_17 : decode b_Sd_goStraight 17 = .ok (.aload_n 0, 1) := by decide +kernel
theorem d_Sd_goStraight_18 : decode b_Sd_goStraight 18 = .ok (.getfield 28, 3) := by decide +kernel
theorem d_Sd_goStraight_21 : decode b_Sd_goStraight 21 = .ok (.invokevirtual 119, 3) := by decide +kernel
theorem d_Sd_goStraight_24 : decode b_Sd_goStraight 24 = .ok (.iconst 1, 1) := by decide +kernel
theorem d_Sd_goStraight_25 : decode b_Sd_goStraight 25 = .ok (.istore_n 3, 1) := by decide +kernel
theorem d_Sd_goStraight_26 : decode b_Sd_goStraight 26 = .ok (.iload_n 3, 1) := by decide +kernel
theorem d_Sd_goStraight_27 : decode b_Sd_goStraight 27 = .ok (.bipush 20, 2) := by decide +kernel
theorem d_Sd_goStraight_29 : decode b_Sd_goStraight 29 = .ok (.if_icmp .gt 54, 3) := by decide +kernel
theorem d_Sd_goStraight_32 : decode b_Sd_goStraight 32 = .ok (.iload_n 3, 1) := by decide +kernel
theorem d_Sd_goStraight_33 : decode b_Sd_goStraight 33 = .ok (.iload_n 1, 1) := by decide +kernel
theorem d_Sd_goStraight_34 : decode b_Sd_goStraight 34 = .ok (.if_icmp .gt 16, 3) := by decide +kernel
theorem d_Sd_goStraight_37 : decode b_Sd_goStraight 37 = .ok (.aload_n 0, 1) := by decide +kernel
theorem d_Sd_goStraight_38 : decode b_Sd_goStraight 38 = .ok (.getfield 9, 3) := by decide +kernel
theorem d_Sd_goStraight_41 : decode b_Sd_goStraight 41 = .ok (.iload_n 3, 1) := by decide +kernel
theorem d_Sd_goStraight_42 : decode b_Sd_goStraight 42 = .ok (.aload_n 0, 1) := by decide +kernel
theorem d_Sd_goStraight_43 : decode b_Sd_goStraight 43 = .ok (.getfield 24, 3) := by decide +kernel
theorem d_Sd_goStraight_46 : decode b_Sd_goStraight 46 = .ok (.getfield 123, 3) := by decide +kernel
theorem d_Sd_goStraight_49 : decode b_Sd_goStraight 49 = .ok (.lastore, 1) := by decide +kernel
theorem d_Sd_goStraight_50 : decode b_Sd_goStraight 50 = .ok (.iload_n 2, 1) := by decide +kernel
theorem d_Sd_goStraight_51 : decode b_Sd_goStraight 51 = .ok (.iconst 3, 1) := by decide +kernel
theorem d_Sd_goStraight_52 : decode b_Sd_goStraight 52 = .ok (.if_icmp .ne 25, 3) := by decide +kernel
theorem d_Sd_goStraight_55 : decode b_Sd_goStraight 55 = .ok (.aload_n 0, 1) := by decide +kernel
theorem d_Sd_goStraight_56 : decode b_Sd_goStraight 56 = .ok (.getfield 9, 3) := by decide +kernel
theorem d_Sd_goStraight_59 : decode b_Sd_goStraight 59 = .ok (.iload_n 3, 1) := by decide +kernel
theorem d_Sd_goStraight_60 : decode b_Sd_goStraight 60 = .ok (.dup2, 1) := by decide +kernel
theorem d_Sd_goStraight_61 : decode b_Sd_goStraight 61 = .ok (.laload, 1) := by decide +kernel
theorem d_Sd_goStraight_62 : decode b_Sd_goStraight 62 = .ok (.aload_n 0, 1) := by decide +kernel
theorem d_Sd_goStraight_63 : decode b_Sd_goStraight 63 = .ok (.getfield 24, 3) := by decide +kernel
theorem d_Sd_goStraight_66 : decode b_Sd_goStraight 66 = .ok (.getfield 110, 3) := by decide +kernel
theorem d_Sd_goStraight_69 : decode b_Sd_goStraight 69 = .ok (.iconst 1, 1) := by decide +kernel
theorem d_Sd_goStraight_70 : decode b_Sd_goStraight 70 = .ok (.laload, 1) := by decide +kernel
theorem d_Sd_goStraight_71 : decode b_Sd_goStraight 71 = .ok (.ldc2_w 94, 3) := by decide +kernel
theorem d_Sd_goStraight_74 : decode b_Sd_goStraight 74 = .ok (.lxor, 1) := by decide +kernel
theorem d_Sd_goStraight_75 : decode b_Sd_goStraight 75 = .ok (.land, 1) := by decide +kernel
theorem d_Sd_goStraight_76 : decode b_Sd_goStraight 76 = .ok (.lastore, 1) := by decide +kernel
theorem d_Sd_goStraight_77 : decode b_Sd_goStraight 77 = .ok (.iinc 3 1, 3) := by decide +kernel
theorem d_Sd_goStraight_80 : decode b_Sd_goStraight 80 = .ok (.goto (-54), 3) := by decide +kernel
theorem d_Sd_goStraight_83 : decode b_Sd_goStraight 83 = .ok (.aload_n 0, 1) := by decide +kernel
theorem d_Sd_goStraight_84 : decode b_Sd_goStraight 84 = .ok (.getfield 15, 3) := by decide +kernel
theorem d_Sd_goStraight_87 : decode b_Sd_goStraight 87 = .ok (.lconst 0, 1) := by decide +kernel
theorem d_Sd_goStraight_88 : decode b_Sd_goStraight 88 = .ok (.invokestatic 56, 3) := by decide +kernel
theorem d_Sd_goStraight_91 : decode b_Sd_goStraight 91 = .ok (.aload_n 0, 1) := by decide +kernel
theorem d_Sd_goStraight_92 : decode b_Sd_goStraight 92 = .ok (.getfield 32, 3) := by decide +kernel
theorem d_Sd_goStraight_95 : decode b_Sd_goStraight 95 = .ok (.iconst 1, 1) := by decide +kernel
theorem d_Sd_goStraight_96 : decode b_Sd_goStraight 96 = .ok (.if_icmp .lt 25, 3) := by decide +kernel
theorem d_Sd_goStraight_99 : decode b_Sd_goStraight 99 = .ok (.aload_n 0, 1) := by decide +kernel
theorem d_Sd_goStraight_100 : decode b_Sd_goStraight 100 = .ok (.getfield 32, 3) := by decide +kernel
theorem d_Sd_goStraight_103 : decode b_Sd_goStraight 103 = .ok (.bipush 20, 2) := by decide +kernel
theorem d_Sd_goStraight_105 : decode b_Sd_goStraight 105 = .ok (.if_icmp .gt 16, 3) := by decide +kernel
theorem d_Sd_goStraight_108 : decode b_Sd_goStraight 108 = .ok (.aload_n 0, 1) := by decide +kernel
theorem d_Sd_goStraight_109 : decode b_Sd_goStraight 109 = .ok (.getfield 15, 3) := by decide +kernel
theorem d_Sd_goStraight_112 : decode b_Sd_goStraight 112 = .ok (.aload_n 0, 1) := by decide +kernel
theorem d_Sd_goStraight_113 : decode b_Sd_goStraight 113 = .ok (.getfield 32, 3) := by decide +kernel
theorem d_Sd_goStraight_116 : decode b_Sd_goStraight 116 = .ok (.aload_n 0, 1) := by decide +kernel
theorem d_Sd_goStraight_117 : decode b_Sd_goStraight 117 = .ok (.invokevirtual 113, 3) := by decide +kernel
theorem d_Sd_goStraight_120 : decode b_Sd_goStraight 120 = .ok (.lastore, 1) := by decide +kernel
theorem d_Sd_goStraight_121 : decode b_Sd_goStraight 121 = .ok (.aload_n 0, 1) := by decide +kernel
theorem d_Sd_goStraight_122 : decode b_Sd_goStraight 122 = .ok (.aload_n 0, 1) := by decide +kernel
theorem d_Sd_goStraight_123 : decode b_Sd_goStraight 123 = .ok (.getfield 15, 3) := by decide +kernel
theorem d_Sd_goStraight_126 : decode b_Sd_goStraight 126 = .ok (.iload_n 2, 1) := by decide +kernel
theorem d_Sd_goStraight_127 : decode b_Sd_goStraight 127 = .ok (.invokestatic 126, 3) := by decide +kernel
theorem d_Sd_goStraight_130 : decode b_Sd_goStraight 130 = .ok (.iload_n 2, 1) := by decide +kernel
theorem d_Sd_goStraight_131 : decode b_Sd_goStraight 131 = .ok (.invokestatic 129, 3) := by decide +kernel
theorem d_Sd_goStraight_134 : decode b_Sd_goStraight 134 = .ok (.invokevirtual 132, 3) := by decide +kernel
theorem d_Sd_goStraight_137 : decode b_Sd_goStraight 137 = .ok (.aload_n 0, 1) := by decide +kernel
theorem d_Sd_goStraight_138 : decode b_Sd_goStraight 138 = .ok (.aload_n 0, 1) := by decide +kernel
theorem d_Sd_goStraight_139 : decode b_Sd_goStraight 139 = .ok (.getfield 15, 3) := by decide +kernel
theorem d_Sd_goStraight_142 : decode b_Sd_goStraight 142 = .ok (.invokestatic 80, 3) := by decide +kernel
theorem d_Sd_goStraight_145 : decode b_Sd_goStraight 145 = .ok (.putfield 76, 3) := by decide +kernel
theorem d_Sd_goStraight_148 : decode b_Sd_goStraight 148 = .ok (.return_, 1) := by decide +kernel
theorem d_Sd_giveBack_0 : decode b_Sd_giveBack 0 = .ok (.lload_n 1, 1) := by decide +kernel
theorem d_Sd_giveBack_1 : decode b_Sd_giveBack 1 = .ok (.lconst 0, 1) := by decide +kernel
theorem d_Sd_giveBack_2 : decode b_Sd_giveBack 2 = .ok (.lcmp, 1) := by decide +kernel
theorem d_Sd_giveBack_3 : decode b_Sd_giveBack 3 = .ok (.ifCond .ne 4, 3) := by decide +kernel
theorem d_Sd_giveBack_6 : decode b_Sd_giveBack 6 = .ok (.return_, 1) := by decide +kernel
theorem d_Sd_giveBack_7 : decode b_Sd_giveBack 7 = .ok (.aload_n 0, 1) := by decide +kernel
theorem d_Sd_giveBack_8 : decode b_Sd_giveBack 8 = .ok (.getfield 18, 3) := by decide +kernel
theorem d_Sd_giveBack_11 : decode b_Sd_giveBack 11 = .ok (.lconst 0, 1) := by decide +kernel
theorem d_Sd_giveBack_12 : decode b_Sd_giveBack 12 = .ok (.invokestatic 56, 3) := by decide +kernel
theorem d_Sd_giveBack_15 : decode b_Sd_giveBack 15 = .ok (.lload_n 1, 1) := by decide +kernel
theorem d_Sd_giveBack_16 : decode b_Sd_giveBack 16 = .ok (.lstore 4, 2) := by decide +kernel
theorem d_Sd_giveBack_18 : decode b_Sd_giveBack 18 = .ok (.bipush 20, 2) := by decide +kernel
theorem d_Sd_giveBack_20 : decode b_Sd_giveBack 20 = .ok (.istore 6, 2) := by decide +kernel
theorem d_Sd_giveBack_22 : decode b_Sd_giveBack 22 = .ok (.iload 6, 2) := by decide +kernel
theorem d_Sd_giveBack_24 : decode b_Sd_giveBack 24 = .ok (.iconst 1, 1) := by decide +kernel
theorem d_Sd_giveBack_25 : decode b_Sd_giveBack 25 = .ok (.if_icmp .le 47, 3) := by decide +kernel
theorem d_Sd_giveBack_28 : decode b_Sd_giveBack 28 = .ok (.aload_n 0, 1) := by decide +kernel
theorem d_Sd_giveBack_29 : decode b_Sd_giveBack 29 = .ok (.getfield 18, 3) := by decide +kernel
theorem d_Sd_giveBack_32 : decode b_Sd_giveBack 32 = .ok (.iload 6, 2) := by decide +kernel
theorem d_Sd_giveBack_34 : decode b_Sd_giveBack 34 = .ok (.iconst 2, 1) := by decide +kernel
theorem d_Sd_giveBack_35 : decode b_Sd_giveBack 35 = .ok (.idiv, 1) := by decide +kernel
theorem d_Sd_giveBack_36 : decode b_Sd_giveBack 36 = .ok (.dup2, 1) := by decide +kernel
theorem d_Sd_giveBack_37 : decode b_Sd_giveBack 37 = .ok (.laload, 1) := by decide +kernel
theorem d_Sd_giveBack_38 : decode b_Sd_giveBack 38 = .ok (.aload_n 0, 1) := by decide +kernel
theorem d_Sd_giveBack_39 : decode b_Sd_giveBack 39 = .ok (.getfield 15, 3) := by decide +kernel
theorem d_Sd_giveBack_42 : decode b_Sd_giveBack 42 = .ok (.iload 6, 2) := by decide +kernel
theorem d_Sd_giveBack_44 : decode b_Sd_giveBack 44 = .ok (.laload, 1) := by decide +kernel
theorem d_Sd_giveBack_45 : decode b_Sd_giveBack 45 = .ok (.lload 4, 2) := by decide +kernel
theorem d_Sd_giveBack_47 : decode b_Sd_giveBack 47 = .ok (.land, 1) := by decide +kernel
theorem d_Sd_giveBack_48 : decode b_Sd_giveBack 48 = .ok (.lor, 1) := by decide +kernel
theorem d_Sd_giveBack_49 : decode b_Sd_giveBack 49 = .ok (.lastore, 1) := by decide +kernel
theorem d_Sd_giveBack_50 : decode b_Sd_giveBack 50 = .ok (.lload 4, 2) := by decide +kernel
theorem d_Sd_giveBack_52 : decode b_Sd_giveBack 52 = .ok (.aload_n 0, 1) := by decide +kernel
theorem d_Sd_giveBack_53 : decode b_Sd_giveBack 53 = .ok (.getfield 15, 3) := by decide +kernel
theorem d_Sd_giveBack_56 : decode b_Sd_giveBack 56 = .ok (.iload 6, 2) := by decide +kernel
theorem d_Sd_giveBack_58 : decode b_Sd_giveBack 58 = .ok (.laload, 1) := by decide +kernel
theorem d_Sd_giveBack_59 : decode b_Sd_giveBack 59 = .ok (.ldc2_w 94, 3) := by decide +kernel
theorem d_Sd_giveBack_62 : decode b_Sd_giveBack 62 = .ok (.lxor, 1) := by decide +kernel
theorem d_Sd_giveBack_63 : decode b_Sd_giveBack 63 = .ok (.land, 1) := by decide +kernel
theorem d_Sd_giveBack_64 : decode b_Sd_giveBack 64 = .ok (.lstore 4, 2) := by decide +kernel
theorem d_Sd_giveBack_66 : decode b_Sd_giveBack 66 = .ok (.iinc 6 (-1), 3) := by decide +kernel
theorem d_Sd_giveBack_69 : decode b_Sd_giveBack 69 = .ok (.goto (-47), 3) := by decide +kernel
theorem d_Sd_giveBack_72 : decode b_Sd_giveBack 72 = .ok (.aload_n 0, 1) := by decide +kernel
theorem d_Sd_giveBack_73 : decode b_Sd_giveBack 73 = .ok (.iload_n 3, 1) := by decide +kernel
theorem d_Sd_giveBack_74 : decode b_Sd_giveBack 74 = .ok (.iconst (-1), 1) := by decide +kernel
theorem d_Sd_giveBack_75 : decode b_Sd_giveBack 75 = .ok (.invokevirtual 119, 3) := by decide +kernel
theorem d_Sd_giveBack_78 : decode b_Sd_giveBack 78 = .ok (.aload_n 0, 1) := by decide +kernel
theorem d_Sd_giveBack_79 : decode b_Sd_giveBack 79 = .ok (.aload_n 0, 1) := by decide +kernel
theorem d_Sd_giveBack_80 : decode b_Sd_giveBack 80 = .ok (.getfield 18, 3) := by decide +kernel
theorem d_Sd_giveBack_83 : decode b_Sd_giveBack 83 = .ok (.iconst 1, 1) := by decide +kernel
theorem d_Sd_giveBack_84 : decode b_Sd_giveBack 84 = .ok (.iconst 0, 1) := by decide +kernel
theorem d_Sd_giveBack_85 : decode b_Sd_giveBack 85 = .ok (.invokevirtual 132, 3) := by decide +kernel
theorem d_Sd_giveBack_88 : decode b_Sd_giveBack 88 = .ok (.iconst 1, 1) := by decide +kernel
theorem d_Sd_giveBack_89 : decode b_Sd_giveBack 89 = .ok (.istore 6, 2) := by decide +kernel
theorem d_Sd_giveBack_91 : decode b_Sd_giveBack 91 = .ok (.iload 6, 2) := by decide +kernel
theorem d_Sd_giveBack_93 : decode b_Sd_giveBack 93 = .ok (.bipush 20, 2) := by decide +kernel
theorem d_Sd_giveBack_95 : decode b_Sd_giveBack 95 = .ok (.if_icmp .gt 26, 3) := by decide +kernel
theorem d_Sd_giveBack_98 : decode b_Sd_giveBack 98 = .ok (.aload_n 0, 1) := by decide +kernel
theorem d_Sd_giveBack_99 : decode b_Sd_giveBack 99 = .ok (.getfield 21, 3) := by decide +kernel
theorem d_Sd_giveBack_102 : decode b_Sd_giveBack 102 = .ok (.iload 6, 2) := by decide +kernel
theorem d_Sd_giveBack_104 : decode b_Sd_giveBack 104 = .ok (.dup2, 1) := by decide +kernel
theorem d_Sd_giveBack_105 : decode b_Sd_giveBack 105 = .ok (.laload, 1) := by decide +kernel
theorem d_Sd_giveBack_106 : decode b_Sd_giveBack 106 = .ok (.aload_n 0, 1) := by decide +kernel
theorem d_Sd_giveBack_107 : decode b_Sd_giveBack 107 = .ok (.getfield 18, 3) := by decide +kernel
theorem d_Sd_giveBack_110 : decode b_Sd_giveBack 110 = .ok (.iload 6, 2) := by decide +kernel
theorem d_Sd_giveBack_112 : decode b_Sd_giveBack 112 = .ok (.laload, 1) := by decide +kernel
theorem d_Sd_giveBack_113 : decode b_Sd_giveBack 113 = .ok (.lor, 1) := by decide +kernel
theorem d_Sd_giveBack_114 : decode b_Sd_giveBack 114 = .ok (.lastore, 1) := by decide +kernel
theorem d_Sd_giveBack_115 : decode b_Sd_giveBack 115 = .ok (.iinc 6 1, 3) := by decide +kernel
theorem d_Sd_giveBack_118 : decode b_Sd_giveBack 118 = .ok (.goto (-27), 3) := by decide +kernel
theorem d_Sd_giveBack_121 : decode b_Sd_giveBack 121 = .ok (.return_, 1) := by decide +kernel
theorem d_Sd_allow_0 : decode b_Sd_allow 0 = .ok (.aload_n 0, 1) := by decide +kernel
theorem d_Sd_allow_1 : decode b_Sd_allow 1 = .ok (.getfield 9, 3) := by decide +kernel
theorem d_Sd_allow_4 : decode b_Sd_allow 4 = .ok (.lconst 0, 1) := by decide +kernel
theorem d_Sd_allow_5 : decode b_Sd_allow 5 = .ok (.invokestatic 56, 3) := by decide +kernel
theorem d_Sd_allow_8 : decode b_Sd_allow 8 = .ok (.aload_n 0, 1) := by decide +kernel
theorem d_Sd_allow_9 : decode b_Sd_allow 9 = .ok (.getfield 9, 3) := by decide +kernel
theorem d_Sd_allow_12 : decode b_Sd_allow 12 = .ok (.bipush 20, 2) := by decide +kernel
theorem d_Sd_allow_14 : decode b_Sd_allow 14 = .ok (.aload_n 0, 1) := by decide +kernel
theorem d_Sd_allow_15 : decode b_Sd_allow 15 = .ok (.getfield 24, 3) := by decide +kernel
theorem d_Sd_allow_18 : decode b_Sd_allow 18 = .ok (.iload_n 1, 1) := by decide +kernel
theorem d_Sd_allow_19 : decode b_Sd_allow 19 = .ok (.invokevirtual 66, 3) := by decide +kernel
theorem d_Sd_allow_22 : decode b_Sd_allow 22 = .ok (.lastore, 1) := by decide +kernel
theorem d_Sd_allow_23 : decode b_Sd_allow 23 = .ok (.iconst 0, 1) := by decide +kernel
theorem d_Sd_allow_24 : decode b_Sd_allow 24 = .ok (.istore_n 3, 1) := by decide +kernel
theorem d_Sd_allow_25 : decode b_Sd_allow 25 = .ok (.iload_n 3, 1) := by decide +kernel
theorem d_Sd_allow_26 : decode b_Sd_allow 26 = .ok (.bipush 6, 2) := by decide +kernel
theorem d_Sd_allow_28 : decode b_Sd_allow 28 = .ok (.if_icmp .ge 54, 3) := by decide +kernel
theorem d_Sd_allow_31 : decode b_Sd_allow 31 = .ok (.aload_n 0, 1) := by decide +kernel
theorem d_Sd_allow_32 : decode b_Sd_allow 32 = .ok (.getfield 38, 3) := by decide +kernel
theorem d_Sd_allow_35 : decode b_Sd_allow 35 = .ok (.iload_n 3, 1) := by decide +kernel
theorem d_Sd_allow_36 : decode b_Sd_allow 36 = .ok (.ishr, 1) := by decide +kernel
theorem d_Sd_allow_37 : decode b_Sd_allow 37 = .ok (.iconst 1, 1) := by decide +kernel
theorem d_Sd_allow_38 : decode b_Sd_allow 38 = .ok (.iand, 1) := by decide +kernel
theorem d_Sd_allow_39 : decode b_Sd_allow 39 = .ok (.ifCond .eq 37, 3) := by decide +kernel
theorem d_Sd_allow_42 : decode b_Sd_allow 42 = .ok (.iload_n 1, 1) := by decide +kernel
theorem d_Sd_allow_43 : decode b_Sd_allow 43 = .ok (.aload_n 0, 1) := by decide +kernel
theorem d_Sd_allow_44 : decode b_Sd_allow 44 = .ok (.getfield 24, 3) := by decide +kernel
theorem d_Sd_allow_47 : decode b_Sd_allow 47 = .ok (.aload_n 0, 1) := by decide +kernel
theorem d_Sd_allow_48 : decode b_Sd_allow 48 = .ok (.getfield 28, 3) := by decide +kernel
theorem d_Sd_allow_51 : decode b_Sd_allow 51 = .ok (.invokevirtual 116, 3) := by decide +kernel
theorem d_Sd_allow_54 : decode b_Sd_allow 54 = .ok (.if_icmp .ne 22, 3) := by decide +kernel
theorem d_Sd_allow_57 : decode b_Sd_allow 57 = .ok (.aload_n 0, 1) := by decide +kernel
theorem d_Sd_allow_58 : decode b_Sd_allow 58 = .ok (.getfield 9, 3) := by decide +kernel
theorem d_Sd_allow_61 : decode b_Sd_allow 61 = .ok (.bipush 20, 2) := by decide +kernel
theorem d_Sd_allow_63 : decode b_Sd_allow 63 = .ok (.dup2, 1) := by decide +kernel
theorem d_Sd_allow_64 : decode b_Sd_allow 64 = .ok (.laload, 1) := by decide +kernel
theorem d_Sd_allow_65 : decode b_Sd_allow 65 = .ok (.aload_n 0, 1) := by decide +kernel
theorem d_Sd_allow_66 : decode b_Sd_allow 66 = .ok (.getfield 24, 3) := by decide +kernel
theorem d_Sd_allow_69 : decode b_Sd_allow 69 = .ok (.getfield 87, 3) := by decide +kernel
theorem d_Sd_allow_72 : decode b_Sd_allow 72 = .ok (.iload_n 3, 1) := by decide +kernel
theorem d_Sd_allow_73 : decode b_Sd_allow 73 = .ok (.laload, 1) := by decide +kernel
theorem d_Sd_allow_74 : decode b_Sd_allow 74 = .ok (.lor, 1) := by decide +kernel
theorem d_Sd_allow_75 : decode b_Sd_allow 75 = .ok (.lastore, 1) := by decide +kernel
theorem d_Sd_allow_76 : decode b_Sd_allow 76 = .ok (.iinc 3 1, 3) := by decide +kernel
theorem d_Sd_allow_79 : decode b_Sd_allow 79 = .ok (.goto (-54), 3) := by decide +kernel
theorem d_Sd_allow_82 : decode b_Sd_allow 82 = .ok (.iconst 0, 1) := by decide +kernel
theorem d_Sd_allow_83 : decode b_Sd_allow 83 = .ok (.istore_n 3, 1) := by decide +kernel
theorem d_Sd_allow_84 : decode b_Sd_allow 84 = .ok (.iload_n 3, 1) := by decide +kernel
theorem d_Sd_allow_85 : decode b_Sd_allow 85 = .ok (.aload_n 0, 1) := by decide +kernel
theorem d_Sd_allow_86 : decode b_Sd_allow 86 = .ok (.getfield 24, 3) := by decide +kernel
theorem d_Sd_allow_89 : decode b_Sd_allow 89 = .ok (.getfield 136, 3) := by decide +kernel
theorem d_Sd_allow_92 : decode b_Sd_allow 92 = .ok (.if_icmp .ge 152, 3) := by decide +kernel
theorem d_Sd_allow_95 : decode b_Sd_allow 95 = .ok (.aload_n 0, 1) := by decide +kernel
theorem d_Sd_allow_96 : decode b_Sd_allow 96 = .ok (.getfield 24, 3) := by decide +kernel
theorem d_Sd_allow_99 : decode b_Sd_allow 99 = .ok (.iload_n 3, 1) := by decide +kernel
theorem d_Sd_allow_100 : decode b_Sd_allow 100 = .ok (.iconst 0, 1) := by decide +kernel
theorem d_Sd_allow_101 : decode b_Sd_allow 101 = .ok (.invokevirtual 139, 3) := by decide +kernel
theorem d_Sd_allow_104 : decode b_Sd_allow 104 = .ok (.istore 4, 2) := by decide +kernel
theorem d_Sd_allow_106 : decode b_Sd_allow 106 = .ok (.aload_n 0, 1) := by decide +kernel
theorem d_Sd_allow_107 : decode b_Sd_allow 107 = .ok (.getfield 24, 3) := by decide +kernel
theorem d_Sd_allow_110 : decode b_Sd_allow 110 = .ok (.iload_n 3, 1) := by decide +kernel
theorem d_Sd_allow_111 : decode b_Sd_allow 111 = .ok (.iconst 4, 1) := by decide +kernel
theorem d_Sd_allow_112 : decode b_Sd_allow 112 = .ok (.invokevirtual 139, 3) := by decide +kernel
theorem d_Sd_allow_115 : decode b_Sd_allow 115 = .ok (.istore 5, 2) := by decide +kernel
theorem d_Sd_allow_117 : decode b_Sd_allow 117 = .ok (.iload_n 2, 1) := by decide +kernel
theorem d_Sd_allow_118 : decode b_Sd_allow 118 = .ok (.iconst (-1), 1) := by decide +kernel
theorem d_Sd_allow_119 : decode b_Sd_allow 119 = .ok (.if_icmp .ne 24, 3) := by decide +kernel
theorem d_Sd_allow_122 : decode b_Sd_allow 122 = .ok (.aload_n 0, 1) := by decide +kernel
theorem d_Sd_allow_123 : decode b_Sd_allow 123 = .ok (.getfield 24, 3) := by decide +kernel
theorem d_Sd_allow_126 : decode b_Sd_allow 126 = .ok (.iload 4, 2) := by decide +kernel
theorem d_Sd_allow_128 : decode b_Sd_allow 128 = .ok (.invokevirtual 116, 3) := by decide +kernel
theorem d_Sd_allow_131 : decode b_Sd_allow 131 = .ok (.iload_n 1, 1) := by decide +kernel
theorem d_Sd_allow_132 : decode b_Sd_allow 132 = .ok (.if_icmp .ne 7, 3) := by decide +kernel
theorem d_Sd_allow_135 : decode b_Sd_allow 135 = .ok (.iconst 1, 1) := by decide +kernel
theorem d_Sd_allow_136 : decode b_Sd_allow 136 = .ok (.goto 18, 3) := by decide +kernel
theorem d_Sd_allow_139 : decode b_Sd_allow 139 = .ok (.iconst 0, 1) := by decide +kernel
theorem d_Sd_allow_140 : decode b_Sd_allow 140 = .ok (.goto 14, 3) := by decide +kernel
theorem d_Sd_allow_143 : decode b_Sd_allow 143 = .ok (.iload 4, 2) := by decide +kernel
theorem d_Sd_allow_145 : decode b_Sd_allow 145 = .ok (.iload_n 2, 1) := by decide +kernel
theorem d_Sd_allow_146 : decode b_Sd_allow 146 = .ok (.if_icmp .ne 7, 3) := by decide +kernel
theorem d_Sd_allow_149 : decode b_Sd_allow 149 = .ok (.iconst 1, 1) := by decide +kernel
theorem d_Sd_allow_150 : decode b_Sd_allow 150 = .ok (.goto 4, 3) := by decide +kernel
theorem d_Sd_allow_153 : decode b_Sd_allow 153 = .ok (.iconst 0, 1) := by decide +kernel
theorem d_Sd_allow_154 : decode b_Sd_allow 154 = .ok (.istore 6, 2) := by decide +kernel
theorem d_Sd_allow_156 : decode b_Sd_allow 156 = .ok (.aload_n 0, 1) := by decide +kernel
theorem d_Sd_allow_157 : decode b_Sd_allow 157 = .ok (.getfield 41, 3) := by decide +kernel
theorem d_Sd_allow_160 : decode b_Sd_allow 160 = .ok (.iload_n 3, 1) := by decide +kernel
theorem d_Sd_allow_161 : decode b_Sd_allow 161 = .ok (.ishr, 1) := by decide +kernel
theorem d_Sd_allow_162 : decode b_Sd_allow 162 = .ok (.iconst 1, 1) := by decide +kernel
theorem d_Sd_allow_163 : decode b_Sd_allow 163 = .ok (.iand, 1) := by decide +kernel
theorem d_Sd_allow_164 : decode b_Sd_allow 164 = .ok (.ifCond .ne 22, 3) := by decide +kernel
theorem d_Sd_allow_167 : decode b_Sd_allow 167 = .ok (.aload_n 0, 1) := by decide +kernel
theorem d_Sd_allow_168 : decode b_Sd_allow 168 = .ok (.getfield 24, 3) := by decide +kernel
theorem d_Sd_allow_171 : decode b_Sd_allow 171 = .ok (.iload_n 3, 1) := by decide +kernel
theorem d_Sd_allow_172 : decode b_Sd_allow 172 = .ok (.aload_n 0, 1) := by decide +kernel
theorem d_Sd_allow_173 : decode b_Sd_allow 173 = .ok (.getfield 35, 3) := by decide +kernel
theorem d_Sd_allow_176 : decode b_Sd_allow 176 = .ok (.invokevirtual 143, 3) := by decide +kernel
theorem d_Sd_allow_179 : decode b_Sd_allow 179 = .ok (.ifCond .eq 7, 3) := by decide +kernel
theorem d_Sd_allow_182 : decode b_Sd_allow 182 = .ok (.iconst 1, 1) := by decide +kernel
theorem d_Sd_allow_183 : decode b_Sd_allow 183 = .ok (.goto 4, 3) := by decide +kernel
theorem d_Sd_allow_186 : decode b_Sd_allow 186 = .ok (.iconst 0, 1) := by decide +kernel
theorem d_Sd_allow_187 : decode b_Sd_allow 187 = .ok (.istore 7, 2) := by decide +kernel
theorem d_Sd_allow_189 : decode b_Sd_allow 189 = .ok (.iload 6, 2) := by decide +kernel
theorem d_Sd_allow_191 : decode b_Sd_allow 191 = .ok (.ifCond .eq 47, 3) := by decide +kernel
theorem d_Sd_allow_194 : decode b_Sd_allow 194 = .ok (.iload 7, 2) := by decide +kernel
theorem d_Sd_allow_196 : decode b_Sd_allow 196 = .ok (.ifCond .eq 42, 3) := by decide +kernel
theorem d_Sd_allow_199 : decode b_Sd_allow 199 = .ok (.iload 5, 2) := by decide +kernel
theorem d_Sd_allow_201 : decode b_Sd_allow 201 = .ok (.iconst 1, 1) := by decide +kernel
theorem d_Sd_allow_202 : decode b_Sd_allow 202 = .ok (.if_icmp .lt 36, 3) := by decide +kernel
theorem d_Sd_allow_205 : decode b_Sd_allow 205 = .ok (.iload 5, 2) := by decide +kernel
theorem d_Sd_allow_207 : decode b_Sd_allow 207 = .ok (.bipush 20, 2) := by decide +kernel
theorem d_Sd_allow_209 : decode b_Sd_allow 209 = .ok (.if_icmp .gt 29, 3) := by decide +kernel
theorem d_Sd_allow_212 : decode b_Sd_allow 212 = .ok (.aload_n 0, 1) := by decide +kernel
theorem d_Sd_allow_213 : decode b_Sd_allow 213 = .ok (.getfield 9, 3) := by decide +kernel
theorem d_Sd_allow_216 : decode b_Sd_allow 216 = .ok (.iload 5, 2) := by decide +kernel
theorem d_Sd_allow_218 : decode b_Sd_allow 218 = .ok (.dup2, 1) := by decide +kernel
theorem d_Sd_allow_219 : decode b_Sd_allow 219 = .ok (.laload, 1) := by decide +kernel
theorem d_Sd_allow_220 : decode b_Sd_allow 220 = .ok (.aload_n 0, 1) := by decide +kernel
theorem d_Sd_allow_221 : decode b_Sd_allow 221 = .ok (.getfield 24, 3) := by decide +kernel
theorem d_Sd_allow_224 : decode b_Sd_allow 224 = .ok (.aload_n 0, 1) := by decide +kernel
theorem d_Sd_allow_225 : decode b_Sd_allow 225 = .ok (.getfield 24, 3) := by decide +kernel
theorem d_Sd_allow_228 : decode b_Sd_allow 228 = .ok (.iload_n 3, 1) := by decide +kernel
theorem d_Sd_allow_229 : decode b_Sd_allow 229 = .ok (.iconst 1, 1) := by decide +kernel
theorem d_Sd_allow_230 : decode b_Sd_allow 230 = .ok (.invokevirtual 139, 3) := by decide +kernel
theorem d_Sd_allow_233 : decode b_Sd_allow 233 = .ok (.invokevirtual 66, 3) := by decide +kernel
theorem d_Sd_allow_236 : decode b_Sd_allow 236 = .ok (.lor, 1) := by decide +kernel
theorem d_Sd_allow_237 : decode b_Sd_allow 237 = .ok (.lastore, 1) := by decide +kernel
theorem d_Sd_allow_238 : decode b_Sd_allow 238 = .ok (.iinc 3 1, 3) := by decide +kernel
theorem d_Sd_allow_241 : decode b_Sd_allow 241 = .ok (.goto (-157), 3) := by decide +kernel
theorem d_Sd_allow_244 : decode b_Sd_allow 244 = .ok (.bipush 19, 2) := by decide +kernel
theorem d_Sd_allow_246 : decode b_Sd_allow 246 = .ok (.istore_n 3, 1) := by decide +kernel
theorem d_Sd_allow_247 : decode b_Sd_allow 247 = .ok (.iload_n 3, 1) := by decide +kernel
theorem d_Sd_allow_248 : decode b_Sd_allow 248 = .ok (.ifCond .le 26, 3) := by decide +kernel
theorem d_Sd_allow_251 : decode b_Sd_allow 251 = .ok (.aload_n 0, 1) := by decide +kernel
theorem d_Sd_allow_252 : decode b_Sd_allow 252 = .ok (.getfield 9, 3) := by decide +kernel
theorem d_Sd_allow_255 : decode b_Sd_allow 255 = .ok (.iload_n 3, 1) := by decide +kernel
theorem d_Sd_allow_256 : decode b_Sd_allow 256 = .ok (.dup2, 1) := by decide +kernel
theorem d_Sd_allow_257 : decode b_Sd_allow 257 = .ok (.laload, 1) := by decide +kernel
theorem d_Sd_allow_258 : decode b_Sd_allow 258 = .ok (.aload_n 0, 1) := by decide +kernel
theorem d_Sd_allow_259 : decode b_Sd_allow 259 = .ok (.getfield 9, 3) := by decide +kernel
theorem d_Sd_allow_262 : decode b_Sd_allow 262 = .ok (.iload_n 3, 1) := by decide +kernel
theorem d_Sd_allow_263 : decode b_Sd_allow 263 = .ok (.iconst 1, 1) := by decide +kernel
theorem d_Sd_allow_264 : decode b_Sd_allow 264 = .ok (.iadd, 1) := by decide +kernel
theorem d_Sd_allow_265 : decode b_Sd_allow 265 = .ok (.laload, 1) := by decide +kernel
theorem d_Sd_allow_266 : decode b_Sd_allow 266 = .ok (.lor, 1) := by decide +kernel
theorem d_Sd_allow_267 : decode b_Sd_allow 267 = .ok (.lastore, 1) := by decide +kernel
theorem d_Sd_allow_268 : decode b_Sd_allow 268 = .ok (.iinc 3 (-1), 3) := by decide +kernel
theorem d_Sd_allow_271 : decode b_Sd_allow 271 = .ok (.goto (-24), 3) := by decide +kernel
theorem d_Sd_allow_274 : decode b_Sd_allow 274 = .ok (.return_, 1) := by decide +kernel
theorem d_Sd_spread_0 : decode b_Sd_spread 0 = .ok (.aload_n 0, 1) := by decide +kernel
theorem d_Sd_spread_1 : decode b_Sd_spread 1 = .ok (.getfield 24, 3) := by decide +kernel
theorem d_Sd_spread_4 : decode b_Sd_spread 4 = .ok (.getfield 110, 3) := by decide +kernel
theorem d_Sd_spread_7 : decode b_Sd_spread 7 = .ok (.iconst 1, 1) := by decide +kernel
theorem d_Sd_spread_8 : decode b_Sd_spread 8 = .ok (.laload, 1) := by decide +kernel
theorem d_Sd_spread_9 : decode b_Sd_spread 9 = .ok (.lstore 4, 2) := by decide +kernel
theorem d_Sd_spread_11 : decode b_Sd_spread 11 = .ok (.aload_n 1, 1) := by decide +kernel
theorem d_Sd_spread_12 : decode b_Sd_spread 12 = .ok (.arraylength, 1) := by decide +kernel
theorem d_Sd_spread_13 : decode b_Sd_spread 13 = .ok (.iconst 1, 1) := by decide +kernel
theorem d_Sd_spread_14 : decode b_Sd_spread 14 = .ok (.isub, 1) := by decide +kernel
theorem d_Sd_spread_15 : decode b_Sd_spread 15 = .ok (.istore 6, 2) := by decide +kernel
theorem d_Sd_spread_17 : decode b_Sd_spread 17 = .ok (.iload 6, 2) := by decide +kernel
theorem d_Sd_spread_19 : decode b_Sd_spread 19 = .ok (.ifCond .le 52, 3) := by decide +kernel
theorem d_Sd_spread_22 : decode b_Sd_spread 22 = .ok (.aload_n 1, 1) := by decide +kernel
theorem d_Sd_spread_23 : decode b_Sd_spread 23 = .ok (.iload 6, 2) := by decide +kernel
theorem d_Sd_spread_25 : decode b_Sd_spread 25 = .ok (.laload, 1) := by decide +kernel
theorem d_Sd_spread_26 : decode b_Sd_spread 26 = .ok (.lconst 0, 1) := by decide +kernel
theorem d_Sd_spread_27 : decode b_Sd_spread 27 = .ok (.lcmp, 1) := by decide +kernel
theorem d_Sd_spread_28 : decode b_Sd_spread 28 = .ok (.ifCond .eq 37, 3) := by decide +kernel
theorem d_Sd_spread_31 : decode b_Sd_spread 31 = .ok (.aload_n 0, 1) := by decide +kernel
theorem d_Sd_spread_32 : decode b_Sd_spread 32 = .ok (.aload_n 1, 1) := by decide +kernel
theorem d_Sd_spread_33 : decode b_Sd_spread 33 = .ok (.aload_n 1, 1) := by decide +kernel
theorem d_Sd_spread_34 : decode b_Sd_spread 34 = .ok (.iload 6, 2) := by decide +kernel
theorem d_Sd_spread_36 : decode b_Sd_spread 36 = .ok (.laload, 1) := by decide +kernel
theorem d_Sd_spread_37 : decode b_Sd_spread 37 = .ok (.lload 4, 2) := by decide +kernel
theorem d_Sd_spread_39 : decode b_Sd_spread 39 = .ok (.ldc2_w 94, 3) := by decide +kernel
theorem d_Sd_spread_42 : decode b_Sd_spread 42 = .ok (.lxor, 1) := by decide +kernel
theorem d_Sd_spread_43 : decode b_Sd_spread 43 = .ok (.land, 1) := by decide +kernel
theorem d_Sd_spread_44 : decode b_Sd_spread 44 = .ok (.iload 6, 2) := by decide +kernel
theorem d_Sd_spread_46 : decode b_Sd_spread 46 = .ok (.iload_n 2, 1) := by decide +kernel
theorem d_Sd_spread_47 : decode b_Sd_spread 47 = .ok (.invokevirtual 147, 3) := by decide +kernel
theorem d_Sd_spread_50 : decode b_Sd_spread 50 = .ok (.aload_n 0, 1) := by decide +kernel
theorem d_Sd_spread_51 : decode b_Sd_spread 51 = .ok (.aload_n 1, 1) := by decide +kernel
theorem d_Sd_spread_52 : decode b_Sd_spread 52 = .ok (.aload_n 1, 1) := by decide +kernel
theorem d_Sd_spread_53 : decode b_Sd_spread 53 = .ok (.iload 6, 2) := by decide +kernel
theorem d_Sd_spread_55 : decode b_Sd_spread 55 = .ok (.laload, 1) := by decide +kernel
theorem d_Sd_spread_56 : decode b_Sd_spread 56 = .ok (.lload 4, 2) := by decide +kernel
theorem d_Sd_spread_58 : decode b_Sd_spread 58 = .ok (.land, 1) := by decide +kernel
theorem d_Sd_spread_59 : decode b_Sd_spread 59 = .ok (.iload 6, 2) := by decide +kernel
theorem d_Sd_spread_61 : decode b_Sd_spread 61 = .ok (.iload_n 3, 1) := by decide +kernel
theorem d_Sd_spread_62 : decode b_Sd_spread 62 = .ok (.invokevirtual 147, 3) := by decide +kernel
theorem d_Sd_spread_65 : decode b_Sd_spread 65 = .ok (.iinc 6 (-1), 3) := by decide +kernel
theorem d_Sd_spread_68 : decode b_Sd_spread 68 = .ok (.goto (-51), 3) := by decide +kernel
theorem d_Sd_spread_71 : decode b_Sd_spread 71 = .ok (.return_, 1) := by decide +kernel
theorem d_Sd_step_0 : decode b_Sd_step 0 = .ok (.iload 4, 2) := by decide +kernel
theorem d_Sd_step_2 : decode b_Sd_step 2 = .ok (.iload 5, 2) := by decide +kernel
theorem d_Sd_step_4 : decode b_Sd_step 4 = .ok (.isub, 1) := by decide +kernel
theorem d_Sd_step_5 : decode b_Sd_step 5 = .ok (.istore 6, 2) := by decide +kernel
theorem d_Sd_step_7 : decode b_Sd_step 7 = .ok (.lload_n 2, 1) := by decide +kernel
theorem d_Sd_step_8 : decode b_Sd_step 8 = .ok (.lconst 0, 1) := by decide +kernel
theorem d_Sd_step_9 : decode b_Sd_step 9 = .ok (.lcmp, 1) := by decide +kernel
theorem d_Sd_step_10 : decode b_Sd_step 10 = .ok (.ifCond .eq 53, 3) := by decide +kernel
theorem d_Sd_step_13 : decode b_Sd_step 13 = .ok (.iload 5, 2) := by decide +kernel
theorem d_Sd_step_15 : decode b_Sd_step 15 = .ok (.ifCond .le 48, 3) := by decide +kernel
theorem d_Sd_step_18 : decode b_Sd_step 18 = .ok (.iload 6, 2) := by decide +kernel
theorem d_Sd_step_20 : decode b_Sd_step 20 = .ok (.ifCond .le 43, 3) := by decide +kernel
theorem d_Sd_step_23 : decode b_Sd_step 23 = .ok (.iload 6, 2) := by decide +kernel
theorem d_Sd_step_25 : decode b_Sd_step 25 = .ok (.aload_n 1, 1) := by decide +kernel
theorem d_Sd_step_26 : decode b_Sd_step 26 = .ok (.arraylength, 1) := by decide +kernel
theorem d_Sd_step_27 : decode b_Sd_step 27 = .ok (.if_icmp .ge 36, 3) := by decide +kernel
theorem d_Sd_step_30 : decode b_Sd_step 30 = .ok (.iload 6, 2) := by decide +kernel
theorem d_Sd_step_32 : decode b_Sd_step 32 = .ok (.aload_n 0, 1) := by decide +kernel
theorem d_Sd_step_33 : decode b_Sd_step 33 = .ok (.getfield 9, 3) := by decide +kernel
theorem d_Sd_step_36 : decode b_Sd_step 36 = .ok (.arraylength, 1) := by decide +kernel
theorem d_Sd_step_37 : decode b_Sd_step 37 = .ok (.if_icmp .ge 26, 3) := by decide +kernel
theorem d_Sd_step_40 : decode b_Sd_step 40 = .ok (.aload_n 1, 1) := by decide +kernel
theorem d_Sd_step_41 : decode b_Sd_step 41 = .ok (.iload 6, 2) := by decide +kernel
theorem d_Sd_step_43 : decode b_Sd_step 43 = .ok (.dup2, 1) := by decide +kernel
theorem d_Sd_step_44 : decode b_Sd_step 44 = .ok (.laload, 1) := by decide +kernel
theorem d_Sd_step_45 : decode b_Sd_step 45 = .ok (.aload_n 0, 1) := by decide +kernel
theorem d_Sd_step_46 : decode b_Sd_step 46 = .ok (.getfield 24, 3) := by decide +kernel
theorem d_Sd_step_49 : decode b_Sd_step 49 = .ok (.lload_n 2, 1) := by decide +kernel
theorem d_Sd_step_50 : decode b_Sd_step 50 = .ok (.invokevirtual 151, 3) := by decide +kernel
theorem d_Sd_step_53 : decode b_Sd_step 53 = .ok (.aload_n 0, 1) := by decide +kernel
theorem d_Sd_step_54 : decode b_Sd_step 54 = .ok (.getfield 9, 3) := by decide +kernel
theorem d_Sd_step_57 : decode b_Sd_step 57 = .ok (.iload 6, 2) := by decide +kernel
theorem d_Sd_step_59 : decode b_Sd_step 59 = .ok (.laload, 1) := by decide +kernel
theorem d_Sd_step_60 : decode b_Sd_step 60 = .ok (.land, 1) := by decide +kernel
theorem d_Sd_step_61 : decode b_Sd_step 61 = .ok (.lor, 1) := by decide +kernel
theorem d_Sd_step_62 : decode b_Sd_step 62 = .ok (.lastore, 1) := by decide +kernel
theorem d_Sd_step_63 : decode b_Sd_step 63 = .ok (.return_, 1) := by decide +kernel
theorem d_Sd_union_0 : decode b_Sd_union 0 = .ok (.lconst 0, 1) := by decide +kernel
theorem d_Sd_union_1 : decode b_Sd_union 1 = .ok (.lstore_n 1, 1) := by decide +kernel
theorem d_Sd_union_2 : decode b_Sd_union 2 = .ok (.iconst 1, 1) := by decide +kernel
theorem d_Sd_union_3 : decode b_Sd_union 3 = .ok (.istore_n 3, 1) := by decide +kernel
theorem d_Sd_union_4 : decode b_Sd_union 4 = .ok (.iload_n 3, 1) := by decide +kernel
theorem d_Sd_union_5 : decode b_Sd_union 5 = .ok (.aload_n 0, 1) := by decide +kernel
theorem d_Sd_union_6 : decode b_Sd_union 6 = .ok (.arraylength, 1) := by decide +kernel
theorem d_Sd_union_7 : decode b_Sd_union 7 = .ok (.if_icmp .ge 15, 3) := by decide +kernel
theorem d_Sd_union_10 : decode b_Sd_union 10 = .ok (.lload_n 1, 1) := by decide +kernel
theorem d_Sd_union_11 : decode b_Sd_union 11 = .ok (.aload_n 0, 1) := by decide +kernel
theorem d_Sd_union_12 : decode b_Sd_union 12 = .ok (.iload_n 3, 1) := by decide +kernel
theorem d_Sd_union_13 : decode b_Sd_union 13 = .ok (.laload, 1) := by decide +kernel
theorem d_Sd_union_14 : decode b_Sd_union 14 = .ok (.lor, 1) := by decide +kernel
theorem d_Sd_union_15 : decode b_Sd_union 15 = .ok (.lstore_n 1, 1) := by decide +kernel
theorem d_Sd_union_16 : decode b_Sd_union 16 = .ok (.iinc 3 1, 3) := by decide +kernel
theorem d_Sd_union_19 : decode b_Sd_union 19 = .ok (.goto (-15), 3) := by decide +kernel
theorem d_Sd_union_22 : decode b_Sd_union 22 = .ok (.lload_n 1, 1) := by decide +kernel
theorem d_Sd_union_23 : decode b_Sd_union 23 = .ok (.lreturn, 1) := by decide +kernel
theorem d_Sd_lessByStep_0 : decode b_Sd_lessByStep 0 = .ok (.iload_n 0, 1) := by decide +kernel
theorem d_Sd_lessByStep_1 : decode b_Sd_lessByStep 1 = .ok (.iconst 2, 1) := by decide +kernel
theorem d_Sd_lessByStep_2 : decode b_Sd_lessByStep 2 = .ok (.if_icmp .eq 8, 3) := by decide +kernel
theorem d_Sd_lessByStep_5 : decode b_Sd_lessByStep 5 = .ok (.iload_n 0, 1) := by decide +kernel
theorem d_Sd_lessByStep_6 : decode b_Sd_lessByStep 6 = .ok (.iconst 3, 1) := by decide +kernel
theorem d_Sd_lessByStep_7 : decode b_Sd_lessByStep 7 = .ok (.if_icmp .ne 7, 3) := by decide +kernel
theorem d_Sd_lessByStep_10 : decode b_Sd_lessByStep 10 = .ok (.iconst 2, 1) := by decide +kernel
theorem d_Sd_lessByStep_11 : decode b_Sd_lessByStep 11 = .ok (.goto 4, 3) := by decide +kernel
theorem d_Sd_lessByStep_14 : decode b_Sd_lessByStep 14 = .ok (.iconst 1, 1) := by decide +kernel
theorem d_Sd_lessByStep_15 : decode b_Sd_lessByStep 15 = .ok (.ireturn, 1) := by decide +kernel
theorem d_Sd_lessFromHedge_0 : decode b_Sd_lessFromHedge 0 = .ok (.iload_n 0, 1) := by decide +kernel
theorem d_Sd_lessFromHedge_1 : decode b_Sd_lessFromHedge 1 = .ok (.tableswitch 39 1 5 #[35, 39, 39, 35, 37], 35) := by decide +kernel
theorem d_Sd_lessFromHedge_36 : decode b_Sd_lessFromHedge 36 = .ok (.iconst 2, 1) := by decide +kernel
theorem d_Sd_lessFromHedge_37 : decode b_Sd_lessFromHedge 37 = .ok (.ireturn, 1) := by decide +kernel
theorem d_Sd_lessFromHedge_38 : decode b_Sd_lessFromHedge 38 = .ok (.iconst 1, 1) := by decide +kernel
theorem d_Sd_lessFromHedge_39 : decode b_Sd_lessFromHedge 39 = .ok (.ireturn, 1) := by decide +kernel
theorem d_Sd_lessFromHedge_40 : decode b_Sd_lessFromHedge 40 = .ok (.iconst 0, 1) := by decide +kernel
theorem d_Sd_lessFromHedge_41 : decode b_Sd_lessFromHedge 41 = .ok (.ireturn, 1) := by decide +kernel
theorem d_Sd_freeUpTo_0 : decode b_Sd_freeUpTo 0 = .ok (.iload_n 0, 1) := by decide +kernel
theorem d_Sd_freeUpTo_1 : decode b_Sd_freeUpTo 1 = .ok (.lookupswitch 32 #[(4, 27), (5, 29)], 27) := by decide +kernel
theorem d_Sd_freeUpTo_28 : decode b_Sd_freeUpTo 28 = .ok (.iconst 3, 1) := by decide +kernel
theorem d_Sd_freeUpTo_29 : decode b_Sd_freeUpTo 29 = .ok (.ireturn, 1) := by decide +kernel
theorem d_Sd_freeUpTo_30 : decode b_Sd_freeUpTo 30 = .ok (.bipush 20, 2) := by decide +kernel
theorem d_Sd_freeUpTo_32 : decode b_Sd_freeUpTo 32 = .ok (.ireturn, 1) := by decide +kernel
theorem d_Sd_freeUpTo_33 : decode b_Sd_freeUpTo 33 = .ok (.iconst 0, 1) := by decide +kernel
theorem d_Sd_freeUpTo_34 : decode b_Sd_freeUpTo 34 = .ok (.ireturn, 1) := by decide +kernel
