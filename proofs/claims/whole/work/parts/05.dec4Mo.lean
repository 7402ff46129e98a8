theorem d_Mo_init_0 : decode b_Mo_init 0 = .ok (.aload_n 0, 1) := by decide +kernel
theorem d_Mo_init_1 : decode b_Mo_init 1 = .ok (.invokespecial 1, 3) := by decide +kernel
theorem d_Mo_init_4 : decode b_Mo_init 4 = .ok (.aload_n 0, 1) := by decide +kernel
theorem d_Mo_init_5 : decode b_Mo_init 5 = .ok (.sipush 1551, 3) := by decide +kernel
theorem d_Mo_init_8 : decode b_Mo_init 8 = .ok (.newarray .int, 2) := by decide +kernel
theorem d_Mo_init_10 : decode b_Mo_init 10 = .ok (.putfield 7, 3) := by decide +kernel
theorem d_Mo_init_13 : decode b_Mo_init 13 = .ok (.aload_n 0, 1) := by decide +kernel
theorem d_Mo_init_14 : decode b_Mo_init 14 = .ok (.sipush 150, 3) := by decide +kernel
theorem d_Mo_init_17 : decode b_Mo_init 17 = .ok (.newarray .int, 2) := by decide +kernel
theorem d_Mo_init_19 : decode b_Mo_init 19 = .ok (.putfield 13, 3) := by decide +kernel
theorem d_Mo_init_22 : decode b_Mo_init 22 = .ok (.aload_n 0, 1) := by decide +kernel
theorem d_Mo_init_23 : decode b_Mo_init 23 = .ok (.iconst 2, 1) := by decide +kernel
theorem d_Mo_init_24 : decode b_Mo_init 24 = .ok (.newarray .boolean, 2) := by decide +kernel
theorem d_Mo_init_26 : decode b_Mo_init 26 = .ok (.putfield 16, 3) := by decide +kernel
theorem d_Mo_init_29 : decode b_Mo_init 29 = .ok (.aload_n 0, 1) := by decide +kernel
theorem d_Mo_init_30 : decode b_Mo_init 30 = .ok (.sipush 450, 3) := by decide +kernel
theorem d_Mo_init_33 : decode b_Mo_init 33 = .ok (.newarray .int, 2) := by decide +kernel
theorem d_Mo_init_35 : decode b_Mo_init 35 = .ok (.putfield 20, 3) := by decide +kernel
theorem d_Mo_init_38 : decode b_Mo_init 38 = .ok (.aload_n 0, 1) := by decide +kernel
theorem d_Mo_init_39 : decode b_Mo_init 39 = .ok (.sipush 756, 3) := by decide +kernel
theorem d_Mo_init_42 : decode b_Mo_init 42 = .ok (.newarray .boolean, 2) := by decide +kernel
theorem d_Mo_init_44 : decode b_Mo_init 44 = .ok (.putfield 23, 3) := by decide +kernel
theorem d_Mo_init_47 : decode b_Mo_init 47 = .ok (.aload_n 0, 1) := by decide +kernel
theorem d_Mo_init_48 : decode b_Mo_init 48 = .ok (.bipush 36, 2) := by decide +kernel
theorem d_Mo_init_50 : decode b_Mo_init 50 = .ok (.newarray .int, 2) := by decide +kernel
theorem d_Mo_init_52 : decode b_Mo_init 52 = .ok (.putfield 26, 3) := by decide +kernel
theorem d_Mo_init_55 : decode b_Mo_init 55 = .ok (.aload_n 0, 1) := by decide +kernel
theorem d_Mo_init_56 : decode b_Mo_init 56 = .ok (.bipush 36, 2) := by decide +kernel
theorem d_Mo_init_58 : decode b_Mo_init 58 = .ok (.newarray .int, 2) := by decide +kernel
theorem d_Mo_init_60 : decode b_Mo_init 60 = .ok (.putfield 29, 3) := by decide +kernel
theorem d_Mo_init_63 : decode b_Mo_init 63 = .ok (.aload_n 0, 1) := by decide +kernel
theorem d_Mo_init_64 : decode b_Mo_init 64 = .ok (.bipush 36, 2) := by decide +kernel
theorem d_Mo_init_66 : decode b_Mo_init 66 = .ok (.newarray .int, 2) := by decide +kernel
theorem d_Mo_init_68 : decode b_Mo_init 68 = .ok (.putfield 32, 3) := by decide +kernel
theorem d_Mo_init_71 : decode b_Mo_init 71 = .ok (.aload_n 0, 1) := by decide +kernel
theorem d_Mo_init_72 : decode b_Mo_init 72 = .ok (.bipush 36, 2) := by decide +kernel
theorem d_Mo_init_74 : decode b_Mo_init 74 = .ok (.newarray .int, 2) := by decide +kernel
theorem d_Mo_init_76 : decode b_Mo_init 76 = .ok (.putfield 35, 3) := by decide +kernel
theorem d_Mo_init_79 : decode b_Mo_init 79 = .ok (.aload_n 0, 1) := by decide +kernel
theorem d_Mo_init_80 : decode b_Mo_init 80 = .ok (.bipush 6, 2) := by decide +kernel
theorem d_Mo_init_82 : decode b_Mo_init 82 = .ok (.newarray .int, 2) := by decide +kernel
theorem d_Mo_init_84 : decode b_Mo_init 84 = .ok (.putfield 38, 3) := by decide +kernel
theorem d_Mo_init_87 : decode b_Mo_init 87 = .ok (.aload_n 0, 1) := by decide +kernel
theorem d_Mo_init_88 : decode b_Mo_init 88 = .ok (.bipush 6, 2) := by decide +kernel
theorem d_Mo_init_90 : decode b_Mo_init 90 = .ok (.newarray .int, 2) := by decide +kernel
theorem d_Mo_init_92 : decode b_Mo_init 92 = .ok (.putfield 41, 3) := by decide +kernel
theorem d_Mo_init_95 : decode b_Mo_init 95 = .ok (.aload_n 0, 1) := by decide +kernel
theorem d_Mo_init_96 : decode b_Mo_init 96 = .ok (.iconst 5, 1) := by decide +kernel
theorem d_Mo_init_97 : decode b_Mo_init 97 = .ok (.iconst 5, 1) := by decide +kernel
theorem d_Mo_init_98 : decode b_Mo_init 98 = .ok (.invokevirtual 44, 3) := by decide +kernel
theorem d_Mo_init_101 : decode b_Mo_init 101 = .ok (.return_, 1) := by decide +kernel
theorem d_Mo_in_0 : decode b_Mo_in 0 = .ok (.lload_n 0, 1) := by decide +kernel
theorem d_Mo_in_1 : decode b_Mo_in 1 = .ok (.lload_n 2, 1) := by decide +kernel
theorem d_Mo_in_2 : decode b_Mo_in 2 = .ok (.lcmp, 1) := by decide +kernel
theorem d_Mo_in_3 : decode b_Mo_in 3 = .ok (.ifCond .lt 14, 3) := by decide +kernel
theorem d_Mo_in_6 : decode b_Mo_in 6 = .ok (.lload_n 0, 1) := by decide +kernel
theorem d_Mo_in_7 : decode b_Mo_in 7 = .ok (.lload 4, 2) := by decide +kernel
theorem d_Mo_in_9 : decode b_Mo_in 9 = .ok (.lcmp, 1) := by decide +kernel
theorem d_Mo_in_10 : decode b_Mo_in 10 = .ok (.ifCond .gt 7, 3) := by decide +kernel
theorem d_Mo_in_13 : decode b_Mo_in 13 = .ok (.iconst 1, 1) := by decide +kernel
theorem d_Mo_in_14 : decode b_Mo_in 14 = .ok (.goto 4, 3) := by decide +kernel
theorem d_Mo_in_17 : decode b_Mo_in 17 = .ok (.iconst 0, 1) := by decide +kernel
theorem d_Mo_in_18 : decode b_Mo_in 18 = .ok (.ireturn, 1) := by decide +kernel
theorem d_Mo_has_0 : decode b_Mo_has 0 = .ok (.lload_n 0, 1) := by decide +kernel
theorem d_Mo_has_1 : decode b_Mo_has 1 = .ok (.iload_n 2, 1) := by decide +kernel
theorem d_Mo_has_2 : decode b_Mo_has 2 = .ok (.lshr, 1) := by decide +kernel
theorem d_Mo_has_3 : decode b_Mo_has 3 = .ok (.lconst 1, 1) := by decide +kernel
theorem d_Mo_has_4 : decode b_Mo_has 4 = .ok (.land, 1) := by decide +kernel
theorem d_Mo_has_5 : decode b_Mo_has 5 = .ok (.lconst 1, 1) := by decide +kernel
theorem d_Mo_has_6 : decode b_Mo_has 6 = .ok (.lcmp, 1) := by decide +kernel
theorem d_Mo_has_7 : decode b_Mo_has 7 = .ok (.ifCond .ne 7, 3) := by decide +kernel
theorem d_Mo_has_10 : decode b_Mo_has 10 = .ok (.iconst 1, 1) := by decide +kernel
theorem d_Mo_has_11 : decode b_Mo_has 11 = .ok (.goto 4, 3) := by decide +kernel
theorem d_Mo_has_14 : decode b_Mo_has 14 = .ok (.iconst 0, 1) := by decide +kernel
theorem d_Mo_has_15 : decode b_Mo_has 15 = .ok (.ireturn, 1) := by decide +kernel
theorem d_Mo_bits_0 : decode b_Mo_bits 0 = .ok (.iconst 0, 1) := by decide +kernel
theorem d_Mo_bits_1 : decode b_Mo_bits 1 = .ok (.istore_n 1, 1) := by decide +kernel
theorem d_Mo_bits_2 : decode b_Mo_bits 2 = .ok (.iconst 0, 1) := by decide +kernel
theorem d_Mo_bits_3 : decode b_Mo_bits 3 = .ok (.istore_n 2, 1) := by decide +kernel
theorem d_Mo_bits_4 : decode b_Mo_bits 4 = .ok (.iload_n 2, 1) := by decide +kernel
theorem d_Mo_bits_5 : decode b_Mo_bits 5 = .ok (.bipush 8, 2) := by decide +kernel
theorem d_Mo_bits_7 : decode b_Mo_bits 7 = .ok (.if_icmp .ge 17, 3) := by decide +kernel
theorem d_Mo_bits_10 : decode b_Mo_bits 10 = .ok (.iload_n 1, 1) := by decide +kernel
theorem d_Mo_bits_11 : decode b_Mo_bits 11 = .ok (.iload_n 0, 1) := by decide +kernel
theorem d_Mo_bits_12 : decode b_Mo_bits 12 = .ok (.iload_n 2, 1) := by decide +kernel
theorem d_Mo_bits_13 : decode b_Mo_bits 13 = .ok (.ishr, 1) := by decide +kernel
theorem d_Mo_bits_14 : decode b_Mo_bits 14 = .ok (.iconst 1, 1) := by decide +kernel
theorem d_Mo_bits_15 : decode b_Mo_bits 15 = .ok (.iand, 1) := by decide +kernel
theorem d_Mo_bits_16 : decode b_Mo_bits 16 = .ok (.iadd, 1) := by decide +kernel
theorem d_Mo_bits_17 : decode b_Mo_bits 17 = .ok (.istore_n 1, 1) := by decide +kernel
theorem d_Mo_bits_18 : decode b_Mo_bits 18 = .ok (.iinc 2 1, 3) := by decide +kernel
theorem d_Mo_bits_21 : decode b_Mo_bits 21 = .ok (.goto (-17), 3) := by decide +kernel
theorem d_Mo_bits_24 : decode b_Mo_bits 24 = .ok (.iload_n 1, 1) := by decide +kernel
theorem d_Mo_bits_25 : decode b_Mo_bits 25 = .ok (.ireturn, 1) := by decide +kernel
theorem d_Mo_isBad_0 : decode b_Mo_isBad 0 = .ok (.aload_n 0, 1) := by decide +kernel
theorem d_Mo_isBad_1 : decode b_Mo_isBad 1 = .ok (.dup, 1) := by decide +kernel
theorem d_Mo_isBad_2 : decode b_Mo_isBad 2 = .ok (.getfield 48, 3) := by decide +kernel
theorem d_Mo_isBad_5 : decode b_Mo_isBad 5 = .ok (.iconst 1, 1) := by decide +kernel
theorem d_Mo_isBad_6 : decode b_Mo_isBad 6 = .ok (.iadd, 1) := by decide +kernel
theorem d_Mo_isBad_7 : decode b_Mo_isBad 7 = .ok (.putfield 48, 3) := by decide +kernel
theorem d_Mo_isBad_10 : decode b_Mo_isBad 10 = .ok (.bipush (-2), 2) := by decide +kernel
theorem d_Mo_isBad_12 : decode b_Mo_isBad 12 = .ok (.ireturn, 1) := by decide +kernel
theorem d_Mo_isBadToo_0 : decode b_Mo_isBadToo 0 = .ok (.aload_n 0, 1) := by decide +kernel
theorem d_Mo_isBadToo_1 : decode b_Mo_isBadToo 1 = .ok (.dup, 1) := by decide +kernel
theorem d_Mo_isBadToo_2 : decode b_Mo_isBadToo 2 = .ok (.getfield 48, 3) := by decide +kernel
theorem d_Mo_isBadToo_5 : decode b_Mo_isBadToo 5 = .ok (.iconst 1, 1) := by decide +kernel
theorem d_Mo_isBadToo_6 : decode b_Mo_isBadToo 6 = .ok (.iadd, 1) := by decide +kernel
theorem d_Mo_isBadToo_7 : decode b_Mo_isBadToo 7 = .ok (.putfield 48, 3) := by decide +kernel
theorem d_Mo_isBadToo_10 : decode b_Mo_isBadToo 10 = .ok (.bipush (-10), 2) := by decide +kernel
theorem d_Mo_isBadToo_12 : decode b_Mo_isBadToo 12 = .ok (.ireturn, 1) := by decide +kernel
theorem d_Mo_isNo_0 : decode b_Mo_isNo 0 = .ok (.aload_n 0, 1) := by decide +kernel
theorem d_Mo_isNo_1 : decode b_Mo_isNo 1 = .ok (.dup, 1) := by decide +kernel
theorem d_Mo_isNo_2 : decode b_Mo_isNo 2 = .ok (.getfield 52, 3) := by decide +kernel
theorem d_Mo_isNo_5 : decode b_Mo_isNo 5 = .ok (.iconst 1, 1) := by decide +kernel
theorem d_Mo_isNo_6 : decode b_Mo_isNo 6 = .ok (.iadd, 1) := by decide +kernel
theorem d_Mo_isNo_7 : decode b_Mo_isNo 7 = .ok (.putfield 52, 3) := by decide +kernel
theorem d_Mo_isNo_10 : decode b_Mo_isNo 10 = .ok (.iload_n 1, 1) := by decide +kernel
theorem d_Mo_isNo_11 : decode b_Mo_isNo 11 = .ok (.ireturn, 1) := by decide +kernel
theorem d_Mo_isFull_0 : decode b_Mo_isFull 0 = .ok (.aload_n 0, 1) := by decide +kernel
theorem d_Mo_isFull_1 : decode b_Mo_isFull 1 = .ok (.dup, 1) := by decide +kernel
theorem d_Mo_isFull_2 : decode b_Mo_isFull 2 = .ok (.getfield 55, 3) := by decide +kernel
theorem d_Mo_isFull_5 : decode b_Mo_isFull 5 = .ok (.iconst 1, 1) := by decide +kernel
theorem d_Mo_isFull_6 : decode b_Mo_isFull 6 = .ok (.iadd, 1) := by decide +kernel
theorem d_Mo_isFull_7 : decode b_Mo_isFull 7 = .ok (.putfield 55, 3) := by decide +kernel
theorem d_Mo_isFull_10 : decode b_Mo_isFull 10 = .ok (.bipush (-4), 2) := by decide +kernel
theorem d_Mo_isFull_12 : decode b_Mo_isFull 12 = .ok (.ireturn, 1) := by decide +kernel
theorem d_Mo_cells_0 : decode b_Mo_cells 0 = .ok (.aload_n 0, 1) := by decide +kernel
theorem d_Mo_cells_1 : decode b_Mo_cells 1 = .ok (.getfield 7, 3) := by decide +kernel
theorem d_Mo_cells_4 : decode b_Mo_cells 4 = .ok (.iconst 0, 1) := by decide +kernel
theorem d_Mo_cells_5 : decode b_Mo_cells 5 = .ok (.iaload, 1) := by decide +kernel
theorem d_Mo_cells_6 : decode b_Mo_cells 6 = .ok (.aload_n 0, 1) := by decide +kernel
theorem d_Mo_cells_7 : decode b_Mo_cells 7 = .ok (.getfield 7, 3) := by decide +kernel
theorem d_Mo_cells_10 : decode b_Mo_cells 10 = .ok (.iconst 1, 1) := by decide +kernel
theorem d_Mo_cells_11 : decode b_Mo_cells 11 = .ok (.iaload, 1) := by decide +kernel
theorem d_Mo_cells_12 : decode b_Mo_cells 12 = .ok (.imul, 1) := by decide +kernel
theorem d_Mo_cells_13 : decode b_Mo_cells 13 = .ok (.ireturn, 1) := by decide +kernel
theorem d_Mo_isCell_0 : decode b_Mo_isCell 0 = .ok (.iload_n 1, 1) := by decide +kernel
theorem d_Mo_isCell_1 : decode b_Mo_isCell 1 = .ok (.i2l, 1) := by decide +kernel
theorem d_Mo_isCell_2 : decode b_Mo_isCell 2 = .ok (.lconst 0, 1) := by decide +kernel
theorem d_Mo_isCell_3 : decode b_Mo_isCell 3 = .ok (.aload_n 0, 1) := by decide +kernel
theorem d_Mo_isCell_4 : decode b_Mo_isCell 4 = .ok (.invokevirtual 58, 3) := by decide +kernel
theorem d_Mo_isCell_7 : decode b_Mo_isCell 7 = .ok (.iconst 1, 1) := by decide +kernel
theorem d_Mo_isCell_8 : decode b_Mo_isCell 8 = .ok (.isub, 1) := by decide +kernel
theorem d_Mo_isCell_9 : decode b_Mo_isCell 9 = .ok (.i2l, 1) := by decide +kernel
theorem d_Mo_isCell_10 : decode b_Mo_isCell 10 = .ok (.invokestatic 62, 3) := by decide +kernel
theorem d_Mo_isCell_13 : decode b_Mo_isCell 13 = .ok (.ireturn, 1) := by decide +kernel
theorem d_Mo_isOwner_0 : decode b_Mo_isOwner 0 = .ok (.iload_n 0, 1) := by decide +kernel
theorem d_Mo_isOwner_1 : decode b_Mo_isOwner 1 = .ok (.i2l, 1) := by decide +kernel
theorem d_Mo_isOwner_2 : decode b_Mo_isOwner 2 = .ok (.lconst 0, 1) := by decide +kernel
theorem d_Mo_isOwner_3 : decode b_Mo_isOwner 3 = .ok (.ldc2_w 66, 3) := by decide +kernel
theorem d_Mo_isOwner_6 : decode b_Mo_isOwner 6 = .ok (.invokestatic 62, 3) := by decide +kernel
theorem d_Mo_isOwner_9 : decode b_Mo_isOwner 9 = .ok (.ireturn, 1) := by decide +kernel
theorem d_Mo_isMaker_0 : decode b_Mo_isMaker 0 = .ok (.iload_n 1, 1) := by decide +kernel
theorem d_Mo_isMaker_1 : decode b_Mo_isMaker 1 = .ok (.i2l, 1) := by decide +kernel
theorem d_Mo_isMaker_2 : decode b_Mo_isMaker 2 = .ok (.lconst 0, 1) := by decide +kernel
theorem d_Mo_isMaker_3 : decode b_Mo_isMaker 3 = .ok (.aload_n 0, 1) := by decide +kernel
theorem d_Mo_isMaker_4 : decode b_Mo_isMaker 4 = .ok (.getfield 7, 3) := by decide +kernel
theorem d_Mo_isMaker_7 : decode b_Mo_isMaker 7 = .ok (.bipush 122, 2) := by decide +kernel
theorem d_Mo_isMaker_9 : decode b_Mo_isMaker 9 = .ok (.iaload, 1) := by decide +kernel
theorem d_Mo_isMaker_10 : decode b_Mo_isMaker 10 = .ok (.iconst 1, 1) := by decide +kernel
theorem d_Mo_isMaker_11 : decode b_Mo_isMaker 11 = .ok (.isub, 1) := by decide +kernel
theorem d_Mo_isMaker_12 : decode b_Mo_isMaker 12 = .ok (.i2l, 1) := by decide +kernel
theorem d_Mo_isMaker_13 : decode b_Mo_isMaker 13 = .ok (.invokestatic 62, 3) := by decide +kernel
theorem d_Mo_isMaker_16 : decode b_Mo_isMaker 16 = .ok (.ireturn, 1) := by decide +kernel
theorem d_Mo_isLoud_0 : decode b_Mo_isLoud 0 = .ok (.iload_n 0, 1) := by decide +kernel
theorem d_Mo_isLoud_1 : decode b_Mo_isLoud 1 = .ok (.i2l, 1) := by decide +kernel
theorem d_Mo_isLoud_2 : decode b_Mo_isLoud 2 = .ok (.lconst 1, 1) := by decide +kernel
theorem d_Mo_isLoud_3 : decode b_Mo_isLoud 3 = .ok (.ldc2_w 68, 3) := by decide +kernel
theorem d_Mo_isLoud_6 : decode b_Mo_isLoud 6 = .ok (.invokestatic 62, 3) := by decide +kernel
theorem d_Mo_isLoud_9 : decode b_Mo_isLoud 9 = .ok (.ireturn, 1) := by decide +kernel
theorem d_Mo_isHour_0 : decode b_Mo_isHour 0 = .ok (.iload_n 0, 1) := by decide +kernel
theorem d_Mo_isHour_1 : decode b_Mo_isHour 1 = .ok (.i2l, 1) := by decide +kernel
theorem d_Mo_isHour_2 : decode b_Mo_isHour 2 = .ok (.lconst 0, 1) := by decide +kernel
theorem d_Mo_isHour_3 : decode b_Mo_isHour 3 = .ok (.ldc2_w 70, 3) := by decide +kernel
theorem d_Mo_isHour_6 : decode b_Mo_isHour 6 = .ok (.invokestatic 62, 3) := by decide +kernel
theorem d_Mo_isHour_9 : decode b_Mo_isHour 9 = .ok (.ireturn, 1) := by decide +kernel
theorem d_Mo_isSound_0 : decode b_Mo_isSound 0 = .ok (.aload_n 0, 1) := by decide +kernel
theorem d_Mo_isSound_1 : decode b_Mo_isSound 1 = .ok (.iload_n 1, 1) := by decide +kernel
theorem d_Mo_isSound_2 : decode b_Mo_isSound 2 = .ok (.invokevirtual 72, 3) := by decide +kernel
theorem d_Mo_isSound_5 : decode b_Mo_isSound 5 = .ok (.ifCond .eq 21, 3) := by decide +kernel
theorem d_Mo_isSound_8 : decode b_Mo_isSound 8 = .ok (.iload_n 2, 1) := by decide +kernel
theorem d_Mo_isSound_9 : decode b_Mo_isSound 9 = .ok (.invokestatic 76, 3) := by decide +kernel
theorem d_Mo_isSound_12 : decode b_Mo_isSound 12 = .ok (.ifCond .eq 14, 3) := by decide +kernel
theorem d_Mo_isSound_15 : decode b_Mo_isSound 15 = .ok (.iload_n 3, 1) := by decide +kernel
theorem d_Mo_isSound_16 : decode b_Mo_isSound 16 = .ok (.invokestatic 79, 3) := by decide +kernel
theorem d_Mo_isSound_19 : decode b_Mo_isSound 19 = .ok (.ifCond .eq 7, 3) := by decide +kernel
theorem d_Mo_isSound_22 : decode b_Mo_isSound 22 = .ok (.iconst 1, 1) := by decide +kernel
theorem d_Mo_isSound_23 : decode b_Mo_isSound 23 = .ok (.goto 4, 3) := by decide +kernel
theorem d_Mo_isSound_26 : decode b_Mo_isSound 26 = .ok (.iconst 0, 1) := by decide +kernel
theorem d_Mo_isSound_27 : decode b_Mo_isSound 27 = .ok (.ireturn, 1) := by decide +kernel
theorem d_Mo_begin_0 : decode b_Mo_begin 0 = .ok (.iconst 0, 1) := by decide +kernel
theorem d_Mo_begin_1 : decode b_Mo_begin 1 = .ok (.istore_n 3, 1) := by decide +kernel
theorem d_Mo_begin_2 : decode b_Mo_begin 2 = .ok (.iload_n 3, 1) := by decide +kernel
theorem d_Mo_begin_3 : decode b_Mo_begin 3 = .ok (.sipush 517, 3) := by decide +kernel
theorem d_Mo_begin_6 : decode b_Mo_begin 6 = .ok (.if_icmp .ge 52, 3) := by decide +kernel
theorem d_Mo_begin_9 : decode b_Mo_begin 9 = .ok (.aload_n 0, 1) := by decide +kernel
theorem d_Mo_begin_10 : decode b_Mo_begin 10 = .ok (.getfield 7, 3) := by decide +kernel
theorem d_Mo_begin_13 : decode b_Mo_begin 13 = .ok (.iload_n 3, 1) := by decide +kernel
theorem d_Mo_begin_14 : decode b_Mo_begin 14 = .ok (.iload_n 3, 1) := by decide +kernel
theorem d_Mo_begin_15 : decode b_Mo_begin 15 = .ok (.i2l, 1) := by decide +kernel
theorem d_Mo_begin_16 : decode b_Mo_begin 16 = .ok (.ldc2_w 82, 3) := by decide +kernel
theorem d_Mo_begin_19 : decode b_Mo_begin 19 = .ok (.ldc2_w 84, 3) := by decide +kernel
theorem d_Mo_begin_22 : decode b_Mo_begin 22 = .ok (.invokestatic 62, 3) := by decide +kernel
theorem d_Mo_begin_25 : decode b_Mo_begin 25 = .ok (.ifCond .eq 7, 3) := by decide +kernel
theorem d_Mo_begin_28 : decode b_Mo_begin 28 = .ok (.iconst 1, 1) := by decide +kernel
theorem d_Mo_begin_29 : decode b_Mo_begin 29 = .ok (.goto 22, 3) := by decide +kernel
theorem d_Mo_begin_32 : decode b_Mo_begin 32 = .ok (.iload_n 3, 1) := by decide +kernel
theorem d_Mo_begin_33 : decode b_Mo_begin 33 = .ok (.i2l, 1) := by decide +kernel
theorem d_Mo_begin_34 : decode b_Mo_begin 34 = .ok (.ldc2_w 86, 3) := by decide +kernel
theorem d_Mo_begin_37 : decode b_Mo_begin 37 = .ok (.ldc2_w 88, 3) := by decide +kernel
theorem d_Mo_begin_40 : decode b_Mo_begin 40 = .ok (.invokestatic 62, 3) := by decide +kernel
theorem d_Mo_begin_43 : decode b_Mo_begin 43 = .ok (.ifCond .eq 7, 3) := by decide +kernel
theorem d_Mo_begin_46 : decode b_Mo_begin 46 = .ok (.iconst (-1), 1) := by decide +kernel
theorem d_Mo_begin_47 : decode b_Mo_begin 47 = .ok (.goto 4, 3) := by decide +kernel
theorem d_Mo_begin_50 : decode b_Mo_begin 50 = .ok (.iconst 0, 1) := by decide +kernel
theorem d_Mo_begin_51 : decode b_Mo_begin 51 = .ok (.iastore, 1) := by decide +kernel
theorem d_Mo_begin_52 : decode b_Mo_begin 52 = .ok (.iinc 3 1, 3) := by decide +kernel
theorem d_Mo_begin_55 : decode b_Mo_begin 55 = .ok (.goto (-53), 3) := by decide +kernel
theorem d_Mo_begin_58 : decode b_Mo_begin 58 = .ok (.aload_n 0, 1) := by decide +kernel
theorem d_Mo_begin_59 : decode b_Mo_begin 59 = .ok (.getfield 7, 3) := by decide +kernel
theorem d_Mo_begin_62 : decode b_Mo_begin 62 = .ok (.iconst 0, 1) := by decide +kernel
theorem d_Mo_begin_63 : decode b_Mo_begin 63 = .ok (.iload_n 1, 1) := by decide +kernel
theorem d_Mo_begin_64 : decode b_Mo_begin 64 = .ok (.iastore, 1) := by decide +kernel
theorem d_Mo_begin_65 : decode b_Mo_begin 65 = .ok (.aload_n 0, 1) := by decide +kernel
theorem d_Mo_begin_66 : decode b_Mo_begin 66 = .ok (.getfield 7, 3) := by decide +kernel
theorem d_Mo_begin_69 : decode b_Mo_begin 69 = .ok (.iconst 1, 1) := by decide +kernel
theorem d_Mo_begin_70 : decode b_Mo_begin 70 = .ok (.iload_n 2, 1) := by decide +kernel
theorem d_Mo_begin_71 : decode b_Mo_begin 71 = .ok (.iastore, 1) := by decide +kernel
theorem d_Mo_begin_72 : decode b_Mo_begin 72 = .ok (.return_, 1) := by decide +kernel
theorem d_Mo_valley_0 : decode b_Mo_valley 0 = .ok (.iload_n 1, 1) := by decide +kernel
theorem d_Mo_valley_1 : decode b_Mo_valley 1 = .ok (.i2l, 1) := by decide +kernel
theorem d_Mo_valley_2 : decode b_Mo_valley 2 = .ok (.lconst 1, 1) := by decide +kernel
theorem d_Mo_valley_3 : decode b_Mo_valley 3 = .ok (.ldc2_w 90, 3) := by decide +kernel
theorem d_Mo_valley_6 : decode b_Mo_valley 6 = .ok (.invokestatic 62, 3) := by decide +kernel
theorem d_Mo_valley_9 : decode b_Mo_valley 9 = .ok (.ifCond .eq 15, 3) := by decide +kernel
theorem d_Mo_valley_12 : decode b_Mo_valley 12 = .ok (.iload_n 2, 1) := by decide +kernel
theorem d_Mo_valley_13 : decode b_Mo_valley 13 = .ok (.i2l, 1) := by decide +kernel
theorem d_Mo_valley_14 : decode b_Mo_valley 14 = .ok (.lconst 1, 1) := by decide +kernel
theorem d_Mo_valley_15 : decode b_Mo_valley 15 = .ok (.ldc2_w 90, 3) := by decide +kernel
theorem d_Mo_valley_18 : decode b_Mo_valley 18 = .ok (.invokestatic 62, 3) := by decide +kernel
theorem d_Mo_valley_21 : decode b_Mo_valley 21 = .ok (.ifCond .ne 8, 3) := by decide +kernel
theorem d_Mo_valley_24 : decode b_Mo_valley 24 = .ok (.aload_n 0, 1) := by decide +kernel
theorem d_Mo_valley_25 : decode b_Mo_valley 25 = .ok (.invokevirtual 92, 3) := by decide +kernel
theorem d_Mo_valley_28 : decode b_Mo_valley 28 = .ok (.ireturn, 1) := by decide +kernel
theorem d_Mo_valley_29 : decode b_Mo_valley 29 = .ok (.aload_n 0, 1) := by decide +kernel
theorem d_Mo_valley_30 : decode b_Mo_valley 30 = .ok (.iload_n 1, 1) := by decide +kernel
theorem d_Mo_valley_31 : decode b_Mo_valley 31 = .ok (.iload_n 2, 1) := by decide +kernel
theorem d_Mo_valley_32 : decode b_Mo_valley 32 = .ok (.invokevirtual 44, 3) := by decide +kernel
theorem d_Mo_valley_35 : decode b_Mo_valley 35 = .ok (.iconst 1, 1) := by decide +kernel
theorem d_Mo_valley_36 : decode b_Mo_valley 36 = .ok (.ireturn, 1) := by decide +kernel
theorem d_Mo_put_0 : decode b_Mo_put 0 = .ok (.iload_n 1, 1) := by decide +kernel
theorem d_Mo_put_1 : decode b_Mo_put 1 = .ok (.i2l, 1) := by decide +kernel
theorem d_Mo_put_2 : decode b_Mo_put 2 = .ok (.lconst 0, 1) := by decide +kernel
theorem d_Mo_put_3 : decode b_Mo_put 3 = .ok (.lconst 1, 1) := by decide +kernel
theorem d_Mo_put_4 : decode b_Mo_put 4 = .ok (.invokestatic 62, 3) := by decide +kernel
theorem d_Mo_put_7 : decode b_Mo_put 7 = .ok (.ifCond .eq 33, 3) := by decide +kernel
theorem d_Mo_put_10 : decode b_Mo_put 10 = .ok (.aload_n 0, 1) := by decide +kernel
theorem d_Mo_put_11 : decode b_Mo_put 11 = .ok (.iload_n 2, 1) := by decide +kernel
theorem d_Mo_put_12 : decode b_Mo_put 12 = .ok (.invokevirtual 95, 3) := by decide +kernel
theorem d_Mo_put_15 : decode b_Mo_put 15 = .ok (.ifCond .eq 25, 3) := by decide +kernel
theorem d_Mo_put_18 : decode b_Mo_put 18 = .ok (.iload_n 3, 1) := by decide +kernel
theorem d_Mo_put_19 : decode b_Mo_put 19 = .ok (.i2l, 1) := by decide +kernel
theorem d_Mo_put_20 : decode b_Mo_put 20 = .ok (.lconst 0, 1) := by decide +kernel
theorem d_Mo_put_21 : decode b_Mo_put 21 = .ok (.iload_n 1, 1) := by decide +kernel
theorem d_Mo_put_22 : decode b_Mo_put 22 = .ok (.ifCond .ne 9, 3) := by decide +kernel
theorem d_Mo_put_25 : decode b_Mo_put 25 = .ok (.ldc2_w 98, 3) := by decide +kernel
theorem d_Mo_put_28 : decode b_Mo_put 28 = .ok (.goto 6, 3) := by decide +kernel
theorem d_Mo_put_31 : decode b_Mo_put 31 = .ok (.ldc2_w 66, 3) := by decide +kernel
theorem d_Mo_put_34 : decode b_Mo_put 34 = .ok (.invokestatic 62, 3) := by decide +kernel
theorem d_Mo_put_37 : decode b_Mo_put 37 = .ok (.ifCond .ne 8, 3) := by decide +kernel
theorem d_Mo_put_40 : decode b_Mo_put 40 = .ok (.aload_n 0, 1) := by decide +kernel
theorem d_Mo_put_41 : decode b_Mo_put 41 = .ok (.invokevirtual 92, 3) := by decide +kernel
theorem d_Mo_put_44 : decode b_Mo_put 44 = .ok (.ireturn, 1) := by decide +kernel
theorem d_Mo_put_45 : decode b_Mo_put 45 = .ok (.iload_n 1, 1) := by decide +kernel
theorem d_Mo_put_46 : decode b_Mo_put 46 = .ok (.ifCond .ne 7, 3) := by decide +kernel
theorem d_Mo_put_49 : decode b_Mo_put 49 = .ok (.iconst 2, 1) := by decide +kernel
theorem d_Mo_put_50 : decode b_Mo_put 50 = .ok (.goto 5, 3) := by decide +kernel
theorem d_Mo_put_53 : decode b_Mo_put 53 = .ok (.bipush 38, 2) := by decide +kernel
theorem d_Mo_put_55 : decode b_Mo_put 55 = .ok (.iload_n 2, 1) := by decide +kernel
theorem d_Mo_put_56 : decode b_Mo_put 56 = .ok (.iadd, 1) := by decide +kernel
theorem d_Mo_put_57 : decode b_Mo_put 57 = .ok (.istore 4, 2) := by decide +kernel
theorem d_Mo_put_59 : decode b_Mo_put 59 = .ok (.aload_n 0, 1) := by decide +kernel
theorem d_Mo_put_60 : decode b_Mo_put 60 = .ok (.getfield 7, 3) := by decide +kernel
theorem d_Mo_put_63 : decode b_Mo_put 63 = .ok (.iload 4, 2) := by decide +kernel
theorem d_Mo_put_65 : decode b_Mo_put 65 = .ok (.iaload, 1) := by decide +kernel
theorem d_Mo_put_66 : decode b_Mo_put 66 = .ok (.istore 5, 2) := by decide +kernel
theorem d_Mo_put_68 : decode b_Mo_put 68 = .ok (.aload_n 0, 1) := by decide +kernel
theorem d_Mo_put_69 : decode b_Mo_put 69 = .ok (.getfield 7, 3) := by decide +kernel
theorem d_Mo_put_72 : decode b_Mo_put 72 = .ok (.iload 4, 2) := by decide +kernel
theorem d_Mo_put_74 : decode b_Mo_put 74 = .ok (.iload_n 3, 1) := by decide +kernel
theorem d_Mo_put_75 : decode b_Mo_put 75 = .ok (.iastore, 1) := by decide +kernel
theorem d_Mo_put_76 : decode b_Mo_put 76 = .ok (.iload 5, 2) := by decide +kernel
theorem d_Mo_put_78 : decode b_Mo_put 78 = .ok (.ireturn, 1) := by decide +kernel
theorem d_Mo_fee_0 : decode b_Mo_fee 0 = .ok (.iload_n 1, 1) := by decide +kernel
theorem d_Mo_fee_1 : decode b_Mo_fee 1 = .ok (.invokestatic 100, 3) := by decide +kernel
theorem d_Mo_fee_4 : decode b_Mo_fee 4 = .ok (.ifCond .eq 15, 3) := by decide +kernel
theorem d_Mo_fee_7 : decode b_Mo_fee 7 = .ok (.iload_n 2, 1) := by decide +kernel
theorem d_Mo_fee_8 : decode b_Mo_fee 8 = .ok (.i2l, 1) := by decide +kernel
theorem d_Mo_fee_9 : decode b_Mo_fee 9 = .ok (.lconst 0, 1) := by decide +kernel
theorem d_Mo_fee_10 : decode b_Mo_fee 10 = .ok (.ldc2_w 103, 3) := by decide +kernel
theorem d_Mo_fee_13 : decode b_Mo_fee 13 = .ok (.invokestatic 62, 3) := by decide +kernel
theorem d_Mo_fee_16 : decode b_Mo_fee 16 = .ok (.ifCond .ne 8, 3) := by decide +kernel
theorem d_Mo_fee_19 : decode b_Mo_fee 19 = .ok (.aload_n 0, 1) := by decide +kernel
theorem d_Mo_fee_20 : decode b_Mo_fee 20 = .ok (.invokevirtual 92, 3) := by decide +kernel
theorem d_Mo_fee_23 : decode b_Mo_fee 23 = .ok (.ireturn, 1) := by decide +kernel
theorem d_Mo_fee_24 : decode b_Mo_fee 24 = .ok (.aload_n 0, 1) := by decide +kernel
theorem d_Mo_fee_25 : decode b_Mo_fee 25 = .ok (.getfield 7, 3) := by decide +kernel
theorem d_Mo_fee_28 : decode b_Mo_fee 28 = .ok (.bipush 110, 2) := by decide +kernel
theorem d_Mo_fee_30 : decode b_Mo_fee 30 = .ok (.iload_n 1, 1) := by decide +kernel
theorem d_Mo_fee_31 : decode b_Mo_fee 31 = .ok (.iadd, 1) := by decide +kernel
theorem d_Mo_fee_32 : decode b_Mo_fee 32 = .ok (.iaload, 1) := by decide +kernel
theorem d_Mo_fee_33 : decode b_Mo_fee 33 = .ok (.istore_n 3, 1) := by decide +kernel
theorem d_Mo_fee_34 : decode b_Mo_fee 34 = .ok (.aload_n 0, 1) := by decide +kernel
theorem d_Mo_fee_35 : decode b_Mo_fee 35 = .ok (.getfield 7, 3) := by decide +kernel
theorem d_Mo_fee_38 : decode b_Mo_fee 38 = .ok (.bipush 110, 2) := by decide +kernel
theorem d_Mo_fee_40 : decode b_Mo_fee 40 = .ok (.iload_n 1, 1) := by decide +kernel
theorem d_Mo_fee_41 : decode b_Mo_fee 41 = .ok (.iadd, 1) := by decide +kernel
theorem d_Mo_fee_42 : decode b_Mo_fee 42 = .ok (.iload_n 2, 1) := by decide +kernel
theorem d_Mo_fee_43 : decode b_Mo_fee 43 = .ok (.iastore, 1) := by decide +kernel
theorem d_Mo_fee_44 : decode b_Mo_fee 44 = .ok (.iload_n 3, 1) := by decide +kernel
theorem d_Mo_fee_45 : decode b_Mo_fee 45 = .ok (.ireturn, 1) := by decide +kernel
theorem d_Mo_addMaker_0 : decode b_Mo_addMaker 0 = .ok (.bipush 123, 2) := by decide +kernel
theorem d_Mo_addMaker_2 : decode b_Mo_addMaker 2 = .ok (.iconst 4, 1) := by decide +kernel
theorem d_Mo_addMaker_3 : decode b_Mo_addMaker 3 = .ok (.aload_n 0, 1) := by decide +kernel
theorem d_Mo_addMaker_4 : decode b_Mo_addMaker 4 = .ok (.getfield 7, 3) := by decide +kernel
theorem d_Mo_addMaker_7 : decode b_Mo_addMaker 7 = .ok (.bipush 122, 2) := by decide +kernel
theorem d_Mo_addMaker_9 : decode b_Mo_addMaker 9 = .ok (.iaload, 1) := by decide +kernel
theorem d_Mo_addMaker_10 : decode b_Mo_addMaker 10 = .ok (.imul, 1) := by decide +kernel
theorem d_Mo_addMaker_11 : decode b_Mo_addMaker 11 = .ok (.iadd, 1) := by decide +kernel
theorem d_Mo_addMaker_12 : decode b_Mo_addMaker 12 = .ok (.istore 4, 2) := by decide +kernel
theorem d_Mo_addMaker_14 : decode b_Mo_addMaker 14 = .ok (.aload_n 0, 1) := by decide +kernel
theorem d_Mo_addMaker_15 : decode b_Mo_addMaker 15 = .ok (.getfield 7, 3) := by decide +kernel
theorem d_Mo_addMaker_18 : decode b_Mo_addMaker 18 = .ok (.iload 4, 2) := by decide +kernel
theorem d_Mo_addMaker_20 : decode b_Mo_addMaker 20 = .ok (.iload_n 1, 1) := by decide +kernel
theorem d_Mo_addMaker_21 : decode b_Mo_addMaker 21 = .ok (.iastore, 1) := by decide +kernel
theorem d_Mo_addMaker_22 : decode b_Mo_addMaker 22 = .ok (.aload_n 0, 1) := by decide +kernel
theorem d_Mo_addMaker_23 : decode b_Mo_addMaker 23 = .ok (.getfield 7, 3) := by decide +kernel
theorem d_Mo_addMaker_26 : decode b_Mo_addMaker 26 = .ok (.iload 4, 2) := by decide +kernel
theorem d_Mo_addMaker_28 : decode b_Mo_addMaker 28 = .ok (.iconst 1, 1) := by decide +kernel
theorem d_Mo_addMaker_29 : decode b_Mo_addMaker 29 = .ok (.iadd, 1) := by decide +kernel
theorem d_Mo_addMaker_30 : decode b_Mo_addMaker 30 = .ok (.iload_n 2, 1) := by decide +kernel
theorem d_Mo_addMaker_31 : decode b_Mo_addMaker 31 = .ok (.iastore, 1) := by decide +kernel
theorem d_Mo_addMaker_32 : decode b_Mo_addMaker 32 = .ok (.aload_n 0, 1) := by decide +kernel
theorem d_Mo_addMaker_33 : decode b_Mo_addMaker 33 = .ok (.getfield 7, 3) := by decide +kernel
theorem d_Mo_addMaker_36 : decode b_Mo_addMaker 36 = .ok (.iload 4, 2) := by decide +kernel
theorem d_Mo_addMaker_38 : decode b_Mo_addMaker 38 = .ok (.iconst 2, 1) := by decide +kernel
theorem d_Mo_addMaker_39 : decode b_Mo_addMaker 39 = .ok (.iadd, 1) := by decide +kernel
theorem d_Mo_addMaker_40 : decode b_Mo_addMaker 40 = .ok (.iload_n 3, 1) := by decide +kernel
theorem d_Mo_addMaker_41 : decode b_Mo_addMaker 41 = .ok (.iastore, 1) := by decide +kernel
theorem d_Mo_addMaker_42 : decode b_Mo_addMaker 42 = .ok (.aload_n 0, 1) := by decide +kernel
theorem d_Mo_addMaker_43 : decode b_Mo_addMaker 43 = .ok (.getfield 7, 3) := by decide +kernel
theorem d_Mo_addMaker_46 : decode b_Mo_addMaker 46 = .ok (.iload 4, 2) := by decide +kernel
theorem d_Mo_addMaker_48 : decode b_Mo_addMaker 48 = .ok (.iconst 3, 1) := by decide +kernel
theorem d_Mo_addMaker_49 : decode b_Mo_addMaker 49 = .ok (.iadd, 1) := by decide +kernel
theorem d_Mo_addMaker_50 : decode b_Mo_addMaker 50 = .ok (.iconst 5, 1) := by decide +kernel
theorem d_Mo_addMaker_51 : decode b_Mo_addMaker 51 = .ok (.iastore, 1) := by decide +kernel
theorem d_Mo_addMaker_52 : decode b_Mo_addMaker 52 = .ok (.aload_n 0, 1) := by decide +kernel
theorem d_Mo_addMaker_53 : decode b_Mo_addMaker 53 = .ok (.getfield 7, 3) := by decide +kernel
theorem d_Mo_addMaker_56 : decode b_Mo_addMaker 56 = .ok (.bipush 122, 2) := by decide +kernel
theorem d_Mo_addMaker_58 : decode b_Mo_addMaker 58 = .ok (.dup2, 1) := by decide +kernel
theorem d_Mo_addMaker_59 : decode b_Mo_addMaker 59 = .ok (.iaload, 1) := by decide +kernel
theorem d_Mo_addMaker_60 : decode b_Mo_addMaker 60 = .ok (.iconst 1, 1) := by decide +kernel
theorem d_Mo_addMaker_61 : decode b_Mo_addMaker 61 = .ok (.iadd, 1) := by decide +kernel
theorem d_Mo_addMaker_62 : decode b_Mo_addMaker 62 = .ok (.iastore, 1) := by decide +kernel
theorem d_Mo_addMaker_63 : decode b_Mo_addMaker 63 = .ok (.aload_n 0, 1) := by decide +kernel
theorem d_Mo_addMaker_64 : decode b_Mo_addMaker 64 = .ok (.getfield 7, 3) := by decide +kernel
theorem d_Mo_addMaker_67 : decode b_Mo_addMaker 67 = .ok (.bipush 122, 2) := by decide +kernel
theorem d_Mo_addMaker_69 : decode b_Mo_addMaker 69 = .ok (.iaload, 1) := by decide +kernel
theorem d_Mo_addMaker_70 : decode b_Mo_addMaker 70 = .ok (.iconst 1, 1) := by decide +kernel
theorem d_Mo_addMaker_71 : decode b_Mo_addMaker 71 = .ok (.isub, 1) := by decide +kernel
theorem d_Mo_addMaker_72 : decode b_Mo_addMaker 72 = .ok (.ireturn, 1) := by decide +kernel
theorem d_Mo_maker_0 : decode b_Mo_maker 0 = .ok (.iload_n 1, 1) := by decide +kernel
theorem d_Mo_maker_1 : decode b_Mo_maker 1 = .ok (.i2l, 1) := by decide +kernel
theorem d_Mo_maker_2 : decode b_Mo_maker 2 = .ok (.lconst 0, 1) := by decide +kernel
theorem d_Mo_maker_3 : decode b_Mo_maker 3 = .ok (.ldc2_w 66, 3) := by decide +kernel
theorem d_Mo_maker_6 : decode b_Mo_maker 6 = .ok (.invokestatic 62, 3) := by decide +kernel
theorem d_Mo_maker_9 : decode b_Mo_maker 9 = .ok (.ifCond .eq 18, 3) := by decide +kernel
theorem d_Mo_maker_12 : decode b_Mo_maker 12 = .ok (.aload_n 0, 1) := by decide +kernel
theorem d_Mo_maker_13 : decode b_Mo_maker 13 = .ok (.iload_n 2, 1) := by decide +kernel
theorem d_Mo_maker_14 : decode b_Mo_maker 14 = .ok (.invokevirtual 95, 3) := by decide +kernel
theorem d_Mo_maker_17 : decode b_Mo_maker 17 = .ok (.ifCond .eq 10, 3) := by decide +kernel
theorem d_Mo_maker_20 : decode b_Mo_maker 20 = .ok (.iload_n 3, 1) := by decide +kernel
theorem d_Mo_maker_21 : decode b_Mo_maker 21 = .ok (.invokestatic 100, 3) := by decide +kernel
theorem d_Mo_maker_24 : decode b_Mo_maker 24 = .ok (.ifCond .ne 8, 3) := by decide +kernel
theorem d_Mo_maker_27 : decode b_Mo_maker 27 = .ok (.aload_n 0, 1) := by decide +kernel
theorem d_Mo_maker_28 : decode b_Mo_maker 28 = .ok (.invokevirtual 92, 3) := by decide +kernel
theorem d_Mo_maker_31 : decode b_Mo_maker 31 = .ok (.ireturn, 1) := by decide +kernel
theorem d_Mo_maker_32 : decode b_Mo_maker 32 = .ok (.aload_n 0, 1) := by decide +kernel
theorem d_Mo_maker_33 : decode b_Mo_maker 33 = .ok (.getfield 7, 3) := by decide +kernel
theorem d_Mo_maker_36 : decode b_Mo_maker 36 = .ok (.bipush 122, 2) := by decide +kernel
theorem d_Mo_maker_38 : decode b_Mo_maker 38 = .ok (.iaload, 1) := by decide +kernel
theorem d_Mo_maker_39 : decode b_Mo_maker 39 = .ok (.bipush 6, 2) := by decide +kernel
theorem d_Mo_maker_41 : decode b_Mo_maker 41 = .ok (.if_icmp .ne 10, 3) := by decide +kernel
theorem d_Mo_maker_44 : decode b_Mo_maker 44 = .ok (.aload_n 0, 1) := by decide +kernel
theorem d_Mo_maker_45 : decode b_Mo_maker 45 = .ok (.invokevirtual 105, 3) := by decide +kernel
theorem d_Mo_maker_48 : decode b_Mo_maker 48 = .ok (.goto 10, 3) := by decide +kernel
theorem d_Mo_maker_51 : decode b_Mo_maker 51 = .ok (.aload_n 0, 1) := by decide +kernel
theorem d_Mo_maker_52 : decode b_Mo_maker 52 = .ok (.iload_n 1, 1) := by decide +kernel
theorem d_Mo_maker_53 : decode b_Mo_maker 53 = .ok (.iload_n 2, 1) := by decide +kernel
theorem d_Mo_maker_54 : decode b_Mo_maker 54 = .ok (.iload_n 3, 1) := by decide +kernel
theorem d_Mo_maker_55 : decode b_Mo_maker 55 = .ok (.invokevirtual 108, 3) := by decide +kernel
theorem d_Mo_maker_58 : decode b_Mo_maker 58 = .ok (.ireturn, 1) := by decide +kernel
theorem d_Mo_keepPast_0 : decode b_Mo_keepPast 0 = .ok (.iconst 0, 1) := by decide +kernel
theorem d_Mo_keepPast_1 : decode b_Mo_keepPast 1 = .ok (.istore_n 1, 1) := by decide +kernel
theorem d_Mo_keepPast_2 : decode b_Mo_keepPast 2 = .ok (.iload_n 1, 1) := by decide +kernel
theorem d_Mo_keepPast_3 : decode b_Mo_keepPast 3 = .ok (.sipush 287, 3) := by decide +kernel
theorem d_Mo_keepPast_6 : decode b_Mo_keepPast 6 = .ok (.if_icmp .ge 45, 3) := by decide +kernel
theorem d_Mo_keepPast_9 : decode b_Mo_keepPast 9 = .ok (.aload_n 0, 1) := by decide +kernel
theorem d_Mo_keepPast_10 : decode b_Mo_keepPast 10 = .ok (.getfield 7, 3) := by decide +kernel
theorem d_Mo_keepPast_13 : decode b_Mo_keepPast 13 = .ok (.sipush 188, 3) := by decide +kernel
theorem d_Mo_keepPast_16 : decode b_Mo_keepPast 16 = .ok (.iaload, 1) := by decide +kernel
theorem d_Mo_keepPast_17 : decode b_Mo_keepPast 17 = .ok (.bipush 8, 2) := by decide +kernel
theorem d_Mo_keepPast_19 : decode b_Mo_keepPast 19 = .ok (.if_icmp .ne 32, 3) := by decide +kernel
theorem d_Mo_keepPast_22 : decode b_Mo_keepPast 22 = .ok (.aload_n 0, 1) := by decide +kernel
theorem d_Mo_keepPast_23 : decode b_Mo_keepPast 23 = .ok (.getfield 7, 3) := by decide +kernel
theorem d_Mo_keepPast_26 : decode b_Mo_keepPast 26 = .ok (.sipush 189, 3) := by decide +kernel
theorem d_Mo_keepPast_29 : decode b_Mo_keepPast 29 = .ok (.iload_n 1, 1) := by decide +kernel
theorem d_Mo_keepPast_30 : decode b_Mo_keepPast 30 = .ok (.iadd, 1) := by decide +kernel
theorem d_Mo_keepPast_31 : decode b_Mo_keepPast 31 = .ok (.aload_n 0, 1) := by decide +kernel
theorem d_Mo_keepPast_32 : decode b_Mo_keepPast 32 = .ok (.getfield 7, 3) := by decide +kernel
theorem d_Mo_keepPast_35 : decode b_Mo_keepPast 35 = .ok (.sipush 189, 3) := by decide +kernel
theorem d_Mo_keepPast_38 : decode b_Mo_keepPast 38 = .ok (.iload_n 1, 1) := by decide +kernel
theorem d_Mo_keepPast_39 : decode b_Mo_keepPast 39 = .ok (.iadd, 1) := by decide +kernel
theorem d_Mo_keepPast_40 : decode b_Mo_keepPast 40 = .ok (.bipush 41, 2) := by decide +kernel
theorem d_Mo_keepPast_42 : decode b_Mo_keepPast 42 = .ok (.iadd, 1) := by decide +kernel
theorem d_Mo_keepPast_43 : decode b_Mo_keepPast 43 = .ok (.iaload, 1) := by decide +kernel
theorem d_Mo_keepPast_44 : decode b_Mo_keepPast 44 = .ok (.iastore, 1) := by decide +kernel
theorem d_Mo_keepPast_45 : decode b_Mo_keepPast 45 = .ok (.iinc 1 1, 3) := by decide +kernel
theorem d_Mo_keepPast_48 : decode b_Mo_keepPast 48 = .ok (.goto (-46), 3) := by decide +kernel
theorem d_Mo_keepPast_51 : decode b_Mo_keepPast 51 = .ok (.aload_n 0, 1) := by decide +kernel
theorem d_Mo_keepPast_52 : decode b_Mo_keepPast 52 = .ok (.getfield 7, 3) := by decide +kernel
theorem d_Mo_keepPast_55 : decode b_Mo_keepPast 55 = .ok (.sipush 188, 3) := by decide +kernel
theorem d_Mo_keepPast_58 : decode b_Mo_keepPast 58 = .ok (.dup2, 1) := by decide +kernel
theorem d_Mo_keepPast_59 : decode b_Mo_keepPast 59 = .ok (.iaload, 1) := by decide +kernel
theorem d_Mo_keepPast_60 : decode b_Mo_keepPast 60 = .ok (.aload_n 0, 1) := by decide +kernel
theorem d_Mo_keepPast_61 : decode b_Mo_keepPast 61 = .ok (.getfield 7, 3) := by decide +kernel
theorem d_Mo_keepPast_64 : decode b_Mo_keepPast 64 = .ok (.sipush 188, 3) := by decide +kernel
theorem d_Mo_keepPast_67 : decode b_Mo_keepPast 67 = .ok (.iaload, 1) := by decide +kernel
theorem d_Mo_keepPast_68 : decode b_Mo_keepPast 68 = .ok (.bipush 8, 2) := by decide +kernel
theorem d_Mo_keepPast_70 : decode b_Mo_keepPast 70 = .ok (.if_icmp .ne 7, 3) := by decide +kernel
theorem d_Mo_keepPast_73 : decode b_Mo_keepPast 73 = .ok (.iconst 1, 1) := by decide +kernel
theorem d_Mo_keepPast_74 : decode b_Mo_keepPast 74 = .ok (.goto 4, 3) := by decide +kernel
theorem d_Mo_keepPast_77 : decode b_Mo_keepPast 77 = .ok (.iconst 0, 1) := by decide +kernel
theorem d_Mo_keepPast_78 : decode b_Mo_keepPast 78 = .ok (.isub, 1) := by decide +kernel
theorem d_Mo_keepPast_79 : decode b_Mo_keepPast 79 = .ok (.iastore, 1) := by decide +kernel
theorem d_Mo_keepPast_80 : decode b_Mo_keepPast 80 = .ok (.iconst 0, 1) := by decide +kernel
theorem d_Mo_keepPast_81 : decode b_Mo_keepPast 81 = .ok (.istore_n 1, 1) := by decide +kernel
theorem d_Mo_keepPast_82 : decode b_Mo_keepPast 82 = .ok (.iload_n 1, 1) := by decide +kernel
theorem d_Mo_keepPast_83 : decode b_Mo_keepPast 83 = .ok (.bipush 41, 2) := by decide +kernel
theorem d_Mo_keepPast_85 : decode b_Mo_keepPast 85 = .ok (.if_icmp .ge 41, 3) := by decide +kernel
theorem d_Mo_keepPast_88 : decode b_Mo_keepPast 88 = .ok (.aload_n 0, 1) := by decide +kernel
theorem d_Mo_keepPast_89 : decode b_Mo_keepPast 89 = .ok (.getfield 7, 3) := by decide +kernel
theorem d_Mo_keepPast_92 : decode b_Mo_keepPast 92 = .ok (.sipush 189, 3) := by decide +kernel
theorem d_Mo_keepPast_95 : decode b_Mo_keepPast 95 = .ok (.bipush 41, 2) := by decide +kernel
theorem d_Mo_keepPast_97 : decode b_Mo_keepPast 97 = .ok (.aload_n 0, 1) := by decide +kernel
theorem d_Mo_keepPast_98 : decode b_Mo_keepPast 98 = .ok (.getfield 7, 3) := by decide +kernel
theorem d_Mo_keepPast_101 : decode b_Mo_keepPast 101 = .ok (.sipush 188, 3) := by decide +kernel
theorem d_Mo_keepPast_104 : decode b_Mo_keepPast 104 = .ok (.iaload, 1) := by decide +kernel
theorem d_Mo_keepPast_105 : decode b_Mo_keepPast 105 = .ok (.imul, 1) := by decide +kernel
theorem d_Mo_keepPast_106 : decode b_Mo_keepPast 106 = .ok (.iadd, 1) := by decide +kernel
theorem d_Mo_keepPast_107 : decode b_Mo_keepPast 107 = .ok (.iload_n 1, 1) := by decide +kernel
theorem d_Mo_keepPast_108 : decode b_Mo_keepPast 108 = .ok (.iadd, 1) := by decide +kernel
theorem d_Mo_keepPast_109 : decode b_Mo_keepPast 109 = .ok (.aload_n 0, 1) := by decide +kernel
theorem d_Mo_keepPast_110 : decode b_Mo_keepPast 110 = .ok (.getfield 7, 3) := by decide +kernel
theorem d_Mo_keepPast_113 : decode b_Mo_keepPast 113 = .ok (.sipush 147, 3) := by decide +kernel
theorem d_Mo_keepPast_116 : decode b_Mo_keepPast 116 = .ok (.iload_n 1, 1) := by decide +kernel
theorem d_Mo_keepPast_117 : decode b_Mo_keepPast 117 = .ok (.iadd, 1) := by decide +kernel
theorem d_Mo_keepPast_118 : decode b_Mo_keepPast 118 = .ok (.iaload, 1) := by decide +kernel
theorem d_Mo_keepPast_119 : decode b_Mo_keepPast 119 = .ok (.iastore, 1) := by decide +kernel
theorem d_Mo_keepPast_120 : decode b_Mo_keepPast 120 = .ok (.iinc 1 1, 3) := by decide +kernel
theorem d_Mo_keepPast_123 : decode b_Mo_keepPast 123 = .ok (.goto (-41), 3) := by decide +kernel
theorem d_Mo_keepPast_126 : decode b_Mo_keepPast 126 = .ok (.aload_n 0, 1) := by decide +kernel
theorem d_Mo_keepPast_127 : decode b_Mo_keepPast 127 = .ok (.getfield 7, 3) := by decide +kernel
theorem d_Mo_keepPast_130 : decode b_Mo_keepPast 130 = .ok (.sipush 188, 3) := by decide +kernel
theorem d_Mo_keepPast_133 : decode b_Mo_keepPast 133 = .ok (.dup2, 1) := by decide +kernel
theorem d_Mo_keepPast_134 : decode b_Mo_keepPast 134 = .ok (.iaload, 1) := by decide +kernel
theorem d_Mo_keepPast_135 : decode b_Mo_keepPast 135 = .ok (.iconst 1, 1) := by decide +kernel
theorem d_Mo_keepPast_136 : decode b_Mo_keepPast 136 = .ok (.iadd, 1) := by decide +kernel
theorem d_Mo_keepPast_137 : decode b_Mo_keepPast 137 = .ok (.iastore, 1) := by decide +kernel
theorem d_Mo_keepPast_138 : decode b_Mo_keepPast 138 = .ok (.return_, 1) := by decide +kernel
theorem d_Mo_addLeave_0 : decode b_Mo_addLeave 0 = .ok (.sipush 148, 3) := by decide +kernel
theorem d_Mo_addLeave_3 : decode b_Mo_addLeave 3 = .ok (.iconst 5, 1) := by decide +kernel
theorem d_Mo_addLeave_4 : decode b_Mo_addLeave 4 = .ok (.aload_n 0, 1) := by decide +kernel
theorem d_Mo_addLeave_5 : decode b_Mo_addLeave 5 = .ok (.getfield 7, 3) := by decide +kernel
theorem d_Mo_addLeave_8 : decode b_Mo_addLeave 8 = .ok (.sipush 147, 3) := by decide +kernel
theorem d_Mo_addLeave_11 : decode b_Mo_addLeave 11 = .ok (.iaload, 1) := by decide +kernel
theorem d_Mo_addLeave_12 : decode b_Mo_addLeave 12 = .ok (.imul, 1) := by decide +kernel
theorem d_Mo_addLeave_13 : decode b_Mo_addLeave 13 = .ok (.iadd, 1) := by decide +kernel
theorem d_Mo_addLeave_14 : decode b_Mo_addLeave 14 = .ok (.istore 6, 2) := by decide +kernel
theorem d_Mo_addLeave_16 : decode b_Mo_addLeave 16 = .ok (.aload_n 0, 1) := by decide +kernel
theorem d_Mo_addLeave_17 : decode b_Mo_addLeave 17 = .ok (.getfield 7, 3) := by decide +kernel
theorem d_Mo_addLeave_20 : decode b_Mo_addLeave 20 = .ok (.iload 6, 2) := by decide +kernel
theorem d_Mo_addLeave_22 : decode b_Mo_addLeave 22 = .ok (.iload_n 1, 1) := by decide +kernel
theorem d_Mo_addLeave_23 : decode b_Mo_addLeave 23 = .ok (.iastore, 1) := by decide +kernel
theorem d_Mo_addLeave_24 : decode b_Mo_addLeave 24 = .ok (.aload_n 0, 1) := by decide +kernel
theorem d_Mo_addLeave_25 : decode b_Mo_addLeave 25 = .ok (.getfield 7, 3) := by decide +kernel
theorem d_Mo_addLeave_28 : decode b_Mo_addLeave 28 = .ok (.iload 6, 2) := by decide +kernel
theorem d_Mo_addLeave_30 : decode b_Mo_addLeave 30 = .ok (.iconst 1, 1) := by decide +kernel
theorem d_Mo_addLeave_31 : decode b_Mo_addLeave 31 = .ok (.iadd, 1) := by decide +kernel
theorem d_Mo_addLeave_32 : decode b_Mo_addLeave 32 = .ok (.iload_n 2, 1) := by decide +kernel
theorem d_Mo_addLeave_33 : decode b_Mo_addLeave 33 = .ok (.iastore, 1) := by decide +kernel
theorem d_Mo_addLeave_34 : decode b_Mo_addLeave 34 = .ok (.aload_n 0, 1) := by decide +kernel
theorem d_Mo_addLeave_35 : decode b_Mo_addLeave 35 = .ok (.getfield 7, 3) := by decide +kernel
theorem d_Mo_addLeave_38 : decode b_Mo_addLeave 38 = .ok (.iload 6, 2) := by decide +kernel
theorem d_Mo_addLeave_40 : decode b_Mo_addLeave 40 = .ok (.iconst 2, 1) := by decide +kernel
theorem d_Mo_addLeave_41 : decode b_Mo_addLeave 41 = .ok (.iadd, 1) := by decide +kernel
theorem d_Mo_addLeave_42 : decode b_Mo_addLeave 42 = .ok (.iload_n 3, 1) := by decide +kernel
theorem d_Mo_addLeave_43 : decode b_Mo_addLeave 43 = .ok (.iastore, 1) := by decide +kernel
theorem d_Mo_addLeave_44 : decode b_Mo_addLeave 44 = .ok (.aload_n 0, 1) := by decide +kernel
theorem d_Mo_addLeave_45 : decode b_Mo_addLeave 45 = .ok (.getfield 7, 3) := by decide +kernel
theorem d_Mo_addLeave_48 : decode b_Mo_addLeave 48 = .ok (.iload 6, 2) := by decide +kernel
theorem d_Mo_addLeave_50 : decode b_Mo_addLeave 50 = .ok (.iconst 3, 1) := by decide +kernel
theorem d_Mo_addLeave_51 : decode b_Mo_addLeave 51 = .ok (.iadd, 1) := by decide +kernel
theorem d_Mo_addLeave_52 : decode b_Mo_addLeave 52 = .ok (.iload 4, 2) := by decide +kernel
theorem d_Mo_addLeave_54 : decode b_Mo_addLeave 54 = .ok (.iastore, 1) := by decide +kernel
theorem d_Mo_addLeave_55 : decode b_Mo_addLeave 55 = .ok (.aload_n 0, 1) := by decide +kernel
theorem d_Mo_addLeave_56 : decode b_Mo_addLeave 56 = .ok (.getfield 7, 3) := by decide +kernel
theorem d_Mo_addLeave_59 : decode b_Mo_addLeave 59 = .ok (.iload 6, 2) := by decide +kernel
theorem d_Mo_addLeave_61 : decode b_Mo_addLeave 61 = .ok (.iconst 4, 1) := by decide +kernel
theorem d_Mo_addLeave_62 : decode b_Mo_addLeave 62 = .ok (.iadd, 1) := by decide +kernel
theorem d_Mo_addLeave_63 : decode b_Mo_addLeave 63 = .ok (.iload 5, 2) := by decide +kernel
theorem d_Mo_addLeave_65 : decode b_Mo_addLeave 65 = .ok (.iastore, 1) := by decide +kernel
theorem d_Mo_addLeave_66 : decode b_Mo_addLeave 66 = .ok (.aload_n 0, 1) := by decide +kernel
theorem d_Mo_addLeave_67 : decode b_Mo_addLeave 67 = .ok (.getfield 7, 3) := by decide +kernel
theorem d_Mo_addLeave_70 : decode b_Mo_addLeave 70 = .ok (.sipush 147, 3) := by decide +kernel
theorem d_Mo_addLeave_73 : decode b_Mo_addLeave 73 = .ok (.dup2, 1) := by decide +kernel
theorem d_Mo_addLeave_74 : decode b_Mo_addLeave 74 = .ok (.iaload, 1) := by decide +kernel
theorem d_Mo_addLeave_75 : decode b_Mo_addLeave 75 = .ok (.iconst 1, 1) := by decide +kernel
theorem d_Mo_addLeave_76 : decode b_Mo_addLeave 76 = .ok (.iadd, 1) := by decide +kernel
theorem d_Mo_addLeave_77 : decode b_Mo_addLeave 77 = .ok (.iastore, 1) := by decide +kernel
theorem d_Mo_addLeave_78 : decode b_Mo_addLeave 78 = .ok (.aload_n 0, 1) := by decide +kernel
theorem d_Mo_addLeave_79 : decode b_Mo_addLeave 79 = .ok (.getfield 7, 3) := by decide +kernel
theorem d_Mo_addLeave_82 : decode b_Mo_addLeave 82 = .ok (.sipush 147, 3) := by decide +kernel
theorem d_Mo_addLeave_85 : decode b_Mo_addLeave 85 = .ok (.iaload, 1) := by decide +kernel
theorem d_Mo_addLeave_86 : decode b_Mo_addLeave 86 = .ok (.iconst 1, 1) := by decide +kernel
theorem d_Mo_addLeave_87 : decode b_Mo_addLeave 87 = .ok (.isub, 1) := by decide +kernel
theorem d_Mo_addLeave_88 : decode b_Mo_addLeave 88 = .ok (.ireturn, 1) := by decide +kernel
theorem d_Mo_leave_0 : decode b_Mo_leave 0 = .ok (.aload_n 0, 1) := by decide +kernel
theorem d_Mo_leave_1 : decode b_Mo_leave 1 = .ok (.iload_n 1, 1) := by decide +kernel
theorem d_Mo_leave_2 : decode b_Mo_leave 2 = .ok (.invokevirtual 72, 3) := by decide +kernel
theorem d_Mo_leave_5 : decode b_Mo_leave 5 = .ok (.ifCond .eq 39, 3) := by decide +kernel
theorem d_Mo_leave_8 : decode b_Mo_leave 8 = .ok (.iload_n 2, 1) := by decide +kernel
theorem d_Mo_leave_9 : decode b_Mo_leave 9 = .ok (.invokestatic 100, 3) := by decide +kernel
theorem d_Mo_leave_12 : decode b_Mo_leave 12 = .ok (.ifCond .eq 32, 3) := by decide +kernel
theorem d_Mo_leave_15 : decode b_Mo_leave 15 = .ok (.iload_n 3, 1) := by decide +kernel
theorem d_Mo_leave_16 : decode b_Mo_leave 16 = .ok (.invokestatic 79, 3) := by decide +kernel
theorem d_Mo_leave_19 : decode b_Mo_leave 19 = .ok (.ifCond .eq 25, 3) := by decide +kernel
theorem d_Mo_leave_22 : decode b_Mo_leave 22 = .ok (.iload 4, 2) := by decide +kernel
theorem d_Mo_leave_24 : decode b_Mo_leave 24 = .ok (.invokestatic 79, 3) := by decide +kernel
theorem d_Mo_leave_27 : decode b_Mo_leave 27 = .ok (.ifCond .eq 17, 3) := by decide +kernel
theorem d_Mo_leave_30 : decode b_Mo_leave 30 = .ok (.iload 4, 2) := by decide +kernel
theorem d_Mo_leave_32 : decode b_Mo_leave 32 = .ok (.iload_n 3, 1) := by decide +kernel
theorem d_Mo_leave_33 : decode b_Mo_leave 33 = .ok (.if_icmp .lt 11, 3) := by decide +kernel
theorem d_Mo_leave_36 : decode b_Mo_leave 36 = .ok (.iload 5, 2) := by decide +kernel
theorem d_Mo_leave_38 : decode b_Mo_leave 38 = .ok (.invokestatic 76, 3) := by decide +kernel
theorem d_Mo_leave_41 : decode b_Mo_leave 41 = .ok (.ifCond .ne 8, 3) := by decide +kernel
theorem d_Mo_leave_44 : decode b_Mo_leave 44 = .ok (.aload_n 0, 1) := by decide +kernel
theorem d_Mo_leave_45 : decode b_Mo_leave 45 = .ok (.invokevirtual 92, 3) := by decide +kernel
theorem d_Mo_leave_48 : decode b_Mo_leave 48 = .ok (.ireturn, 1) := by decide +kernel
theorem d_Mo_leave_49 : decode b_Mo_leave 49 = .ok (.aload_n 0, 1) := by decide +kernel
theorem d_Mo_leave_50 : decode b_Mo_leave 50 = .ok (.getfield 7, 3) := by decide +kernel
theorem d_Mo_leave_53 : decode b_Mo_leave 53 = .ok (.sipush 147, 3) := by decide +kernel
theorem d_Mo_leave_56 : decode b_Mo_leave 56 = .ok (.iaload, 1) := by decide +kernel
theorem d_Mo_leave_57 : decode b_Mo_leave 57 = .ok (.bipush 8, 2) := by decide +kernel
theorem d_Mo_leave_59 : decode b_Mo_leave 59 = .ok (.if_icmp .ne 8, 3) := by decide +kernel
theorem d_Mo_leave_62 : decode b_Mo_leave 62 = .ok (.aload_n 0, 1) := by decide +kernel
theorem d_Mo_leave_63 : decode b_Mo_leave 63 = .ok (.invokevirtual 105, 3) := by decide +kernel
theorem d_Mo_leave_66 : decode b_Mo_leave 66 = .ok (.ireturn, 1) := by decide +kernel
theorem d_Mo_leave_67 : decode b_Mo_leave 67 = .ok (.aload_n 0, 1) := by decide +kernel
theorem d_Mo_leave_68 : decode b_Mo_leave 68 = .ok (.invokevirtual 112, 3) := by decide +kernel
theorem d_Mo_leave_71 : decode b_Mo_leave 71 = .ok (.aload_n 0, 1) := by decide +kernel
theorem d_Mo_leave_72 : decode b_Mo_leave 72 = .ok (.iload_n 1, 1) := by decide +kernel
theorem d_Mo_leave_73 : decode b_Mo_leave 73 = .ok (.iload_n 2, 1) := by decide +kernel
theorem d_Mo_leave_74 : decode b_Mo_leave 74 = .ok (.iload_n 3, 1) := by decide +kernel
theorem d_Mo_leave_75 : decode b_Mo_leave 75 = .ok (.iload 4, 2) := by decide +kernel
theorem d_Mo_leave_77 : decode b_Mo_leave 77 = .ok (.iload 5, 2) := by decide +kernel
theorem d_Mo_leave_79 : decode b_Mo_leave 79 = .ok (.invokevirtual 115, 3) := by decide +kernel
theorem d_Mo_leave_82 : decode b_Mo_leave 82 = .ok (.ireturn, 1) := by decide +kernel
theorem d_Mo_isLeave_0 : decode b_Mo_isLeave 0 = .ok (.iload_n 1, 1) := by decide +kernel
theorem d_Mo_isLeave_1 : decode b_Mo_isLeave 1 = .ok (.i2l, 1) := by decide +kernel
theorem d_Mo_isLeave_2 : decode b_Mo_isLeave 2 = .ok (.lconst 0, 1) := by decide +kernel
theorem d_Mo_isLeave_3 : decode b_Mo_isLeave 3 = .ok (.aload_n 0, 1) := by decide +kernel
theorem d_Mo_isLeave_4 : decode b_Mo_isLeave 4 = .ok (.getfield 7, 3) := by decide +kernel
theorem d_Mo_isLeave_7 : decode b_Mo_isLeave 7 = .ok (.sipush 147, 3) := by decide +kernel
theorem d_Mo_isLeave_10 : decode b_Mo_isLeave 10 = .ok (.iaload, 1) := by decide +kernel
theorem d_Mo_isLeave_11 : decode b_Mo_isLeave 11 = .ok (.iconst 1, 1) := by decide +kernel
theorem d_Mo_isLeave_12 : decode b_Mo_isLeave 12 = .ok (.isub, 1) := by decide +kernel
theorem d_Mo_isLeave_13 : decode b_Mo_isLeave 13 = .ok (.i2l, 1) := by decide +kernel
theorem d_Mo_isLeave_14 : decode b_Mo_isLeave 14 = .ok (.invokestatic 62, 3) := by decide +kernel
theorem d_Mo_isLeave_17 : decode b_Mo_isLeave 17 = .ok (.ireturn, 1) := by decide +kernel
theorem d_Mo_take_0 : decode b_Mo_take 0 = .ok (.aload_n 0, 1) := by decide +kernel
theorem d_Mo_take_1 : decode b_Mo_take 1 = .ok (.iload_n 1, 1) := by decide +kernel
theorem d_Mo_take_2 : decode b_Mo_take 2 = .ok (.invokevirtual 119, 3) := by decide +kernel
theorem d_Mo_take_5 : decode b_Mo_take 5 = .ok (.ifCond .ne 8, 3) := by decide +kernel
theorem d_Mo_take_8 : decode b_Mo_take 8 = .ok (.aload_n 0, 1) := by decide +kernel
theorem d_Mo_take_9 : decode b_Mo_take 9 = .ok (.invokevirtual 92, 3) := by decide +kernel
theorem d_Mo_take_12 : decode b_Mo_take 12 = .ok (.ireturn, 1) := by decide +kernel
theorem d_Mo_take_13 : decode b_Mo_take 13 = .ok (.aload_n 0, 1) := by decide +kernel
theorem d_Mo_take_14 : decode b_Mo_take 14 = .ok (.invokevirtual 112, 3) := by decide +kernel
theorem d_Mo_take_17 : decode b_Mo_take 17 = .ok (.aload_n 0, 1) := by decide +kernel
theorem d_Mo_take_18 : decode b_Mo_take 18 = .ok (.getfield 7, 3) := by decide +kernel
theorem d_Mo_take_21 : decode b_Mo_take 21 = .ok (.sipush 147, 3) := by decide +kernel
theorem d_Mo_take_24 : decode b_Mo_take 24 = .ok (.dup2, 1) := by decide +kernel
theorem d_Mo_take_25 : decode b_Mo_take 25 = .ok (.iaload, 1) := by decide +kernel
theorem d_Mo_take_26 : decode b_Mo_take 26 = .ok (.iconst 1, 1) := by decide +kernel
theorem d_Mo_take_27 : decode b_Mo_take 27 = .ok (.isub, 1) := by decide +kernel
theorem d_Mo_take_28 : decode b_Mo_take 28 = .ok (.iastore, 1) := by decide +kernel
theorem d_Mo_take_29 : decode b_Mo_take 29 = .ok (.iconst 5, 1) := by decide +kernel
theorem d_Mo_take_30 : decode b_Mo_take 30 = .ok (.iload_n 1, 1) := by decide +kernel
theorem d_Mo_take_31 : decode b_Mo_take 31 = .ok (.imul, 1) := by decide +kernel
theorem d_Mo_take_32 : decode b_Mo_take 32 = .ok (.istore_n 2, 1) := by decide +kernel
theorem d_Mo_take_33 : decode b_Mo_take 33 = .ok (.iload_n 2, 1) := by decide +kernel
theorem d_Mo_take_34 : decode b_Mo_take 34 = .ok (.iconst 5, 1) := by decide +kernel
theorem d_Mo_take_35 : decode b_Mo_take 35 = .ok (.aload_n 0, 1) := by decide +kernel
theorem d_Mo_take_36 : decode b_Mo_take 36 = .ok (.getfield 7, 3) := by decide +kernel
theorem d_Mo_take_39 : decode b_Mo_take 39 = .ok (.sipush 147, 3) := by decide +kernel
theorem d_Mo_take_42 : decode b_Mo_take 42 = .ok (.iaload, 1) := by decide +kernel
theorem d_Mo_take_43 : decode b_Mo_take 43 = .ok (.imul, 1) := by decide +kernel
theorem d_Mo_take_44 : decode b_Mo_take 44 = .ok (.if_icmp .ge 31, 3) := by decide +kernel
theorem d_Mo_take_47 : decode b_Mo_take 47 = .ok (.aload_n 0, 1) := by decide +kernel
theorem d_Mo_take_48 : decode b_Mo_take 48 = .ok (.getfield 7, 3) := by decide +kernel
theorem d_Mo_take_51 : decode b_Mo_take 51 = .ok (.sipush 148, 3) := by decide +kernel
theorem d_Mo_take_54 : decode b_Mo_take 54 = .ok (.iload_n 2, 1) := by decide +kernel
theorem d_Mo_take_55 : decode b_Mo_take 55 = .ok (.iadd, 1) := by decide +kernel
theorem d_Mo_take_56 : decode b_Mo_take 56 = .ok (.aload_n 0, 1) := by decide +kernel
theorem d_Mo_take_57 : decode b_Mo_take 57 = .ok (.getfield 7, 3) := by decide +kernel
theorem d_Mo_take_60 : decode b_Mo_take 60 = .ok (.sipush 148, 3) := by decide +kernel
theorem d_Mo_take_63 : decode b_Mo_take 63 = .ok (.iload_n 2, 1) := by decide +kernel
theorem d_Mo_take_64 : decode b_Mo_take 64 = .ok (.iadd, 1) := by decide +kernel
theorem d_Mo_take_65 : decode b_Mo_take 65 = .ok (.iconst 5, 1) := by decide +kernel
theorem d_Mo_take_66 : decode b_Mo_take 66 = .ok (.iadd, 1) := by decide +kernel
theorem d_Mo_take_67 : decode b_Mo_take 67 = .ok (.iaload, 1) := by decide +kernel
theorem d_Mo_take_68 : decode b_Mo_take 68 = .ok (.iastore, 1) := by decide +kernel
theorem d_Mo_take_69 : decode b_Mo_take 69 = .ok (.iinc 2 1, 3) := by decide +kernel
theorem d_Mo_take_72 : decode b_Mo_take 72 = .ok (.goto (-39), 3) := by decide +kernel
theorem d_Mo_take_75 : decode b_Mo_take 75 = .ok (.aload_n 0, 1) := by decide +kernel
theorem d_Mo_take_76 : decode b_Mo_take 76 = .ok (.getfield 7, 3) := by decide +kernel
theorem d_Mo_take_79 : decode b_Mo_take 79 = .ok (.sipush 147, 3) := by decide +kernel
theorem d_Mo_take_82 : decode b_Mo_take 82 = .ok (.iaload, 1) := by decide +kernel
theorem d_Mo_take_83 : decode b_Mo_take 83 = .ok (.ireturn, 1) := by decide +kernel
theorem d_Mo_undo_0 : decode b_Mo_undo 0 = .ok (.aload_n 0, 1) := by decide +kernel
theorem d_Mo_undo_1 : decode b_Mo_undo 1 = .ok (.getfield 7, 3) := by decide +kernel
theorem d_Mo_undo_4 : decode b_Mo_undo 4 = .ok (.sipush 188, 3) := by decide +kernel
theorem d_Mo_undo_7 : decode b_Mo_undo 7 = .ok (.iaload, 1) := by decide +kernel
theorem d_Mo_undo_8 : decode b_Mo_undo 8 = .ok (.ifCond .ne 10, 3) := by decide +kernel
theorem d_Mo_undo_11 : decode b_Mo_undo 11 = .ok (.aload_n 0, 1) := by decide +kernel
theorem d_Mo_undo_12 : decode b_Mo_undo 12 = .ok (.bipush (-3), 2) := by decide +kernel
theorem d_Mo_undo_14 : decode b_Mo_undo 14 = .ok (.invokevirtual 122, 3) := by decide +kernel
theorem d_Mo_undo_17 : decode b_Mo_undo 17 = .ok (.ireturn, 1) := by decide +kernel
theorem d_Mo_undo_18 : decode b_Mo_undo 18 = .ok (.aload_n 0, 1) := by decide +kernel
theorem d_Mo_undo_19 : decode b_Mo_undo 19 = .ok (.getfield 7, 3) := by decide +kernel
theorem d_Mo_undo_22 : decode b_Mo_undo 22 = .ok (.sipush 188, 3) := by decide +kernel
theorem d_Mo_undo_25 : decode b_Mo_undo 25 = .ok (.dup2, 1) := by decide +kernel
theorem d_Mo_undo_26 : decode b_Mo_undo 26 = .ok (.iaload, 1) := by decide +kernel
theorem d_Mo_undo_27 : decode b_Mo_undo 27 = .ok (.iconst 1, 1) := by decide +kernel
theorem d_Mo_undo_28 : decode b_Mo_undo 28 = .ok (.isub, 1) := by decide +kernel
theorem d_Mo_undo_29 : decode b_Mo_undo 29 = .ok (.iastore, 1) := by decide +kernel
theorem d_Mo_undo_30 : decode b_Mo_undo 30 = .ok (.iconst 0, 1) := by decide +kernel
theorem d_Mo_undo_31 : decode b_Mo_undo 31 = .ok (.istore_n 1, 1) := by decide +kernel
theorem d_Mo_undo_32 : decode b_Mo_undo 32 = .ok (.iload_n 1, 1) := by decide +kernel
theorem d_Mo_undo_33 : decode b_Mo_undo 33 = .ok (.bipush 41, 2) := by decide +kernel
theorem d_Mo_undo_35 : decode b_Mo_undo 35 = .ok (.if_icmp .ge 41, 3) := by decide +kernel
theorem d_Mo_undo_38 : decode b_Mo_undo 38 = .ok (.aload_n 0, 1) := by decide +kernel
theorem d_Mo_undo_39 : decode b_Mo_undo 39 = .ok (.getfield 7, 3) := by decide +kernel
theorem d_Mo_undo_42 : decode b_Mo_undo 42 = .ok (.sipush 147, 3) := by decide +kernel
theorem d_Mo_undo_45 : decode b_Mo_undo 45 = .ok (.iload_n 1, 1) := by decide +kernel
theorem d_Mo_undo_46 : decode b_Mo_undo 46 = .ok (.iadd, 1) := by decide +kernel
theorem d_Mo_undo_47 : decode b_Mo_undo 47 = .ok (.aload_n 0, 1) := by decide +kernel
theorem d_Mo_undo_48 : decode b_Mo_undo 48 = .ok (.getfield 7, 3) := by decide +kernel
theorem d_Mo_undo_51 : decode b_Mo_undo 51 = .ok (.sipush 189, 3) := by decide +kernel
theorem d_Mo_undo_54 : decode b_Mo_undo 54 = .ok (.bipush 41, 2) := by decide +kernel
theorem d_Mo_undo_56 : decode b_Mo_undo 56 = .ok (.aload_n 0, 1) := by decide +kernel
theorem d_Mo_undo_57 : decode b_Mo_undo 57 = .ok (.getfield 7, 3) := by decide +kernel
theorem d_Mo_undo_60 : decode b_Mo_undo 60 = .ok (.sipush 188, 3) := by decide +kernel
theorem d_Mo_undo_63 : decode b_Mo_undo 63 = .ok (.iaload, 1) := by decide +kernel
theorem d_Mo_undo_64 : decode b_Mo_undo 64 = .ok (.imul, 1) := by decide +kernel
theorem d_Mo_undo_65 : decode b_Mo_undo 65 = .ok (.iadd, 1) := by decide +kernel
theorem d_Mo_undo_66 : decode b_Mo_undo 66 = .ok (.iload_n 1, 1) := by decide +kernel
theorem d_Mo_undo_67 : decode b_Mo_undo 67 = .ok (.iadd, 1) := by decide +kernel
theorem d_Mo_undo_68 : decode b_Mo_undo 68 = .ok (.iaload, 1) := by decide +kernel
theorem d_Mo_undo_69 : decode b_Mo_undo 69 = .ok (.iastore, 1) := by decide +kernel
theorem d_Mo_undo_70 : decode b_Mo_undo 70 = .ok (.iinc 1 1, 3) := by decide +kernel
theorem d_Mo_undo_73 : decode b_Mo_undo 73 = .ok (.goto (-41), 3) := by decide +kernel
theorem d_Mo_undo_76 : decode b_Mo_undo 76 = .ok (.aload_n 0, 1) := by decide +kernel
theorem d_Mo_undo_77 : decode b_Mo_undo 77 = .ok (.getfield 7, 3) := by decide +kernel
theorem d_Mo_undo_80 : decode b_Mo_undo 80 = .ok (.sipush 147, 3) := by decide +kernel
theorem d_Mo_undo_83 : decode b_Mo_undo 83 = .ok (.iaload, 1) := by decide +kernel
theorem d_Mo_undo_84 : decode b_Mo_undo 84 = .ok (.ireturn, 1) := by decide +kernel
theorem d_Mo_about_0 : decode b_Mo_about 0 = .ok (.aload_n 0, 1) := by decide +kernel
theorem d_Mo_about_1 : decode b_Mo_about 1 = .ok (.iload_n 1, 1) := by decide +kernel
theorem d_Mo_about_2 : decode b_Mo_about 2 = .ok (.invokevirtual 119, 3) := by decide +kernel
theorem d_Mo_about_5 : decode b_Mo_about 5 = .ok (.ifCond .eq 32, 3) := by decide +kernel
theorem d_Mo_about_8 : decode b_Mo_about 8 = .ok (.iload_n 2, 1) := by decide +kernel
theorem d_Mo_about_9 : decode b_Mo_about 9 = .ok (.i2l, 1) := by decide +kernel
theorem d_Mo_about_10 : decode b_Mo_about 10 = .ok (.lconst 0, 1) := by decide +kernel
theorem d_Mo_about_11 : decode b_Mo_about 11 = .ok (.ldc2_w 126, 3) := by decide +kernel
theorem d_Mo_about_14 : decode b_Mo_about 14 = .ok (.invokestatic 62, 3) := by decide +kernel
theorem d_Mo_about_17 : decode b_Mo_about 17 = .ok (.ifCond .eq 20, 3) := by decide +kernel
theorem d_Mo_about_20 : decode b_Mo_about 20 = .ok (.aload_n 0, 1) := by decide +kernel
theorem d_Mo_about_21 : decode b_Mo_about 21 = .ok (.getfield 7, 3) := by decide +kernel
theorem d_Mo_about_24 : decode b_Mo_about 24 = .ok (.sipush 148, 3) := by decide +kernel
theorem d_Mo_about_27 : decode b_Mo_about 27 = .ok (.iconst 5, 1) := by decide +kernel
theorem d_Mo_about_28 : decode b_Mo_about 28 = .ok (.iload_n 1, 1) := by decide +kernel
theorem d_Mo_about_29 : decode b_Mo_about 29 = .ok (.imul, 1) := by decide +kernel
theorem d_Mo_about_30 : decode b_Mo_about 30 = .ok (.iadd, 1) := by decide +kernel
theorem d_Mo_about_31 : decode b_Mo_about 31 = .ok (.iload_n 2, 1) := by decide +kernel
theorem d_Mo_about_32 : decode b_Mo_about 32 = .ok (.iadd, 1) := by decide +kernel
theorem d_Mo_about_33 : decode b_Mo_about 33 = .ok (.iaload, 1) := by decide +kernel
theorem d_Mo_about_34 : decode b_Mo_about 34 = .ok (.goto 7, 3) := by decide +kernel
theorem d_Mo_about_37 : decode b_Mo_about 37 = .ok (.aload_n 0, 1) := by decide +kernel
theorem d_Mo_about_38 : decode b_Mo_about 38 = .ok (.invokevirtual 92, 3) := by decide +kernel
theorem d_Mo_about_41 : decode b_Mo_about 41 = .ok (.ireturn, 1) := by decide +kernel
theorem d_Mo_type_0 : decode b_Mo_type 0 = .ok (.iload_n 1, 1) := by decide +kernel
theorem d_Mo_type_1 : decode b_Mo_type 1 = .ok (.i2l, 1) := by decide +kernel
theorem d_Mo_type_2 : decode b_Mo_type 2 = .ok (.lconst 0, 1) := by decide +kernel
theorem d_Mo_type_3 : decode b_Mo_type 3 = .ok (.ldc2_w 128, 3) := by decide +kernel
theorem d_Mo_type_6 : decode b_Mo_type 6 = .ok (.invokestatic 62, 3) := by decide +kernel
theorem d_Mo_type_9 : decode b_Mo_type 9 = .ok (.ifCond .ne 8, 3) := by decide +kernel
theorem d_Mo_type_12 : decode b_Mo_type 12 = .ok (.aload_n 0, 1) := by decide +kernel
theorem d_Mo_type_13 : decode b_Mo_type 13 = .ok (.invokevirtual 92, 3) := by decide +kernel
theorem d_Mo_type_16 : decode b_Mo_type 16 = .ok (.ireturn, 1) := by decide +kernel
theorem d_Mo_type_17 : decode b_Mo_type 17 = .ok (.aload_n 0, 1) := by decide +kernel
theorem d_Mo_type_18 : decode b_Mo_type 18 = .ok (.getfield 130, 3) := by decide +kernel
theorem d_Mo_type_21 : decode b_Mo_type 21 = .ok (.sipush 150, 3) := by decide +kernel
theorem d_Mo_type_24 : decode b_Mo_type 24 = .ok (.if_icmp .ne 8, 3) := by decide +kernel
theorem d_Mo_type_27 : decode b_Mo_type 27 = .ok (.aload_n 0, 1) := by decide +kernel
theorem d_Mo_type_28 : decode b_Mo_type 28 = .ok (.invokevirtual 105, 3) := by decide +kernel
theorem d_Mo_type_31 : decode b_Mo_type 31 = .ok (.ireturn, 1) := by decide +kernel
theorem d_Mo_type_32 : decode b_Mo_type 32 = .ok (.aload_n 0, 1) := by decide +kernel
theorem d_Mo_type_33 : decode b_Mo_type 33 = .ok (.getfield 13, 3) := by decide +kernel
theorem d_Mo_type_36 : decode b_Mo_type 36 = .ok (.aload_n 0, 1) := by decide +kernel
theorem d_Mo_type_37 : decode b_Mo_type 37 = .ok (.getfield 130, 3) := by decide +kernel
theorem d_Mo_type_40 : decode b_Mo_type 40 = .ok (.iload_n 1, 1) := by decide +kernel
theorem d_Mo_type_41 : decode b_Mo_type 41 = .ok (.iastore, 1) := by decide +kernel
theorem d_Mo_type_42 : decode b_Mo_type 42 = .ok (.aload_n 0, 1) := by decide +kernel
theorem d_Mo_type_43 : decode b_Mo_type 43 = .ok (.dup, 1) := by decide +kernel
theorem d_Mo_type_44 : decode b_Mo_type 44 = .ok (.getfield 130, 3) := by decide +kernel
theorem d_Mo_type_47 : decode b_Mo_type 47 = .ok (.iconst 1, 1) := by decide +kernel
theorem d_Mo_type_48 : decode b_Mo_type 48 = .ok (.iadd, 1) := by decide +kernel
theorem d_Mo_type_49 : decode b_Mo_type 49 = .ok (.putfield 130, 3) := by decide +kernel
theorem d_Mo_type_52 : decode b_Mo_type 52 = .ok (.aload_n 0, 1) := by decide +kernel
theorem d_Mo_type_53 : decode b_Mo_type 53 = .ok (.getfield 130, 3) := by decide +kernel
theorem d_Mo_type_56 : decode b_Mo_type 56 = .ok (.ireturn, 1) := by decide +kernel
theorem d_Mo_clear_0 : decode b_Mo_clear 0 = .ok (.aload_n 0, 1) := by decide +kernel
theorem d_Mo_clear_1 : decode b_Mo_clear 1 = .ok (.getfield 130, 3) := by decide +kernel
theorem d_Mo_clear_4 : decode b_Mo_clear 4 = .ok (.istore_n 1, 1) := by decide +kernel
theorem d_Mo_clear_5 : decode b_Mo_clear 5 = .ok (.aload_n 0, 1) := by decide +kernel
theorem d_Mo_clear_6 : decode b_Mo_clear 6 = .ok (.iconst 0, 1) := by decide +kernel
theorem d_Mo_clear_7 : decode b_Mo_clear 7 = .ok (.putfield 130, 3) := by decide +kernel
theorem d_Mo_clear_10 : decode b_Mo_clear 10 = .ok (.iload_n 1, 1) := by decide +kernel
theorem d_Mo_clear_11 : decode b_Mo_clear 11 = .ok (.ireturn, 1) := by decide +kernel
theorem d_Mo_sort_0 : decode b_Mo_sort 0 = .ok (.iload_n 0, 1) := by decide +kernel
theorem d_Mo_sort_1 : decode b_Mo_sort 1 = .ok (.bipush 97, 2) := by decide +kernel
theorem d_Mo_sort_3 : decode b_Mo_sort 3 = .ok (.if_icmp .lt 13, 3) := by decide +kernel
theorem d_Mo_sort_6 : decode b_Mo_sort 6 = .ok (.iload_n 0, 1) := by decide +kernel
theorem d_Mo_sort_7 : decode b_Mo_sort 7 = .ok (.bipush 122, 2) := by decide +kernel
theorem d_Mo_sort_9 : decode b_Mo_sort 9 = .ok (.if_icmp .gt 7, 3) := by decide +kernel
theorem d_Mo_sort_12 : decode b_Mo_sort 12 = .ok (.iconst 1, 1) := by decide +kernel
theorem d_Mo_sort_13 : decode b_Mo_sort 13 = .ok (.goto 20, 3) := by decide +kernel
theorem d_Mo_sort_16 : decode b_Mo_sort 16 = .ok (.iload_n 0, 1) := by decide +kernel
theorem d_Mo_sort_17 : decode b_Mo_sort 17 = .ok (.bipush 48, 2) := by decide +kernel
theorem d_Mo_sort_19 : decode b_Mo_sort 19 = .ok (.if_icmp .lt 13, 3) := by decide +kernel
theorem d_Mo_sort_22 : decode b_Mo_sort 22 = .ok (.iload_n 0, 1) := by decide +kernel
theorem d_Mo_sort_23 : decode b_Mo_sort 23 = .ok (.bipush 57, 2) := by decide +kernel
theorem d_Mo_sort_25 : decode b_Mo_sort 25 = .ok (.if_icmp .gt 7, 3) := by decide +kernel
theorem d_Mo_sort_28 : decode b_Mo_sort 28 = .ok (.iconst 2, 1) := by decide +kernel
theorem d_Mo_sort_29 : decode b_Mo_sort 29 = .ok (.goto 4, 3) := by decide +kernel
theorem d_Mo_sort_32 : decode b_Mo_sort 32 = .ok (.iconst 0, 1) := by decide +kernel
theorem d_Mo_sort_33 : decode b_Mo_sort 33 = .ok (.ireturn, 1) := by decide +kernel
theorem d_Mo_token_0 : decode b_Mo_token 0 = .ok (.aload_n 0, 1) := by decide +kernel
theorem d_Mo_token_1 : decode b_Mo_token 1 = .ok (.getfield 133, 3) := by decide +kernel
theorem d_Mo_token_4 : decode b_Mo_token 4 = .ok (.aload_n 0, 1) := by decide +kernel
theorem d_Mo_token_5 : decode b_Mo_token 5 = .ok (.getfield 130, 3) := by decide +kernel
theorem d_Mo_token_8 : decode b_Mo_token 8 = .ok (.if_icmp .ge 30, 3) := by decide +kernel
theorem d_Mo_token_11 : decode b_Mo_token 11 = .ok (.aload_n 0, 1) := by decide +kernel
theorem d_Mo_token_12 : decode b_Mo_token 12 = .ok (.getfield 13, 3) := by decide +kernel
theorem d_Mo_token_15 : decode b_Mo_token 15 = .ok (.aload_n 0, 1) := by decide +kernel
theorem d_Mo_token_16 : decode b_Mo_token 16 = .ok (.getfield 133, 3) := by decide +kernel
theorem d_Mo_token_19 : decode b_Mo_token 19 = .ok (.iaload, 1) := by decide +kernel
theorem d_Mo_token_20 : decode b_Mo_token 20 = .ok (.bipush 32, 2) := by decide +kernel
theorem d_Mo_token_22 : decode b_Mo_token 22 = .ok (.if_icmp .ne 16, 3) := by decide +kernel
theorem d_Mo_token_25 : decode b_Mo_token 25 = .ok (.aload_n 0, 1) := by decide +kernel
theorem d_Mo_token_26 : decode b_Mo_token 26 = .ok (.dup, 1) := by decide +kernel
theorem d_Mo_token_27 : decode b_Mo_token 27 = .ok (.getfield 133, 3) := by decide +kernel
theorem d_Mo_token_30 : decode b_Mo_token 30 = .ok (.iconst 1, 1) := by decide +kernel
theorem d_Mo_token_31 : decode b_Mo_token 31 = .ok (.iadd, 1) := by decide +kernel
theorem d_Mo_token_32 : decode b_Mo_token 32 = .ok (.putfield 133, 3) := by decide +kernel
theorem d_Mo_token_35 : decode b_Mo_token 35 = .ok (.goto (-35), 3) := by decide +kernel
theorem d_Mo_token_38 : decode b_Mo_token 38 = .ok (.aload_n 0, 1) := by decide +kernel
theorem d_Mo_token_39 : decode b_Mo_token 39 = .ok (.aload_n 0, 1) := by decide +kernel
theorem d_Mo_token_40 : decode b_Mo_token 40 = .ok (.getfield 133, 3) := by decide +kernel
theorem d_Mo_token_43 : decode b_Mo_token 43 = .ok (.putfield 136, 3) := by decide +kernel
theorem d_Mo_token_46 : decode b_Mo_token 46 = .ok (.aload_n 0, 1) := by decide +kernel
theorem d_Mo_token_47 : decode b_Mo_token 47 = .ok (.dup, 1) := by decide +kernel
theorem d_Mo_token_48 : decode b_Mo_token 48 = .ok (.getfield 133, 3) := by decide +kernel
theorem d_Mo_token_51 : decode b_Mo_token 51 = .ok (.aload_n 0, 1) := by decide +kernel
theorem d_Mo_token_52 : decode b_Mo_token 52 = .ok (.getfield 133, 3) := by decide +kernel
theorem d_Mo_token_55 : decode b_Mo_token 55 = .ok (.aload_n 0, 1) := by decide +kernel
theorem d_Mo_token_56 : decode b_Mo_token 56 = .ok (.getfield 130, 3) := by decide +kernel
theorem d_Mo_token_59 : decode b_Mo_token 59 = .ok (.if_icmp .ge 7, 3) := by decide +kernel
theorem d_Mo_token_62 : decode b_Mo_token 62 = .ok (.iconst 1, 1) := by decide +kernel
theorem d_Mo_token_63 : decode b_Mo_token 63 = .ok (.goto 4, 3) := by decide +kernel
theorem d_Mo_token_66 : decode b_Mo_token 66 = .ok (.iconst 0, 1) := by decide +kernel
theorem d_Mo_token_67 : decode b_Mo_token 67 = .ok (.iadd, 1) := by decide +kernel
theorem d_Mo_token_68 : decode b_Mo_token 68 = .ok (.putfield 133, 3) := by decide +kernel
theorem d_Mo_token_71 : decode b_Mo_token 71 = .ok (.aload_n 0, 1) := by decide +kernel
theorem d_Mo_token_72 : decode b_Mo_token 72 = .ok (.getfield 133, 3) := by decide +kernel
theorem d_Mo_token_75 : decode b_Mo_token 75 = .ok (.aload_n 0, 1) := by decide +kernel
theorem d_Mo_token_76 : decode b_Mo_token 76 = .ok (.getfield 130, 3) := by decide +kernel
theorem d_Mo_token_79 : decode b_Mo_token 79 = .ok (.if_icmp .ge 58, 3) := by decide +kernel
theorem d_Mo_token_82 : decode b_Mo_token 82 = .ok (.aload_n 0, 1) := by decide +kernel
theorem d_Mo_token_83 : decode b_Mo_token 83 = .ok (.getfield 13, 3) := by decide +kernel
theorem d_Mo_token_86 : decode b_Mo_token 86 = .ok (.aload_n 0, 1) := by decide +kernel
theorem d_Mo_token_87 : decode b_Mo_token 87 = .ok (.getfield 136, 3) := by decide +kernel
theorem d_Mo_token_90 : decode b_Mo_token 90 = .ok (.iaload, 1) := by decide +kernel
theorem d_Mo_token_91 : decode b_Mo_token 91 = .ok (.invokestatic 139, 3) := by decide +kernel
theorem d_Mo_token_94 : decode b_Mo_token 94 = .ok (.ifCond .le 43, 3) := by decide +kernel
theorem d_Mo_token_97 : decode b_Mo_token 97 = .ok (.aload_n 0, 1) := by decide +kernel
theorem d_Mo_token_98 : decode b_Mo_token 98 = .ok (.getfield 13, 3) := by decide +kernel
theorem d_Mo_token_101 : decode b_Mo_token 101 = .ok (.aload_n 0, 1) := by decide +kernel
theorem d_Mo_token_102 : decode b_Mo_token 102 = .ok (.getfield 133, 3) := by decide +kernel
theorem d_Mo_token_105 : decode b_Mo_token 105 = .ok (.iaload, 1) := by decide +kernel
theorem d_Mo_token_106 : decode b_Mo_token 106 = .ok (.invokestatic 139, 3) := by decide +kernel
theorem d_Mo_token_109 : decode b_Mo_token 109 = .ok (.aload_n 0, 1) := by decide +kernel
theorem d_Mo_token_110 : decode b_Mo_token 110 = .ok (.getfield 13, 3) := by decide +kernel
theorem d_Mo_token_113 : decode b_Mo_token 113 = .ok (.aload_n 0, 1) := by decide +kernel
theorem d_Mo_token_114 : decode b_Mo_token 114 = .ok (.getfield 136, 3) := by decide +kernel
theorem d_Mo_token_117 : decode b_Mo_token 117 = .ok (.iaload, 1) := by decide +kernel
theorem d_Mo_token_118 : decode b_Mo_token 118 = .ok (.invokestatic 139, 3) := by decide +kernel
theorem d_Mo_token_121 : decode b_Mo_token 121 = .ok (.if_icmp .ne 16, 3) := by decide +kernel
theorem d_Mo_token_124 : decode b_Mo_token 124 = .ok (.aload_n 0, 1) := by decide +kernel
theorem d_Mo_token_125 : decode b_Mo_token 125 = .ok (.dup, 1) := by decide +kernel
theorem d_Mo_token_126 : decode b_Mo_token 126 = .ok (.getfield 133, 3) := by decide +kernel
theorem d_Mo_token_129 : decode b_Mo_token 129 = .ok (.iconst 1, 1) := by decide +kernel
theorem d_Mo_token_130 : decode b_Mo_token 130 = .ok (.iadd, 1) := by decide +kernel
theorem d_Mo_token_131 : decode b_Mo_token 131 = .ok (.putfield 133, 3) := by decide +kernel
theorem d_Mo_token_134 : decode b_Mo_token 134 = .ok (.goto (-63), 3) := by decide +kernel
theorem d_Mo_token_137 : decode b_Mo_token 137 = .ok (.aload_n 0, 1) := by decide +kernel
theorem d_Mo_token_138 : decode b_Mo_token 138 = .ok (.aload_n 0, 1) := by decide +kernel
theorem d_Mo_token_139 : decode b_Mo_token 139 = .ok (.getfield 133, 3) := by decide +kernel
theorem d_Mo_token_142 : decode b_Mo_token 142 = .ok (.putfield 142, 3) := by decide +kernel
theorem d_Mo_token_145 : decode b_Mo_token 145 = .ok (.return_, 1) := by decide +kernel
theorem d_Mo_isWord_0 : decode b_Mo_isWord 0 = .ok (.aload_n 0, 1) := by decide +kernel
theorem d_Mo_isWord_1 : decode b_Mo_isWord 1 = .ok (.getfield 142, 3) := by decide +kernel
theorem d_Mo_isWord_4 : decode b_Mo_isWord 4 = .ok (.aload_n 0, 1) := by decide +kernel
theorem d_Mo_isWord_5 : decode b_Mo_isWord 5 = .ok (.getfield 136, 3) := by decide +kernel
theorem d_Mo_isWord_8 : decode b_Mo_isWord 8 = .ok (.isub, 1) := by decide +kernel
theorem d_Mo_isWord_9 : decode b_Mo_isWord 9 = .ok (.iload_n 2, 1) := by decide +kernel
theorem d_Mo_isWord_10 : decode b_Mo_isWord 10 = .ok (.if_icmp .ne 7, 3) := by decide +kernel
theorem d_Mo_isWord_13 : decode b_Mo_isWord 13 = .ok (.iconst 1, 1) := by decide +kernel
theorem d_Mo_isWord_14 : decode b_Mo_isWord 14 = .ok (.goto 4, 3) := by decide +kernel
theorem d_Mo_isWord_17 : decode b_Mo_isWord 17 = .ok (.iconst 0, 1) := by decide +kernel
theorem d_Mo_isWord_18 : decode b_Mo_isWord 18 = .ok (.istore_n 3, 1) := by decide +kernel
theorem d_Mo_isWord_19 : decode b_Mo_isWord 19 = .ok (.iconst 0, 1) := by decide +kernel
theorem d_Mo_isWord_20 : decode b_Mo_isWord 20 = .ok (.istore 4, 2) := by decide +kernel
theorem d_Mo_isWord_22 : decode b_Mo_isWord 22 = .ok (.iload_n 3, 1) := by decide +kernel
theorem d_Mo_isWord_23 : decode b_Mo_isWord 23 = .ok (.ifCond .eq 48, 3) := by decide +kernel
theorem d_Mo_isWord_26 : decode b_Mo_isWord 26 = .ok (.iload 4, 2) := by decide +kernel
theorem d_Mo_isWord_28 : decode b_Mo_isWord 28 = .ok (.iload_n 2, 1) := by decide +kernel
theorem d_Mo_isWord_29 : decode b_Mo_isWord 29 = .ok (.if_icmp .ge 42, 3) := by decide +kernel
theorem d_Mo_isWord_32 : decode b_Mo_isWord 32 = .ok (.aload_n 0, 1) := by decide +kernel
theorem d_Mo_isWord_33 : decode b_Mo_isWord 33 = .ok (.getfield 13, 3) := by decide +kernel
theorem d_Mo_isWord_36 : decode b_Mo_isWord 36 = .ok (.aload_n 0, 1) := by decide +kernel
theorem d_Mo_isWord_37 : decode b_Mo_isWord 37 = .ok (.getfield 136, 3) := by decide +kernel
theorem d_Mo_isWord_40 : decode b_Mo_isWord 40 = .ok (.iload 4, 2) := by decide +kernel
theorem d_Mo_isWord_42 : decode b_Mo_isWord 42 = .ok (.iadd, 1) := by decide +kernel
theorem d_Mo_isWord_43 : decode b_Mo_isWord 43 = .ok (.iaload, 1) := by decide +kernel
theorem d_Mo_isWord_44 : decode b_Mo_isWord 44 = .ok (.bipush 96, 2) := by decide +kernel
theorem d_Mo_isWord_46 : decode b_Mo_isWord 46 = .ok (.iload_n 1, 1) := by decide +kernel
theorem d_Mo_isWord_47 : decode b_Mo_isWord 47 = .ok (.iconst 5, 1) := by decide +kernel
theorem d_Mo_isWord_48 : decode b_Mo_isWord 48 = .ok (.iload 4, 2) := by decide +kernel
theorem d_Mo_isWord_50 : decode b_Mo_isWord 50 = .ok (.imul, 1) := by decide +kernel
theorem d_Mo_isWord_51 : decode b_Mo_isWord 51 = .ok (.ishr, 1) := by decide +kernel
theorem d_Mo_isWord_52 : decode b_Mo_isWord 52 = .ok (.bipush 31, 2) := by decide +kernel
theorem d_Mo_isWord_54 : decode b_Mo_isWord 54 = .ok (.iand, 1) := by decide +kernel
theorem d_Mo_isWord_55 : decode b_Mo_isWord 55 = .ok (.iadd, 1) := by decide +kernel
theorem d_Mo_isWord_56 : decode b_Mo_isWord 56 = .ok (.if_icmp .ne 7, 3) := by decide +kernel
theorem d_Mo_isWord_59 : decode b_Mo_isWord 59 = .ok (.iconst 1, 1) := by decide +kernel
theorem d_Mo_isWord_60 : decode b_Mo_isWord 60 = .ok (.goto 4, 3) := by decide +kernel
theorem d_Mo_isWord_63 : decode b_Mo_isWord 63 = .ok (.iconst 0, 1) := by decide +kernel
theorem d_Mo_isWord_64 : decode b_Mo_isWord 64 = .ok (.istore_n 3, 1) := by decide +kernel
theorem d_Mo_isWord_65 : decode b_Mo_isWord 65 = .ok (.iinc 4 1, 3) := by decide +kernel
theorem d_Mo_isWord_68 : decode b_Mo_isWord 68 = .ok (.goto (-46), 3) := by decide +kernel
theorem d_Mo_isWord_71 : decode b_Mo_isWord 71 = .ok (.iload_n 3, 1) := by decide +kernel
theorem d_Mo_isWord_72 : decode b_Mo_isWord 72 = .ok (.ireturn, 1) := by decide +kernel
theorem d_Mo_itemWord_0 : decode b_Mo_itemWord 0 = .ok (.aload_n 0, 1) := by decide +kernel
theorem d_Mo_itemWord_1 : decode b_Mo_itemWord 1 = .ok (.ldc 145, 2) := by decide +kernel
theorem d_Mo_itemWord_3 : decode b_Mo_itemWord 3 = .ok (.bipush 6, 2) := by decide +kernel
theorem d_Mo_itemWord_5 : decode b_Mo_itemWord 5 = .ok (.invokevirtual 146, 3) := by decide +kernel
theorem d_Mo_itemWord_8 : decode b_Mo_itemWord 8 = .ok (.ifCond .eq 7, 3) := by decide +kernel
theorem d_Mo_itemWord_11 : decode b_Mo_itemWord 11 = .ok (.iconst 0, 1) := by decide +kernel
theorem d_Mo_itemWord_12 : decode b_Mo_itemWord 12 = .ok (.goto 77, 3) := by decide +kernel
theorem d_Mo_itemWord_15 : decode b_Mo_itemWord 15 = .ok (.aload_n 0, 1) := by decide +kernel
theorem d_Mo_itemWord_16 : decode b_Mo_itemWord 16 = .ok (.ldc 150, 2) := by decide +kernel
theorem d_Mo_itemWord_18 : decode b_Mo_itemWord 18 = .ok (.bipush 6, 2) := by decide +kernel
theorem d_Mo_itemWord_20 : decode b_Mo_itemWord 20 = .ok (.invokevirtual 146, 3) := by decide +kernel
theorem d_Mo_itemWord_23 : decode b_Mo_itemWord 23 = .ok (.ifCond .eq 7, 3) := by decide +kernel
theorem d_Mo_itemWord_26 : decode b_Mo_itemWord 26 = .ok (.iconst 1, 1) := by decide +kernel
theorem d_Mo_itemWord_27 : decode b_Mo_itemWord 27 = .ok (.goto 62, 3) := by decide +kernel
theorem d_Mo_itemWord_30 : decode b_Mo_itemWord 30 = .ok (.aload_n 0, 1) := by decide +kernel
theorem d_Mo_itemWord_31 : decode b_Mo_itemWord 31 = .ok (.sipush 18721, 3) := by decide +kernel
theorem d_Mo_itemWord_34 : decode b_Mo_itemWord 34 = .ok (.iconst 3, 1) := by decide +kernel
theorem d_Mo_itemWord_35 : decode b_Mo_itemWord 35 = .ok (.invokevirtual 146, 3) := by decide +kernel
theorem d_Mo_itemWord_38 : decode b_Mo_itemWord 38 = .ok (.ifCond .eq 7, 3) := by decide +kernel
theorem d_Mo_itemWord_41 : decode b_Mo_itemWord 41 = .ok (.iconst 2, 1) := by decide +kernel
theorem d_Mo_itemWord_42 : decode b_Mo_itemWord 42 = .ok (.goto 47, 3) := by decide +kernel
theorem d_Mo_itemWord_45 : decode b_Mo_itemWord 45 = .ok (.aload_n 0, 1) := by decide +kernel
theorem d_Mo_itemWord_46 : decode b_Mo_itemWord 46 = .ok (.sipush 5286, 3) := by decide +kernel
theorem d_Mo_itemWord_49 : decode b_Mo_itemWord 49 = .ok (.iconst 3, 1) := by decide +kernel
theorem d_Mo_itemWord_50 : decode b_Mo_itemWord 50 = .ok (.invokevirtual 146, 3) := by decide +kernel
theorem d_Mo_itemWord_53 : decode b_Mo_itemWord 53 = .ok (.ifCond .eq 7, 3) := by decide +kernel
theorem d_Mo_itemWord_56 : decode b_Mo_itemWord 56 = .ok (.iconst 3, 1) := by decide +kernel
theorem d_Mo_itemWord_57 : decode b_Mo_itemWord 57 = .ok (.goto 32, 3) := by decide +kernel
theorem d_Mo_itemWord_60 : decode b_Mo_itemWord 60 = .ok (.aload_n 0, 1) := by decide +kernel
theorem d_Mo_itemWord_61 : decode b_Mo_itemWord 61 = .ok (.ldc 151, 2) := by decide +kernel
theorem d_Mo_itemWord_63 : decode b_Mo_itemWord 63 = .ok (.iconst 5, 1) := by decide +kernel
theorem d_Mo_itemWord_64 : decode b_Mo_itemWord 64 = .ok (.invokevirtual 146, 3) := by decide +kernel
theorem d_Mo_itemWord_67 : decode b_Mo_itemWord 67 = .ok (.ifCond .eq 7, 3) := by decide +kernel
theorem d_Mo_itemWord_70 : decode b_Mo_itemWord 70 = .ok (.iconst 4, 1) := by decide +kernel
theorem d_Mo_itemWord_71 : decode b_Mo_itemWord 71 = .ok (.goto 18, 3) := by decide +kernel
theorem d_Mo_itemWord_74 : decode b_Mo_itemWord 74 = .ok (.aload_n 0, 1) := by decide +kernel
theorem d_Mo_itemWord_75 : decode b_Mo_itemWord 75 = .ok (.ldc 152, 2) := by decide +kernel
theorem d_Mo_itemWord_77 : decode b_Mo_itemWord 77 = .ok (.iconst 5, 1) := by decide +kernel
theorem d_Mo_itemWord_78 : decode b_Mo_itemWord 78 = .ok (.invokevirtual 146, 3) := by decide +kernel
theorem d_Mo_itemWord_81 : decode b_Mo_itemWord 81 = .ok (.ifCond .eq 7, 3) := by decide +kernel
theorem d_Mo_itemWord_84 : decode b_Mo_itemWord 84 = .ok (.iconst 5, 1) := by decide +kernel
theorem d_Mo_itemWord_85 : decode b_Mo_itemWord 85 = .ok (.goto 4, 3) := by decide +kernel
theorem d_Mo_itemWord_88 : decode b_Mo_itemWord 88 = .ok (.iconst (-1), 1) := by decide +kernel
theorem d_Mo_itemWord_89 : decode b_Mo_itemWord 89 = .ok (.ireturn, 1) := by decide +kernel
theorem d_Mo_reads_0 : decode b_Mo_reads 0 = .ok (.aload_n 0, 1) := by decide +kernel
theorem d_Mo_reads_1 : decode b_Mo_reads 1 = .ok (.getfield 136, 3) := by decide +kernel
theorem d_Mo_reads_4 : decode b_Mo_reads 4 = .ok (.aload_n 0, 1) := by decide +kernel
theorem d_Mo_reads_5 : decode b_Mo_reads 5 = .ok (.getfield 130, 3) := by decide +kernel
theorem d_Mo_reads_8 : decode b_Mo_reads 8 = .ok (.if_icmp .eq 32, 3) := by decide +kernel
theorem d_Mo_reads_11 : decode b_Mo_reads 11 = .ok (.aload_n 0, 1) := by decide +kernel
theorem d_Mo_reads_12 : decode b_Mo_reads 12 = .ok (.getfield 13, 3) := by decide +kernel
theorem d_Mo_reads_15 : decode b_Mo_reads 15 = .ok (.aload_n 0, 1) := by decide +kernel
theorem d_Mo_reads_16 : decode b_Mo_reads 16 = .ok (.getfield 136, 3) := by decide +kernel
theorem d_Mo_reads_19 : decode b_Mo_reads 19 = .ok (.iaload, 1) := by decide +kernel
theorem d_Mo_reads_20 : decode b_Mo_reads 20 = .ok (.invokestatic 139, 3) := by decide +kernel
theorem d_Mo_reads_23 : decode b_Mo_reads 23 = .ok (.iconst 2, 1) := by decide +kernel
theorem d_Mo_reads_24 : decode b_Mo_reads 24 = .ok (.if_icmp .ne 16, 3) := by decide +kernel
theorem d_Mo_reads_27 : decode b_Mo_reads 27 = .ok (.aload_n 0, 1) := by decide +kernel
theorem d_Mo_reads_28 : decode b_Mo_reads 28 = .ok (.getfield 142, 3) := by decide +kernel
theorem d_Mo_reads_31 : decode b_Mo_reads 31 = .ok (.aload_n 0, 1) := by decide +kernel
theorem d_Mo_reads_32 : decode b_Mo_reads 32 = .ok (.getfield 136, 3) := by decide +kernel
theorem d_Mo_reads_35 : decode b_Mo_reads 35 = .ok (.isub, 1) := by decide +kernel
theorem d_Mo_reads_36 : decode b_Mo_reads 36 = .ok (.iconst 2, 1) := by decide +kernel
theorem d_Mo_reads_37 : decode b_Mo_reads 37 = .ok (.if_icmp .le 5, 3) := by decide +kernel
theorem d_Mo_reads_40 : decode b_Mo_reads 40 = .ok (.iconst 0, 1) := by decide +kernel
theorem d_Mo_reads_41 : decode b_Mo_reads 41 = .ok (.ireturn, 1) := by decide +kernel
theorem d_Mo_reads_42 : decode b_Mo_reads 42 = .ok (.iconst 0, 1) := by decide +kernel
theorem d_Mo_reads_43 : decode b_Mo_reads 43 = .ok (.istore 4, 2) := by decide +kernel
theorem d_Mo_reads_45 : decode b_Mo_reads 45 = .ok (.aload_n 0, 1) := by decide +kernel
theorem d_Mo_reads_46 : decode b_Mo_reads 46 = .ok (.getfield 136, 3) := by decide +kernel
theorem d_Mo_reads_49 : decode b_Mo_reads 49 = .ok (.istore 5, 2) := by decide +kernel
theorem d_Mo_reads_51 : decode b_Mo_reads 51 = .ok (.iload 5, 2) := by decide +kernel
theorem d_Mo_reads_53 : decode b_Mo_reads 53 = .ok (.aload_n 0, 1) := by decide +kernel
theorem d_Mo_reads_54 : decode b_Mo_reads 54 = .ok (.getfield 142, 3) := by decide +kernel
theorem d_Mo_reads_57 : decode b_Mo_reads 57 = .ok (.if_icmp .ge 27, 3) := by decide +kernel
theorem d_Mo_reads_60 : decode b_Mo_reads 60 = .ok (.bipush 10, 2) := by decide +kernel
theorem d_Mo_reads_62 : decode b_Mo_reads 62 = .ok (.iload 4, 2) := by decide +kernel
theorem d_Mo_reads_64 : decode b_Mo_reads 64 = .ok (.imul, 1) := by decide +kernel
theorem d_Mo_reads_65 : decode b_Mo_reads 65 = .ok (.aload_n 0, 1) := by decide +kernel
theorem d_Mo_reads_66 : decode b_Mo_reads 66 = .ok (.getfield 13, 3) := by decide +kernel
theorem d_Mo_reads_69 : decode b_Mo_reads 69 = .ok (.iload 5, 2) := by decide +kernel
theorem d_Mo_reads_71 : decode b_Mo_reads 71 = .ok (.iaload, 1) := by decide +kernel
theorem d_Mo_reads_72 : decode b_Mo_reads 72 = .ok (.iadd, 1) := by decide +kernel
theorem d_Mo_reads_73 : decode b_Mo_reads 73 = .ok (.bipush 48, 2) := by decide +kernel
theorem d_Mo_reads_75 : decode b_Mo_reads 75 = .ok (.isub, 1) := by decide +kernel
theorem d_Mo_reads_76 : decode b_Mo_reads 76 = .ok (.istore 4, 2) := by decide +kernel
theorem d_Mo_reads_78 : decode b_Mo_reads 78 = .ok (.iinc 5 1, 3) := by decide +kernel
theorem d_Mo_reads_81 : decode b_Mo_reads 81 = .ok (.goto (-30), 3) := by decide +kernel
theorem d_Mo_reads_84 : decode b_Mo_reads 84 = .ok (.iload 4, 2) := by decide +kernel
theorem d_Mo_reads_86 : decode b_Mo_reads 86 = .ok (.i2l, 1) := by decide +kernel
theorem d_Mo_reads_87 : decode b_Mo_reads 87 = .ok (.iload_n 2, 1) := by decide +kernel
theorem d_Mo_reads_88 : decode b_Mo_reads 88 = .ok (.i2l, 1) := by decide +kernel
theorem d_Mo_reads_89 : decode b_Mo_reads 89 = .ok (.iload_n 3, 1) := by decide +kernel
theorem d_Mo_reads_90 : decode b_Mo_reads 90 = .ok (.i2l, 1) := by decide +kernel
theorem d_Mo_reads_91 : decode b_Mo_reads 91 = .ok (.invokestatic 62, 3) := by decide +kernel
theorem d_Mo_reads_94 : decode b_Mo_reads 94 = .ok (.ifCond .ne 5, 3) := by decide +kernel
theorem d_Mo_reads_97 : decode b_Mo_reads 97 = .ok (.iconst 0, 1) := by decide +kernel
theorem d_Mo_reads_98 : decode b_Mo_reads 98 = .ok (.ireturn, 1) := by decide +kernel
theorem d_Mo_reads_99 : decode b_Mo_reads 99 = .ok (.aload_n 0, 1) := by decide +kernel
theorem d_Mo_reads_100 : decode b_Mo_reads 100 = .ok (.getfield 20, 3) := by decide +kernel
theorem d_Mo_reads_103 : decode b_Mo_reads 103 = .ok (.bipush 6, 2) := by decide +kernel
theorem d_Mo_reads_105 : decode b_Mo_reads 105 = .ok (.aload_n 0, 1) := by decide +kernel
theorem d_Mo_reads_106 : decode b_Mo_reads 106 = .ok (.getfield 153, 3) := by decide +kernel
theorem d_Mo_reads_109 : decode b_Mo_reads 109 = .ok (.imul, 1) := by decide +kernel
theorem d_Mo_reads_110 : decode b_Mo_reads 110 = .ok (.iload_n 1, 1) := by decide +kernel
theorem d_Mo_reads_111 : decode b_Mo_reads 111 = .ok (.iadd, 1) := by decide +kernel
theorem d_Mo_reads_112 : decode b_Mo_reads 112 = .ok (.iload 4, 2) := by decide +kernel
theorem d_Mo_reads_114 : decode b_Mo_reads 114 = .ok (.iastore, 1) := by decide +kernel
theorem d_Mo_reads_115 : decode b_Mo_reads 115 = .ok (.aload_n 0, 1) := by decide +kernel
theorem d_Mo_reads_116 : decode b_Mo_reads 116 = .ok (.invokevirtual 156, 3) := by decide +kernel
theorem d_Mo_reads_119 : decode b_Mo_reads 119 = .ok (.iconst 1, 1) := by decide +kernel
theorem d_Mo_reads_120 : decode b_Mo_reads 120 = .ok (.ireturn, 1) := by decide +kernel
theorem d_Mo_readsMaker_0 : decode b_Mo_readsMaker 0 = .ok (.aload_n 0, 1) := by decide +kernel
theorem d_Mo_readsMaker_1 : decode b_Mo_readsMaker 1 = .ok (.dup, 1) := by decide +kernel
theorem d_Mo_readsMaker_2 : decode b_Mo_readsMaker 2 = .ok (.getfield 159, 3) := by decide +kernel
theorem d_Mo_readsMaker_5 : decode b_Mo_readsMaker 5 = .ok (.iconst 1, 1) := by decide +kernel
theorem d_Mo_readsMaker_6 : decode b_Mo_readsMaker 6 = .ok (.iadd, 1) := by decide +kernel
theorem d_Mo_readsMaker_7 : decode b_Mo_readsMaker 7 = .ok (.putfield 159, 3) := by decide +kernel
theorem d_Mo_readsMaker_10 : decode b_Mo_readsMaker 10 = .ok (.aload_n 0, 1) := by decide +kernel
theorem d_Mo_readsMaker_11 : decode b_Mo_readsMaker 11 = .ok (.iconst 1, 1) := by decide +kernel
theorem d_Mo_readsMaker_12 : decode b_Mo_readsMaker 12 = .ok (.iconst 0, 1) := by decide +kernel
theorem d_Mo_readsMaker_13 : decode b_Mo_readsMaker 13 = .ok (.iconst 5, 1) := by decide +kernel
theorem d_Mo_readsMaker_14 : decode b_Mo_readsMaker 14 = .ok (.invokevirtual 162, 3) := by decide +kernel
theorem d_Mo_readsMaker_17 : decode b_Mo_readsMaker 17 = .ok (.ifCond .eq 32, 3) := by decide +kernel
theorem d_Mo_readsMaker_20 : decode b_Mo_readsMaker 20 = .ok (.aload_n 0, 1) := by decide +kernel
theorem d_Mo_readsMaker_21 : decode b_Mo_readsMaker 21 = .ok (.iconst 2, 1) := by decide +kernel
theorem d_Mo_readsMaker_22 : decode b_Mo_readsMaker 22 = .ok (.iconst 0, 1) := by decide +kernel
theorem d_Mo_readsMaker_23 : decode b_Mo_readsMaker 23 = .ok (.aload_n 0, 1) := by decide +kernel
theorem d_Mo_readsMaker_24 : decode b_Mo_readsMaker 24 = .ok (.getfield 166, 3) := by decide +kernel
theorem d_Mo_readsMaker_27 : decode b_Mo_readsMaker 27 = .ok (.iconst 1, 1) := by decide +kernel
theorem d_Mo_readsMaker_28 : decode b_Mo_readsMaker 28 = .ok (.isub, 1) := by decide +kernel
theorem d_Mo_readsMaker_29 : decode b_Mo_readsMaker 29 = .ok (.invokevirtual 162, 3) := by decide +kernel
theorem d_Mo_readsMaker_32 : decode b_Mo_readsMaker 32 = .ok (.ifCond .eq 17, 3) := by decide +kernel
theorem d_Mo_readsMaker_35 : decode b_Mo_readsMaker 35 = .ok (.aload_n 0, 1) := by decide +kernel
theorem d_Mo_readsMaker_36 : decode b_Mo_readsMaker 36 = .ok (.iconst 3, 1) := by decide +kernel
theorem d_Mo_readsMaker_37 : decode b_Mo_readsMaker 37 = .ok (.iconst 0, 1) := by decide +kernel
theorem d_Mo_readsMaker_38 : decode b_Mo_readsMaker 38 = .ok (.iconst 5, 1) := by decide +kernel
theorem d_Mo_readsMaker_39 : decode b_Mo_readsMaker 39 = .ok (.invokevirtual 162, 3) := by decide +kernel
theorem d_Mo_readsMaker_42 : decode b_Mo_readsMaker 42 = .ok (.ifCond .eq 7, 3) := by decide +kernel
theorem d_Mo_readsMaker_45 : decode b_Mo_readsMaker 45 = .ok (.iconst 1, 1) := by decide +kernel
theorem d_Mo_readsMaker_46 : decode b_Mo_readsMaker 46 = .ok (.goto 4, 3) := by decide +kernel
theorem d_Mo_readsMaker_49 : decode b_Mo_readsMaker 49 = .ok (.iconst 0, 1) := by decide +kernel
theorem d_Mo_readsMaker_50 : decode b_Mo_readsMaker 50 = .ok (.ireturn, 1) := by decide +kernel
theorem d_Mo_readsRest_0 : decode b_Mo_readsRest 0 = .ok (.iload_n 1, 1) := by decide +kernel
theorem d_Mo_readsRest_1 : decode b_Mo_readsRest 1 = .ok (.tableswitch 172 0 4 #[35, 78, 109, 140, 167], 35) := by decide +kernel
theorem d_Mo_readsRest_36 : decode b_Mo_readsRest 36 = .ok (.aload_n 0, 1) := by decide +kernel
theorem d_Mo_readsRest_37 : decode b_Mo_readsRest 37 = .ok (.iconst 1, 1) := by decide +kernel
theorem d_Mo_readsRest_38 : decode b_Mo_readsRest 38 = .ok (.iconst 1, 1) := by decide +kernel
theorem d_Mo_readsRest_39 : decode b_Mo_readsRest 39 = .ok (.bipush 6, 2) := by decide +kernel
theorem d_Mo_readsRest_41 : decode b_Mo_readsRest 41 = .ok (.invokevirtual 162, 3) := by decide +kernel
theorem d_Mo_readsRest_44 : decode b_Mo_readsRest 44 = .ok (.ifCond .eq 14, 3) := by decide +kernel
theorem d_Mo_readsRest_47 : decode b_Mo_readsRest 47 = .ok (.aload_n 0, 1) := by decide +kernel
theorem d_Mo_readsRest_48 : decode b_Mo_readsRest 48 = .ok (.iconst 2, 1) := by decide +kernel
theorem d_Mo_readsRest_49 : decode b_Mo_readsRest 49 = .ok (.iconst 1, 1) := by decide +kernel
theorem d_Mo_readsRest_50 : decode b_Mo_readsRest 50 = .ok (.bipush 6, 2) := by decide +kernel
theorem d_Mo_readsRest_52 : decode b_Mo_readsRest 52 = .ok (.invokevirtual 162, 3) := by decide +kernel
theorem d_Mo_readsRest_55 : decode b_Mo_readsRest 55 = .ok (.ifCond .ne 5, 3) := by decide +kernel
theorem d_Mo_readsRest_58 : decode b_Mo_readsRest 58 = .ok (.iconst 0, 1) := by decide +kernel
theorem d_Mo_readsRest_59 : decode b_Mo_readsRest 59 = .ok (.ireturn, 1) := by decide +kernel
theorem d_Mo_readsRest_60 : decode b_Mo_readsRest 60 = .ok (.aload_n 0, 1) := by decide +kernel
theorem d_Mo_readsRest_61 : decode b_Mo_readsRest 61 = .ok (.aload_n 0, 1) := by decide +kernel
theorem d_Mo_readsRest_62 : decode b_Mo_readsRest 62 = .ok (.getfield 20, 3) := by decide +kernel
theorem d_Mo_readsRest_65 : decode b_Mo_readsRest 65 = .ok (.iconst 1, 1) := by decide +kernel
theorem d_Mo_readsRest_66 : decode b_Mo_readsRest 66 = .ok (.iaload, 1) := by decide +kernel
theorem d_Mo_readsRest_67 : decode b_Mo_readsRest 67 = .ok (.aload_n 0, 1) := by decide +kernel
theorem d_Mo_readsRest_68 : decode b_Mo_readsRest 68 = .ok (.getfield 20, 3) := by decide +kernel
theorem d_Mo_readsRest_71 : decode b_Mo_readsRest 71 = .ok (.iconst 2, 1) := by decide +kernel
theorem d_Mo_readsRest_72 : decode b_Mo_readsRest 72 = .ok (.iaload, 1) := by decide +kernel
theorem d_Mo_readsRest_73 : decode b_Mo_readsRest 73 = .ok (.imul, 1) := by decide +kernel
theorem d_Mo_readsRest_74 : decode b_Mo_readsRest 74 = .ok (.putfield 166, 3) := by decide +kernel
theorem d_Mo_readsRest_77 : decode b_Mo_readsRest 77 = .ok (.iconst 1, 1) := by decide +kernel
theorem d_Mo_readsRest_78 : decode b_Mo_readsRest 78 = .ok (.ireturn, 1) := by decide +kernel
theorem d_Mo_readsRest_79 : decode b_Mo_readsRest 79 = .ok (.aload_n 0, 1) := by decide +kernel
theorem d_Mo_readsRest_80 : decode b_Mo_readsRest 80 = .ok (.iconst 1, 1) := by decide +kernel
theorem d_Mo_readsRest_81 : decode b_Mo_readsRest 81 = .ok (.iconst 0, 1) := by decide +kernel
theorem d_Mo_readsRest_82 : decode b_Mo_readsRest 82 = .ok (.aload_n 0, 1) := by decide +kernel
theorem d_Mo_readsRest_83 : decode b_Mo_readsRest 83 = .ok (.getfield 166, 3) := by decide +kernel
theorem d_Mo_readsRest_86 : decode b_Mo_readsRest 86 = .ok (.iconst 1, 1) := by decide +kernel
theorem d_Mo_readsRest_87 : decode b_Mo_readsRest 87 = .ok (.isub, 1) := by decide +kernel
theorem d_Mo_readsRest_88 : decode b_Mo_readsRest 88 = .ok (.invokevirtual 162, 3) := by decide +kernel
theorem d_Mo_readsRest_91 : decode b_Mo_readsRest 91 = .ok (.ifCond .eq 17, 3) := by decide +kernel
theorem d_Mo_readsRest_94 : decode b_Mo_readsRest 94 = .ok (.aload_n 0, 1) := by decide +kernel
theorem d_Mo_readsRest_95 : decode b_Mo_readsRest 95 = .ok (.iconst 2, 1) := by decide +kernel
theorem d_Mo_readsRest_96 : decode b_Mo_readsRest 96 = .ok (.iconst 0, 1) := by decide +kernel
theorem d_Mo_readsRest_97 : decode b_Mo_readsRest 97 = .ok (.iconst 2, 1) := by decide +kernel
theorem d_Mo_readsRest_98 : decode b_Mo_readsRest 98 = .ok (.invokevirtual 162, 3) := by decide +kernel
theorem d_Mo_readsRest_101 : decode b_Mo_readsRest 101 = .ok (.ifCond .eq 7, 3) := by decide +kernel
theorem d_Mo_readsRest_104 : decode b_Mo_readsRest 104 = .ok (.iconst 1, 1) := by decide +kernel
theorem d_Mo_readsRest_105 : decode b_Mo_readsRest 105 = .ok (.goto 4, 3) := by decide +kernel
theorem d_Mo_readsRest_108 : decode b_Mo_readsRest 108 = .ok (.iconst 0, 1) := by decide +kernel
theorem d_Mo_readsRest_109 : decode b_Mo_readsRest 109 = .ok (.ireturn, 1) := by decide +kernel
theorem d_Mo_readsRest_110 : decode b_Mo_readsRest 110 = .ok (.aload_n 0, 1) := by decide +kernel
theorem d_Mo_readsRest_111 : decode b_Mo_readsRest 111 = .ok (.iconst 1, 1) := by decide +kernel
theorem d_Mo_readsRest_112 : decode b_Mo_readsRest 112 = .ok (.iconst 0, 1) := by decide +kernel
theorem d_Mo_readsRest_113 : decode b_Mo_readsRest 113 = .ok (.aload_n 0, 1) := by decide +kernel
theorem d_Mo_readsRest_114 : decode b_Mo_readsRest 114 = .ok (.getfield 166, 3) := by decide +kernel
theorem d_Mo_readsRest_117 : decode b_Mo_readsRest 117 = .ok (.iconst 1, 1) := by decide +kernel
theorem d_Mo_readsRest_118 : decode b_Mo_readsRest 118 = .ok (.isub, 1) := by decide +kernel
theorem d_Mo_readsRest_119 : decode b_Mo_readsRest 119 = .ok (.invokevirtual 162, 3) := by decide +kernel
theorem d_Mo_readsRest_122 : decode b_Mo_readsRest 122 = .ok (.ifCond .eq 17, 3) := by decide +kernel
theorem d_Mo_readsRest_125 : decode b_Mo_readsRest 125 = .ok (.aload_n 0, 1) := by decide +kernel
theorem d_Mo_readsRest_126 : decode b_Mo_readsRest 126 = .ok (.iconst 2, 1) := by decide +kernel
theorem d_Mo_readsRest_127 : decode b_Mo_readsRest 127 = .ok (.iconst 0, 1) := by decide +kernel
theorem d_Mo_readsRest_128 : decode b_Mo_readsRest 128 = .ok (.iconst 5, 1) := by decide +kernel
theorem d_Mo_readsRest_129 : decode b_Mo_readsRest 129 = .ok (.invokevirtual 162, 3) := by decide +kernel
theorem d_Mo_readsRest_132 : decode b_Mo_readsRest 132 = .ok (.ifCond .eq 7, 3) := by decide +kernel
theorem d_Mo_readsRest_135 : decode b_Mo_readsRest 135 = .ok (.iconst 1, 1) := by decide +kernel
theorem d_Mo_readsRest_136 : decode b_Mo_readsRest 136 = .ok (.goto 4, 3) := by decide +kernel
theorem d_Mo_readsRest_139 : decode b_Mo_readsRest 139 = .ok (.iconst 0, 1) := by decide +kernel
theorem d_Mo_readsRest_140 : decode b_Mo_readsRest 140 = .ok (.ireturn, 1) := by decide +kernel
theorem d_Mo_readsRest_141 : decode b_Mo_readsRest 141 = .ok (.aload_n 0, 1) := by decide +kernel
theorem d_Mo_readsRest_142 : decode b_Mo_readsRest 142 = .ok (.iconst 1, 1) := by decide +kernel
theorem d_Mo_readsRest_143 : decode b_Mo_readsRest 143 = .ok (.iconst 0, 1) := by decide +kernel
theorem d_Mo_readsRest_144 : decode b_Mo_readsRest 144 = .ok (.iconst 5, 1) := by decide +kernel
theorem d_Mo_readsRest_145 : decode b_Mo_readsRest 145 = .ok (.invokevirtual 162, 3) := by decide +kernel
theorem d_Mo_readsRest_148 : decode b_Mo_readsRest 148 = .ok (.ifCond .eq 18, 3) := by decide +kernel
theorem d_Mo_readsRest_151 : decode b_Mo_readsRest 151 = .ok (.aload_n 0, 1) := by decide +kernel
theorem d_Mo_readsRest_152 : decode b_Mo_readsRest 152 = .ok (.iconst 2, 1) := by decide +kernel
theorem d_Mo_readsRest_153 : decode b_Mo_readsRest 153 = .ok (.iconst 0, 1) := by decide +kernel
theorem d_Mo_readsRest_154 : decode b_Mo_readsRest 154 = .ok (.bipush 99, 2) := by decide +kernel
theorem d_Mo_readsRest_156 : decode b_Mo_readsRest 156 = .ok (.invokevirtual 162, 3) := by decide +kernel
theorem d_Mo_readsRest_159 : decode b_Mo_readsRest 159 = .ok (.ifCond .eq 7, 3) := by decide +kernel
theorem d_Mo_readsRest_162 : decode b_Mo_readsRest 162 = .ok (.iconst 1, 1) := by decide +kernel
theorem d_Mo_readsRest_163 : decode b_Mo_readsRest 163 = .ok (.goto 4, 3) := by decide +kernel
theorem d_Mo_readsRest_166 : decode b_Mo_readsRest 166 = .ok (.iconst 0, 1) := by decide +kernel
theorem d_Mo_readsRest_167 : decode b_Mo_readsRest 167 = .ok (.ireturn, 1) := by decide +kernel
theorem d_Mo_readsRest_168 : decode b_Mo_readsRest 168 = .ok (.aload_n 0, 1) := by decide +kernel
theorem d_Mo_readsRest_169 : decode b_Mo_readsRest 169 = .ok (.invokevirtual 169, 3) := by decide +kernel
theorem d_Mo_readsRest_172 : decode b_Mo_readsRest 172 = .ok (.ireturn, 1) := by decide +kernel
theorem d_Mo_readsRest_173 : decode b_Mo_readsRest 173 = .ok (.aload_n 0, 1) := by decide +kernel
theorem d_Mo_readsRest_174 : decode b_Mo_readsRest 174 = .ok (.dup, 1) := by decide +kernel
theorem d_Mo_readsRest_175 : decode b_Mo_readsRest 175 = .ok (.getfield 173, 3) := by decide +kernel
theorem d_Mo_readsRest_178 : decode b_Mo_readsRest 178 = .ok (.iconst 1, 1) := by decide +kernel
theorem d_Mo_readsRest_179 : decode b_Mo_readsRest 179 = .ok (.iadd, 1) := by decide +kernel
theorem d_Mo_readsRest_180 : decode b_Mo_readsRest 180 = .ok (.putfield 173, 3) := by decide +kernel
theorem d_Mo_readsRest_183 : decode b_Mo_readsRest 183 = .ok (.aload_n 0, 1) := by decide +kernel
theorem d_Mo_readsRest_184 : decode b_Mo_readsRest 184 = .ok (.iconst 1, 1) := by decide +kernel
theorem d_Mo_readsRest_185 : decode b_Mo_readsRest 185 = .ok (.iconst 0, 1) := by decide +kernel
theorem d_Mo_readsRest_186 : decode b_Mo_readsRest 186 = .ok (.aload_n 0, 1) := by decide +kernel
theorem d_Mo_readsRest_187 : decode b_Mo_readsRest 187 = .ok (.getfield 159, 3) := by decide +kernel
theorem d_Mo_readsRest_190 : decode b_Mo_readsRest 190 = .ok (.iconst 1, 1) := by decide +kernel
theorem d_Mo_readsRest_191 : decode b_Mo_readsRest 191 = .ok (.isub, 1) := by decide +kernel
theorem d_Mo_readsRest_192 : decode b_Mo_readsRest 192 = .ok (.invokevirtual 162, 3) := by decide +kernel
theorem d_Mo_readsRest_195 : decode b_Mo_readsRest 195 = .ok (.ifCond .eq 63, 3) := by decide +kernel
theorem d_Mo_readsRest_198 : decode b_Mo_readsRest 198 = .ok (.aload_n 0, 1) := by decide +kernel
theorem d_Mo_readsRest_199 : decode b_Mo_readsRest 199 = .ok (.iconst 2, 1) := by decide +kernel
theorem d_Mo_readsRest_200 : decode b_Mo_readsRest 200 = .ok (.iconst 0, 1) := by decide +kernel
theorem d_Mo_readsRest_201 : decode b_Mo_readsRest 201 = .ok (.iconst 5, 1) := by decide +kernel
theorem d_Mo_readsRest_202 : decode b_Mo_readsRest 202 = .ok (.invokevirtual 162, 3) := by decide +kernel
theorem d_Mo_readsRest_205 : decode b_Mo_readsRest 205 = .ok (.ifCond .eq 53, 3) := by decide +kernel
theorem d_Mo_readsRest_208 : decode b_Mo_readsRest 208 = .ok (.aload_n 0, 1) := by decide +kernel
theorem d_Mo_readsRest_209 : decode b_Mo_readsRest 209 = .ok (.iconst 3, 1) := by decide +kernel
theorem d_Mo_readsRest_210 : decode b_Mo_readsRest 210 = .ok (.iconst 0, 1) := by decide +kernel
theorem d_Mo_readsRest_211 : decode b_Mo_readsRest 211 = .ok (.bipush 23, 2) := by decide +kernel
theorem d_Mo_readsRest_213 : decode b_Mo_readsRest 213 = .ok (.invokevirtual 162, 3) := by decide +kernel
theorem d_Mo_readsRest_216 : decode b_Mo_readsRest 216 = .ok (.ifCond .eq 42, 3) := by decide +kernel
theorem d_Mo_readsRest_219 : decode b_Mo_readsRest 219 = .ok (.aload_n 0, 1) := by decide +kernel
theorem d_Mo_readsRest_220 : decode b_Mo_readsRest 220 = .ok (.iconst 4, 1) := by decide +kernel
theorem d_Mo_readsRest_221 : decode b_Mo_readsRest 221 = .ok (.aload_n 0, 1) := by decide +kernel
theorem d_Mo_readsRest_222 : decode b_Mo_readsRest 222 = .ok (.getfield 20, 3) := by decide +kernel
theorem d_Mo_readsRest_225 : decode b_Mo_readsRest 225 = .ok (.bipush 6, 2) := by decide +kernel
theorem d_Mo_readsRest_227 : decode b_Mo_readsRest 227 = .ok (.aload_n 0, 1) := by decide +kernel
theorem d_Mo_readsRest_228 : decode b_Mo_readsRest 228 = .ok (.getfield 153, 3) := by decide +kernel
theorem d_Mo_readsRest_231 : decode b_Mo_readsRest 231 = .ok (.imul, 1) := by decide +kernel
theorem d_Mo_readsRest_232 : decode b_Mo_readsRest 232 = .ok (.iconst 3, 1) := by decide +kernel
theorem d_Mo_readsRest_233 : decode b_Mo_readsRest 233 = .ok (.iadd, 1) := by decide +kernel
theorem d_Mo_readsRest_234 : decode b_Mo_readsRest 234 = .ok (.iaload, 1) := by decide +kernel
theorem d_Mo_readsRest_235 : decode b_Mo_readsRest 235 = .ok (.bipush 23, 2) := by decide +kernel
theorem d_Mo_readsRest_237 : decode b_Mo_readsRest 237 = .ok (.invokevirtual 162, 3) := by decide +kernel
theorem d_Mo_readsRest_240 : decode b_Mo_readsRest 240 = .ok (.ifCond .eq 18, 3) := by decide +kernel
theorem d_Mo_readsRest_243 : decode b_Mo_readsRest 243 = .ok (.aload_n 0, 1) := by decide +kernel
theorem d_Mo_readsRest_244 : decode b_Mo_readsRest 244 = .ok (.iconst 5, 1) := by decide +kernel
theorem d_Mo_readsRest_245 : decode b_Mo_readsRest 245 = .ok (.iconst 1, 1) := by decide +kernel
theorem d_Mo_readsRest_246 : decode b_Mo_readsRest 246 = .ok (.bipush 20, 2) := by decide +kernel
theorem d_Mo_readsRest_248 : decode b_Mo_readsRest 248 = .ok (.invokevirtual 162, 3) := by decide +kernel
theorem d_Mo_readsRest_251 : decode b_Mo_readsRest 251 = .ok (.ifCond .eq 7, 3) := by decide +kernel
theorem d_Mo_readsRest_254 : decode b_Mo_readsRest 254 = .ok (.iconst 1, 1) := by decide +kernel
theorem d_Mo_readsRest_255 : decode b_Mo_readsRest 255 = .ok (.goto 4, 3) := by decide +kernel
theorem d_Mo_readsRest_258 : decode b_Mo_readsRest 258 = .ok (.iconst 0, 1) := by decide +kernel
theorem d_Mo_readsRest_259 : decode b_Mo_readsRest 259 = .ok (.ireturn, 1) := by decide +kernel
theorem d_Mo_readsItem_0 : decode b_Mo_readsItem 0 = .ok (.aload_n 0, 1) := by decide +kernel
theorem d_Mo_readsItem_1 : decode b_Mo_readsItem 1 = .ok (.invokevirtual 176, 3) := by decide +kernel
theorem d_Mo_readsItem_4 : decode b_Mo_readsItem 4 = .ok (.istore_n 1, 1) := by decide +kernel
theorem d_Mo_readsItem_5 : decode b_Mo_readsItem 5 = .ok (.iload_n 1, 1) := by decide +kernel
theorem d_Mo_readsItem_6 : decode b_Mo_readsItem 6 = .ok (.iconst (-1), 1) := by decide +kernel
theorem d_Mo_readsItem_7 : decode b_Mo_readsItem 7 = .ok (.if_icmp .eq 59, 3) := by decide +kernel
theorem d_Mo_readsItem_10 : decode b_Mo_readsItem 10 = .ok (.iload_n 1, 1) := by decide +kernel
theorem d_Mo_readsItem_11 : decode b_Mo_readsItem 11 = .ok (.ifCond .ne 7, 3) := by decide +kernel
theorem d_Mo_readsItem_14 : decode b_Mo_readsItem 14 = .ok (.iconst 1, 1) := by decide +kernel
theorem d_Mo_readsItem_15 : decode b_Mo_readsItem 15 = .ok (.goto 4, 3) := by decide +kernel
theorem d_Mo_readsItem_18 : decode b_Mo_readsItem 18 = .ok (.iconst 0, 1) := by decide +kernel
theorem d_Mo_readsItem_19 : decode b_Mo_readsItem 19 = .ok (.aload_n 0, 1) := by decide +kernel
theorem d_Mo_readsItem_20 : decode b_Mo_readsItem 20 = .ok (.getfield 153, 3) := by decide +kernel
theorem d_Mo_readsItem_23 : decode b_Mo_readsItem 23 = .ok (.ifCond .ne 7, 3) := by decide +kernel
theorem d_Mo_readsItem_26 : decode b_Mo_readsItem 26 = .ok (.iconst 1, 1) := by decide +kernel
theorem d_Mo_readsItem_27 : decode b_Mo_readsItem 27 = .ok (.goto 4, 3) := by decide +kernel
theorem d_Mo_readsItem_30 : decode b_Mo_readsItem 30 = .ok (.iconst 0, 1) := by decide +kernel
theorem d_Mo_readsItem_31 : decode b_Mo_readsItem 31 = .ok (.if_icmp .ne 35, 3) := by decide +kernel
theorem d_Mo_readsItem_34 : decode b_Mo_readsItem 34 = .ok (.iload_n 1, 1) := by decide +kernel
theorem d_Mo_readsItem_35 : decode b_Mo_readsItem 35 = .ok (.iconst 4, 1) := by decide +kernel
theorem d_Mo_readsItem_36 : decode b_Mo_readsItem 36 = .ok (.if_icmp .ne 12, 3) := by decide +kernel
theorem d_Mo_readsItem_39 : decode b_Mo_readsItem 39 = .ok (.aload_n 0, 1) := by decide +kernel
theorem d_Mo_readsItem_40 : decode b_Mo_readsItem 40 = .ok (.getfield 159, 3) := by decide +kernel
theorem d_Mo_readsItem_43 : decode b_Mo_readsItem 43 = .ok (.bipush 6, 2) := by decide +kernel
theorem d_Mo_readsItem_45 : decode b_Mo_readsItem 45 = .ok (.if_icmp .eq 21, 3) := by decide +kernel
theorem d_Mo_readsItem_48 : decode b_Mo_readsItem 48 = .ok (.iload_n 1, 1) := by decide +kernel
theorem d_Mo_readsItem_49 : decode b_Mo_readsItem 49 = .ok (.iconst 5, 1) := by decide +kernel
theorem d_Mo_readsItem_50 : decode b_Mo_readsItem 50 = .ok (.if_icmp .ne 12, 3) := by decide +kernel
theorem d_Mo_readsItem_53 : decode b_Mo_readsItem 53 = .ok (.aload_n 0, 1) := by decide +kernel
theorem d_Mo_readsItem_54 : decode b_Mo_readsItem 54 = .ok (.getfield 173, 3) := by decide +kernel
theorem d_Mo_readsItem_57 : decode b_Mo_readsItem 57 = .ok (.bipush 8, 2) := by decide +kernel
theorem d_Mo_readsItem_59 : decode b_Mo_readsItem 59 = .ok (.if_icmp .eq 7, 3) := by decide +kernel
theorem d_Mo_readsItem_62 : decode b_Mo_readsItem 62 = .ok (.iconst 1, 1) := by decide +kernel
theorem d_Mo_readsItem_63 : decode b_Mo_readsItem 63 = .ok (.goto 4, 3) := by decide +kernel
theorem d_Mo_readsItem_66 : decode b_Mo_readsItem 66 = .ok (.iconst 0, 1) := by decide +kernel
theorem d_Mo_readsItem_67 : decode b_Mo_readsItem 67 = .ok (.istore_n 2, 1) := by decide +kernel
theorem d_Mo_readsItem_68 : decode b_Mo_readsItem 68 = .ok (.iload_n 2, 1) := by decide +kernel
theorem d_Mo_readsItem_69 : decode b_Mo_readsItem 69 = .ok (.ifCond .ne 5, 3) := by decide +kernel
theorem d_Mo_readsItem_72 : decode b_Mo_readsItem 72 = .ok (.iconst 0, 1) := by decide +kernel
theorem d_Mo_readsItem_73 : decode b_Mo_readsItem 73 = .ok (.ireturn, 1) := by decide +kernel
theorem d_Mo_readsItem_74 : decode b_Mo_readsItem 74 = .ok (.aload_n 0, 1) := by decide +kernel
theorem d_Mo_readsItem_75 : decode b_Mo_readsItem 75 = .ok (.getfield 20, 3) := by decide +kernel
theorem d_Mo_readsItem_78 : decode b_Mo_readsItem 78 = .ok (.bipush 6, 2) := by decide +kernel
theorem d_Mo_readsItem_80 : decode b_Mo_readsItem 80 = .ok (.aload_n 0, 1) := by decide +kernel
theorem d_Mo_readsItem_81 : decode b_Mo_readsItem 81 = .ok (.getfield 153, 3) := by decide +kernel
theorem d_Mo_readsItem_84 : decode b_Mo_readsItem 84 = .ok (.imul, 1) := by decide +kernel
theorem d_Mo_readsItem_85 : decode b_Mo_readsItem 85 = .ok (.iload_n 1, 1) := by decide +kernel
theorem d_Mo_readsItem_86 : decode b_Mo_readsItem 86 = .ok (.iastore, 1) := by decide +kernel
theorem d_Mo_readsItem_87 : decode b_Mo_readsItem 87 = .ok (.aload_n 0, 1) := by decide +kernel
theorem d_Mo_readsItem_88 : decode b_Mo_readsItem 88 = .ok (.invokevirtual 156, 3) := by decide +kernel
theorem d_Mo_readsItem_91 : decode b_Mo_readsItem 91 = .ok (.aload_n 0, 1) := by decide +kernel
theorem d_Mo_readsItem_92 : decode b_Mo_readsItem 92 = .ok (.iload_n 1, 1) := by decide +kernel
theorem d_Mo_readsItem_93 : decode b_Mo_readsItem 93 = .ok (.invokevirtual 179, 3) := by decide +kernel
theorem d_Mo_readsItem_96 : decode b_Mo_readsItem 96 = .ok (.ifCond .eq 28, 3) := by decide +kernel
theorem d_Mo_readsItem_99 : decode b_Mo_readsItem 99 = .ok (.aload_n 0, 1) := by decide +kernel
theorem d_Mo_readsItem_100 : decode b_Mo_readsItem 100 = .ok (.getfield 136, 3) := by decide +kernel
theorem d_Mo_readsItem_103 : decode b_Mo_readsItem 103 = .ok (.aload_n 0, 1) := by decide +kernel
theorem d_Mo_readsItem_104 : decode b_Mo_readsItem 104 = .ok (.getfield 130, 3) := by decide +kernel
theorem d_Mo_readsItem_107 : decode b_Mo_readsItem 107 = .ok (.if_icmp .eq 17, 3) := by decide +kernel
theorem d_Mo_readsItem_110 : decode b_Mo_readsItem 110 = .ok (.aload_n 0, 1) := by decide +kernel
theorem d_Mo_readsItem_111 : decode b_Mo_readsItem 111 = .ok (.getfield 13, 3) := by decide +kernel
theorem d_Mo_readsItem_114 : decode b_Mo_readsItem 114 = .ok (.aload_n 0, 1) := by decide +kernel
theorem d_Mo_readsItem_115 : decode b_Mo_readsItem 115 = .ok (.getfield 136, 3) := by decide +kernel
theorem d_Mo_readsItem_118 : decode b_Mo_readsItem 118 = .ok (.iaload, 1) := by decide +kernel
theorem d_Mo_readsItem_119 : decode b_Mo_readsItem 119 = .ok (.bipush 59, 2) := by decide +kernel
theorem d_Mo_readsItem_121 : decode b_Mo_readsItem 121 = .ok (.if_icmp .eq 5, 3) := by decide +kernel
theorem d_Mo_readsItem_124 : decode b_Mo_readsItem 124 = .ok (.iconst 0, 1) := by decide +kernel
theorem d_Mo_readsItem_125 : decode b_Mo_readsItem 125 = .ok (.ireturn, 1) := by decide +kernel
theorem d_Mo_readsItem_126 : decode b_Mo_readsItem 126 = .ok (.aload_n 0, 1) := by decide +kernel
theorem d_Mo_readsItem_127 : decode b_Mo_readsItem 127 = .ok (.invokevirtual 156, 3) := by decide +kernel
theorem d_Mo_readsItem_130 : decode b_Mo_readsItem 130 = .ok (.aload_n 0, 1) := by decide +kernel
theorem d_Mo_readsItem_131 : decode b_Mo_readsItem 131 = .ok (.dup, 1) := by decide +kernel
theorem d_Mo_readsItem_132 : decode b_Mo_readsItem 132 = .ok (.getfield 153, 3) := by decide +kernel
theorem d_Mo_readsItem_135 : decode b_Mo_readsItem 135 = .ok (.iconst 1, 1) := by decide +kernel
theorem d_Mo_readsItem_136 : decode b_Mo_readsItem 136 = .ok (.iadd, 1) := by decide +kernel
theorem d_Mo_readsItem_137 : decode b_Mo_readsItem 137 = .ok (.putfield 153, 3) := by decide +kernel
theorem d_Mo_readsItem_140 : decode b_Mo_readsItem 140 = .ok (.iconst 1, 1) := by decide +kernel
theorem d_Mo_readsItem_141 : decode b_Mo_readsItem 141 = .ok (.ireturn, 1) := by decide +kernel
theorem d_Mo_fault_0 : decode b_Mo_fault 0 = .ok (.aload_n 0, 1) := by decide +kernel
theorem d_Mo_fault_1 : decode b_Mo_fault 1 = .ok (.iconst 0, 1) := by decide +kernel
theorem d_Mo_fault_2 : decode b_Mo_fault 2 = .ok (.putfield 133, 3) := by decide +kernel
theorem d_Mo_fault_5 : decode b_Mo_fault 5 = .ok (.aload_n 0, 1) := by decide +kernel
theorem d_Mo_fault_6 : decode b_Mo_fault 6 = .ok (.iconst 0, 1) := by decide +kernel
theorem d_Mo_fault_7 : decode b_Mo_fault 7 = .ok (.putfield 153, 3) := by decide +kernel
theorem d_Mo_fault_10 : decode b_Mo_fault 10 = .ok (.aload_n 0, 1) := by decide +kernel
theorem d_Mo_fault_11 : decode b_Mo_fault 11 = .ok (.iconst 0, 1) := by decide +kernel
theorem d_Mo_fault_12 : decode b_Mo_fault 12 = .ok (.putfield 159, 3) := by decide +kernel
theorem d_Mo_fault_15 : decode b_Mo_fault 15 = .ok (.aload_n 0, 1) := by decide +kernel
theorem d_Mo_fault_16 : decode b_Mo_fault 16 = .ok (.iconst 0, 1) := by decide +kernel
theorem d_Mo_fault_17 : decode b_Mo_fault 17 = .ok (.putfield 173, 3) := by decide +kernel
theorem d_Mo_fault_20 : decode b_Mo_fault 20 = .ok (.aload_n 0, 1) := by decide +kernel
theorem d_Mo_fault_21 : decode b_Mo_fault 21 = .ok (.invokevirtual 156, 3) := by decide +kernel
theorem d_Mo_fault_24 : decode b_Mo_fault 24 = .ok (.aload_n 0, 1) := by decide +kernel
theorem d_Mo_fault_25 : decode b_Mo_fault 25 = .ok (.invokevirtual 182, 3) := by decide +kernel
theorem d_Mo_fault_28 : decode b_Mo_fault 28 = .ok (.istore_n 1, 1) := by decide +kernel
theorem d_Mo_fault_29 : decode b_Mo_fault 29 = .ok (.iload_n 1, 1) := by decide +kernel
theorem d_Mo_fault_30 : decode b_Mo_fault 30 = .ok (.ifCond .eq 22, 3) := by decide +kernel
theorem d_Mo_fault_33 : decode b_Mo_fault 33 = .ok (.aload_n 0, 1) := by decide +kernel
theorem d_Mo_fault_34 : decode b_Mo_fault 34 = .ok (.getfield 136, 3) := by decide +kernel
theorem d_Mo_fault_37 : decode b_Mo_fault 37 = .ok (.aload_n 0, 1) := by decide +kernel
theorem d_Mo_fault_38 : decode b_Mo_fault 38 = .ok (.getfield 130, 3) := by decide +kernel
theorem d_Mo_fault_41 : decode b_Mo_fault 41 = .ok (.if_icmp .ge 11, 3) := by decide +kernel
theorem d_Mo_fault_44 : decode b_Mo_fault 44 = .ok (.aload_n 0, 1) := by decide +kernel
theorem d_Mo_fault_45 : decode b_Mo_fault 45 = .ok (.invokevirtual 182, 3) := by decide +kernel
theorem d_Mo_fault_48 : decode b_Mo_fault 48 = .ok (.istore_n 1, 1) := by decide +kernel
theorem d_Mo_fault_49 : decode b_Mo_fault 49 = .ok (.goto (-20), 3) := by decide +kernel
theorem d_Mo_fault_52 : decode b_Mo_fault 52 = .ok (.iload_n 1, 1) := by decide +kernel
theorem d_Mo_fault_53 : decode b_Mo_fault 53 = .ok (.ifCond .eq 7, 3) := by decide +kernel
theorem d_Mo_fault_56 : decode b_Mo_fault 56 = .ok (.iconst (-1), 1) := by decide +kernel
theorem d_Mo_fault_57 : decode b_Mo_fault 57 = .ok (.goto 7, 3) := by decide +kernel
theorem d_Mo_fault_60 : decode b_Mo_fault 60 = .ok (.aload_n 0, 1) := by decide +kernel
theorem d_Mo_fault_61 : decode b_Mo_fault 61 = .ok (.getfield 136, 3) := by decide +kernel
theorem d_Mo_fault_64 : decode b_Mo_fault 64 = .ok (.ireturn, 1) := by decide +kernel
theorem d_Mo_tell_0 : decode b_Mo_tell 0 = .ok (.aload_n 0, 1) := by decide +kernel
theorem d_Mo_tell_1 : decode b_Mo_tell 1 = .ok (.getfield 20, 3) := by decide +kernel
theorem d_Mo_tell_4 : decode b_Mo_tell 4 = .ok (.iload_n 1, 1) := by decide +kernel
theorem d_Mo_tell_5 : decode b_Mo_tell 5 = .ok (.iconst 1, 1) := by decide +kernel
theorem d_Mo_tell_6 : decode b_Mo_tell 6 = .ok (.iadd, 1) := by decide +kernel
theorem d_Mo_tell_7 : decode b_Mo_tell 7 = .ok (.iaload, 1) := by decide +kernel
theorem d_Mo_tell_8 : decode b_Mo_tell 8 = .ok (.istore_n 2, 1) := by decide +kernel
theorem d_Mo_tell_9 : decode b_Mo_tell 9 = .ok (.aload_n 0, 1) := by decide +kernel
theorem d_Mo_tell_10 : decode b_Mo_tell 10 = .ok (.getfield 20, 3) := by decide +kernel
theorem d_Mo_tell_13 : decode b_Mo_tell 13 = .ok (.iload_n 1, 1) := by decide +kernel
theorem d_Mo_tell_14 : decode b_Mo_tell 14 = .ok (.iconst 2, 1) := by decide +kernel
theorem d_Mo_tell_15 : decode b_Mo_tell 15 = .ok (.iadd, 1) := by decide +kernel
theorem d_Mo_tell_16 : decode b_Mo_tell 16 = .ok (.iaload, 1) := by decide +kernel
theorem d_Mo_tell_17 : decode b_Mo_tell 17 = .ok (.istore_n 3, 1) := by decide +kernel
theorem d_Mo_tell_18 : decode b_Mo_tell 18 = .ok (.aload_n 0, 1) := by decide +kernel
theorem d_Mo_tell_19 : decode b_Mo_tell 19 = .ok (.getfield 20, 3) := by decide +kernel
theorem d_Mo_tell_22 : decode b_Mo_tell 22 = .ok (.iload_n 1, 1) := by decide +kernel
theorem d_Mo_tell_23 : decode b_Mo_tell 23 = .ok (.iaload, 1) := by decide +kernel
theorem d_Mo_tell_24 : decode b_Mo_tell 24 = .ok (.tableswitch 91 0 4 #[36, 43, 53, 64, 75], 36) := by decide +kernel
theorem d_Mo_tell_60 : decode b_Mo_tell 60 = .ok (.aload_n 0, 1) := by decide +kernel
theorem d_Mo_tell_61 : decode b_Mo_tell 61 = .ok (.iload_n 2, 1) := by decide +kernel
theorem d_Mo_tell_62 : decode b_Mo_tell 62 = .ok (.iload_n 3, 1) := by decide +kernel
theorem d_Mo_tell_63 : decode b_Mo_tell 63 = .ok (.invokevirtual 44, 3) := by decide +kernel
theorem d_Mo_tell_66 : decode b_Mo_tell 66 = .ok (.return_, 1) := by decide +kernel
theorem d_Mo_tell_67 : decode b_Mo_tell 67 = .ok (.aload_n 0, 1) := by decide +kernel
theorem d_Mo_tell_68 : decode b_Mo_tell 68 = .ok (.getfield 7, 3) := by decide +kernel
theorem d_Mo_tell_71 : decode b_Mo_tell 71 = .ok (.iconst 2, 1) := by decide +kernel
theorem d_Mo_tell_72 : decode b_Mo_tell 72 = .ok (.iload_n 2, 1) := by decide +kernel
theorem d_Mo_tell_73 : decode b_Mo_tell 73 = .ok (.iadd, 1) := by decide +kernel
theorem d_Mo_tell_74 : decode b_Mo_tell 74 = .ok (.iload_n 3, 1) := by decide +kernel
theorem d_Mo_tell_75 : decode b_Mo_tell 75 = .ok (.iastore, 1) := by decide +kernel
theorem d_Mo_tell_76 : decode b_Mo_tell 76 = .ok (.return_, 1) := by decide +kernel
theorem d_Mo_tell_77 : decode b_Mo_tell 77 = .ok (.aload_n 0, 1) := by decide +kernel
theorem d_Mo_tell_78 : decode b_Mo_tell 78 = .ok (.getfield 7, 3) := by decide +kernel
theorem d_Mo_tell_81 : decode b_Mo_tell 81 = .ok (.bipush 38, 2) := by decide +kernel
theorem d_Mo_tell_83 : decode b_Mo_tell 83 = .ok (.iload_n 2, 1) := by decide +kernel
theorem d_Mo_tell_84 : decode b_Mo_tell 84 = .ok (.iadd, 1) := by decide +kernel
theorem d_Mo_tell_85 : decode b_Mo_tell 85 = .ok (.iload_n 3, 1) := by decide +kernel
theorem d_Mo_tell_86 : decode b_Mo_tell 86 = .ok (.iastore, 1) := by decide +kernel
theorem d_Mo_tell_87 : decode b_Mo_tell 87 = .ok (.return_, 1) := by decide +kernel
theorem d_Mo_tell_88 : decode b_Mo_tell 88 = .ok (.aload_n 0, 1) := by decide +kernel
theorem d_Mo_tell_89 : decode b_Mo_tell 89 = .ok (.getfield 7, 3) := by decide +kernel
theorem d_Mo_tell_92 : decode b_Mo_tell 92 = .ok (.bipush 110, 2) := by decide +kernel
theorem d_Mo_tell_94 : decode b_Mo_tell 94 = .ok (.iload_n 2, 1) := by decide +kernel
theorem d_Mo_tell_95 : decode b_Mo_tell 95 = .ok (.iadd, 1) := by decide +kernel
theorem d_Mo_tell_96 : decode b_Mo_tell 96 = .ok (.iload_n 3, 1) := by decide +kernel
theorem d_Mo_tell_97 : decode b_Mo_tell 97 = .ok (.iastore, 1) := by decide +kernel
theorem d_Mo_tell_98 : decode b_Mo_tell 98 = .ok (.return_, 1) := by decide +kernel
theorem d_Mo_tell_99 : decode b_Mo_tell 99 = .ok (.aload_n 0, 1) := by decide +kernel
theorem d_Mo_tell_100 : decode b_Mo_tell 100 = .ok (.iload_n 2, 1) := by decide +kernel
theorem d_Mo_tell_101 : decode b_Mo_tell 101 = .ok (.iload_n 3, 1) := by decide +kernel
theorem d_Mo_tell_102 : decode b_Mo_tell 102 = .ok (.aload_n 0, 1) := by decide +kernel
theorem d_Mo_tell_103 : decode b_Mo_tell 103 = .ok (.getfield 20, 3) := by decide +kernel
theorem d_Mo_tell_106 : decode b_Mo_tell 106 = .ok (.iload_n 1, 1) := by decide +kernel
theorem d_Mo_tell_107 : decode b_Mo_tell 107 = .ok (.iconst 3, 1) := by decide +kernel
theorem d_Mo_tell_108 : decode b_Mo_tell 108 = .ok (.iadd, 1) := by decide +kernel
theorem d_Mo_tell_109 : decode b_Mo_tell 109 = .ok (.iaload, 1) := by decide +kernel
theorem d_Mo_tell_110 : decode b_Mo_tell 110 = .ok (.invokevirtual 108, 3) := by decide +kernel
theorem d_Mo_tell_113 : decode b_Mo_tell 113 = .ok (.pop, 1) := by decide +kernel
theorem d_Mo_tell_114 : decode b_Mo_tell 114 = .ok (.return_, 1) := by decide +kernel
theorem d_Mo_tell_115 : decode b_Mo_tell 115 = .ok (.aload_n 0, 1) := by decide +kernel
theorem d_Mo_tell_116 : decode b_Mo_tell 116 = .ok (.iload_n 2, 1) := by decide +kernel
theorem d_Mo_tell_117 : decode b_Mo_tell 117 = .ok (.iload_n 3, 1) := by decide +kernel
theorem d_Mo_tell_118 : decode b_Mo_tell 118 = .ok (.aload_n 0, 1) := by decide +kernel
theorem d_Mo_tell_119 : decode b_Mo_tell 119 = .ok (.getfield 20, 3) := by decide +kernel
theorem d_Mo_tell_122 : decode b_Mo_tell 122 = .ok (.iload_n 1, 1) := by decide +kernel
theorem d_Mo_tell_123 : decode b_Mo_tell 123 = .ok (.iconst 3, 1) := by decide +kernel
theorem d_Mo_tell_124 : decode b_Mo_tell 124 = .ok (.iadd, 1) := by decide +kernel
theorem d_Mo_tell_125 : decode b_Mo_tell 125 = .ok (.iaload, 1) := by decide +kernel
theorem d_Mo_tell_126 : decode b_Mo_tell 126 = .ok (.aload_n 0, 1) := by decide +kernel
theorem d_Mo_tell_127 : decode b_Mo_tell 127 = .ok (.getfield 20, 3) := by decide +kernel
theorem d_Mo_tell_130 : decode b_Mo_tell 130 = .ok (.iload_n 1, 1) := by decide +kernel
theorem d_Mo_tell_131 : decode b_Mo_tell 131 = .ok (.iconst 4, 1) := by decide +kernel
theorem d_Mo_tell_132 : decode b_Mo_tell 132 = .ok (.iadd, 1) := by decide +kernel
theorem d_Mo_tell_133 : decode b_Mo_tell 133 = .ok (.iaload, 1) := by decide +kernel
theorem d_Mo_tell_134 : decode b_Mo_tell 134 = .ok (.aload_n 0, 1) := by decide +kernel
theorem d_Mo_tell_135 : decode b_Mo_tell 135 = .ok (.getfield 20, 3) := by decide +kernel
theorem d_Mo_tell_138 : decode b_Mo_tell 138 = .ok (.iload_n 1, 1) := by decide +kernel
theorem d_Mo_tell_139 : decode b_Mo_tell 139 = .ok (.iconst 5, 1) := by decide +kernel
theorem d_Mo_tell_140 : decode b_Mo_tell 140 = .ok (.iadd, 1) := by decide +kernel
theorem d_Mo_tell_141 : decode b_Mo_tell 141 = .ok (.iaload, 1) := by decide +kernel
theorem d_Mo_tell_142 : decode b_Mo_tell 142 = .ok (.invokevirtual 115, 3) := by decide +kernel
theorem d_Mo_tell_145 : decode b_Mo_tell 145 = .ok (.pop, 1) := by decide +kernel
theorem d_Mo_tell_146 : decode b_Mo_tell 146 = .ok (.return_, 1) := by decide +kernel
theorem d_Mo_read_0 : decode b_Mo_read 0 = .ok (.aload_n 0, 1) := by decide +kernel
theorem d_Mo_read_1 : decode b_Mo_read 1 = .ok (.invokevirtual 185, 3) := by decide +kernel
theorem d_Mo_read_4 : decode b_Mo_read 4 = .ok (.istore_n 1, 1) := by decide +kernel
theorem d_Mo_read_5 : decode b_Mo_read 5 = .ok (.iload_n 1, 1) := by decide +kernel
theorem d_Mo_read_6 : decode b_Mo_read 6 = .ok (.iconst (-1), 1) := by decide +kernel
theorem d_Mo_read_7 : decode b_Mo_read 7 = .ok (.if_icmp .eq 8, 3) := by decide +kernel
theorem d_Mo_read_10 : decode b_Mo_read 10 = .ok (.bipush (-10), 2) := by decide +kernel
theorem d_Mo_read_12 : decode b_Mo_read 12 = .ok (.iload_n 1, 1) := by decide +kernel
theorem d_Mo_read_13 : decode b_Mo_read 13 = .ok (.isub, 1) := by decide +kernel
theorem d_Mo_read_14 : decode b_Mo_read 14 = .ok (.ireturn, 1) := by decide +kernel
theorem d_Mo_read_15 : decode b_Mo_read 15 = .ok (.iconst 0, 1) := by decide +kernel
theorem d_Mo_read_16 : decode b_Mo_read 16 = .ok (.istore_n 2, 1) := by decide +kernel
theorem d_Mo_read_17 : decode b_Mo_read 17 = .ok (.iload_n 2, 1) := by decide +kernel
theorem d_Mo_read_18 : decode b_Mo_read 18 = .ok (.aload_n 0, 1) := by decide +kernel
theorem d_Mo_read_19 : decode b_Mo_read 19 = .ok (.getfield 153, 3) := by decide +kernel
theorem d_Mo_read_22 : decode b_Mo_read 22 = .ok (.if_icmp .ge 17, 3) := by decide +kernel
theorem d_Mo_read_25 : decode b_Mo_read 25 = .ok (.aload_n 0, 1) := by decide +kernel
theorem d_Mo_read_26 : decode b_Mo_read 26 = .ok (.bipush 6, 2) := by decide +kernel
theorem d_Mo_read_28 : decode b_Mo_read 28 = .ok (.iload_n 2, 1) := by decide +kernel
theorem d_Mo_read_29 : decode b_Mo_read 29 = .ok (.imul, 1) := by decide +kernel
theorem d_Mo_read_30 : decode b_Mo_read 30 = .ok (.invokevirtual 188, 3) := by decide +kernel
theorem d_Mo_read_33 : decode b_Mo_read 33 = .ok (.iinc 2 1, 3) := by decide +kernel
theorem d_Mo_read_36 : decode b_Mo_read 36 = .ok (.goto (-19), 3) := by decide +kernel
theorem d_Mo_read_39 : decode b_Mo_read 39 = .ok (.aload_n 0, 1) := by decide +kernel
theorem d_Mo_read_40 : decode b_Mo_read 40 = .ok (.getfield 153, 3) := by decide +kernel
theorem d_Mo_read_43 : decode b_Mo_read 43 = .ok (.ireturn, 1) := by decide +kernel
theorem d_Mo_groundOf_0 : decode b_Mo_groundOf 0 = .ok (.aload_n 0, 1) := by decide +kernel
theorem d_Mo_groundOf_1 : decode b_Mo_groundOf 1 = .ok (.getfield 192, 3) := by decide +kernel
theorem d_Mo_groundOf_4 : decode b_Mo_groundOf 4 = .ok (.iload_n 1, 1) := by decide +kernel
theorem d_Mo_groundOf_5 : decode b_Mo_groundOf 5 = .ok (.invokestatic 196, 3) := by decide +kernel
theorem d_Mo_groundOf_8 : decode b_Mo_groundOf 8 = .ok (.ifCond .eq 7, 3) := by decide +kernel
theorem d_Mo_groundOf_11 : decode b_Mo_groundOf 11 = .ok (.iconst 0, 1) := by decide +kernel
theorem d_Mo_groundOf_12 : decode b_Mo_groundOf 12 = .ok (.goto 11, 3) := by decide +kernel
theorem d_Mo_groundOf_15 : decode b_Mo_groundOf 15 = .ok (.aload_n 0, 1) := by decide +kernel
theorem d_Mo_groundOf_16 : decode b_Mo_groundOf 16 = .ok (.getfield 7, 3) := by decide +kernel
theorem d_Mo_groundOf_19 : decode b_Mo_groundOf 19 = .ok (.iconst 2, 1) := by decide +kernel
theorem d_Mo_groundOf_20 : decode b_Mo_groundOf 20 = .ok (.iload_n 1, 1) := by decide +kernel
theorem d_Mo_groundOf_21 : decode b_Mo_groundOf 21 = .ok (.iadd, 1) := by decide +kernel
theorem d_Mo_groundOf_22 : decode b_Mo_groundOf 22 = .ok (.iaload, 1) := by decide +kernel
theorem d_Mo_groundOf_23 : decode b_Mo_groundOf 23 = .ok (.ireturn, 1) := by decide +kernel
theorem d_Mo_costFrom_0 : decode b_Mo_costFrom 0 = .ok (.aload_n 0, 1) := by decide +kernel
theorem d_Mo_costFrom_1 : decode b_Mo_costFrom 1 = .ok (.iload_n 2, 1) := by decide +kernel
theorem d_Mo_costFrom_2 : decode b_Mo_costFrom 2 = .ok (.invokevirtual 200, 3) := by decide +kernel
theorem d_Mo_costFrom_5 : decode b_Mo_costFrom 5 = .ok (.iconst 1, 1) := by decide +kernel
theorem d_Mo_costFrom_6 : decode b_Mo_costFrom 6 = .ok (.if_icmp .ne 7, 3) := by decide +kernel
theorem d_Mo_costFrom_9 : decode b_Mo_costFrom 9 = .ok (.iconst 1, 1) := by decide +kernel
theorem d_Mo_costFrom_10 : decode b_Mo_costFrom 10 = .ok (.goto 4, 3) := by decide +kernel
theorem d_Mo_costFrom_13 : decode b_Mo_costFrom 13 = .ok (.iconst 0, 1) := by decide +kernel
theorem d_Mo_costFrom_14 : decode b_Mo_costFrom 14 = .ok (.istore_n 3, 1) := by decide +kernel
theorem d_Mo_costFrom_15 : decode b_Mo_costFrom 15 = .ok (.iload_n 1, 1) := by decide +kernel
theorem d_Mo_costFrom_16 : decode b_Mo_costFrom 16 = .ok (.tableswitch 62 0 5 #[40, 62, 50, 50, 62, 60], 40) := by decide +kernel
theorem d_Mo_costFrom_56 : decode b_Mo_costFrom 56 = .ok (.iload_n 3, 1) := by decide +kernel
theorem d_Mo_costFrom_57 : decode b_Mo_costFrom 57 = .ok (.ifCond .eq 7, 3) := by decide +kernel
theorem d_Mo_costFrom_60 : decode b_Mo_costFrom 60 = .ok (.iconst (-1), 1) := by decide +kernel
theorem d_Mo_costFrom_61 : decode b_Mo_costFrom 61 = .ok (.goto 4, 3) := by decide +kernel
theorem d_Mo_costFrom_64 : decode b_Mo_costFrom 64 = .ok (.iconst 1, 1) := by decide +kernel
theorem d_Mo_costFrom_65 : decode b_Mo_costFrom 65 = .ok (.ireturn, 1) := by decide +kernel
theorem d_Mo_costFrom_66 : decode b_Mo_costFrom 66 = .ok (.iload_n 3, 1) := by decide +kernel
theorem d_Mo_costFrom_67 : decode b_Mo_costFrom 67 = .ok (.ifCond .eq 7, 3) := by decide +kernel
theorem d_Mo_costFrom_70 : decode b_Mo_costFrom 70 = .ok (.iconst (-1), 1) := by decide +kernel
theorem d_Mo_costFrom_71 : decode b_Mo_costFrom 71 = .ok (.goto 4, 3) := by decide +kernel
theorem d_Mo_costFrom_74 : decode b_Mo_costFrom 74 = .ok (.iconst 2, 1) := by decide +kernel
theorem d_Mo_costFrom_75 : decode b_Mo_costFrom 75 = .ok (.ireturn, 1) := by decide +kernel
theorem d_Mo_costFrom_76 : decode b_Mo_costFrom 76 = .ok (.iconst 1, 1) := by decide +kernel
theorem d_Mo_costFrom_77 : decode b_Mo_costFrom 77 = .ok (.ireturn, 1) := by decide +kernel
theorem d_Mo_costFrom_78 : decode b_Mo_costFrom 78 = .ok (.iload_n 3, 1) := by decide +kernel
theorem d_Mo_costFrom_79 : decode b_Mo_costFrom 79 = .ok (.ifCond .eq 7, 3) := by decide +kernel
theorem d_Mo_costFrom_82 : decode b_Mo_costFrom 82 = .ok (.iconst 2, 1) := by decide +kernel
theorem d_Mo_costFrom_83 : decode b_Mo_costFrom 83 = .ok (.goto 4, 3) := by decide +kernel
theorem d_Mo_costFrom_86 : decode b_Mo_costFrom 86 = .ok (.iconst 1, 1) := by decide +kernel
theorem d_Mo_costFrom_87 : decode b_Mo_costFrom 87 = .ok (.ireturn, 1) := by decide +kernel
theorem d_Mo_hasLeave_0 : decode b_Mo_hasLeave 0 = .ok (.iconst 0, 1) := by decide +kernel
theorem d_Mo_hasLeave_1 : decode b_Mo_hasLeave 1 = .ok (.istore 6, 2) := by decide +kernel
theorem d_Mo_hasLeave_3 : decode b_Mo_hasLeave 3 = .ok (.iconst 0, 1) := by decide +kernel
theorem d_Mo_hasLeave_4 : decode b_Mo_hasLeave 4 = .ok (.istore 7, 2) := by decide +kernel
theorem d_Mo_hasLeave_6 : decode b_Mo_hasLeave 6 = .ok (.iload 7, 2) := by decide +kernel
theorem d_Mo_hasLeave_8 : decode b_Mo_hasLeave 8 = .ok (.aload_n 0, 1) := by decide +kernel
theorem d_Mo_hasLeave_9 : decode b_Mo_hasLeave 9 = .ok (.getfield 7, 3) := by decide +kernel
theorem d_Mo_hasLeave_12 : decode b_Mo_hasLeave 12 = .ok (.sipush 147, 3) := by decide +kernel
theorem d_Mo_hasLeave_15 : decode b_Mo_hasLeave 15 = .ok (.iaload, 1) := by decide +kernel
theorem d_Mo_hasLeave_16 : decode b_Mo_hasLeave 16 = .ok (.if_icmp .ge 159, 3) := by decide +kernel
theorem d_Mo_hasLeave_19 : decode b_Mo_hasLeave 19 = .ok (.sipush 148, 3) := by decide +kernel
theorem d_Mo_hasLeave_22 : decode b_Mo_hasLeave 22 = .ok (.iconst 5, 1) := by decide +kernel
theorem d_Mo_hasLeave_23 : decode b_Mo_hasLeave 23 = .ok (.iload 7, 2) := by decide +kernel
theorem d_Mo_hasLeave_25 : decode b_Mo_hasLeave 25 = .ok (.imul, 1) := by decide +kernel
theorem d_Mo_hasLeave_26 : decode b_Mo_hasLeave 26 = .ok (.iadd, 1) := by decide +kernel
theorem d_Mo_hasLeave_27 : decode b_Mo_hasLeave 27 = .ok (.istore 8, 2) := by decide +kernel
theorem d_Mo_hasLeave_29 : decode b_Mo_hasLeave 29 = .ok (.iload_n 1, 1) := by decide +kernel
theorem d_Mo_hasLeave_30 : decode b_Mo_hasLeave 30 = .ok (.iconst (-1), 1) := by decide +kernel
theorem d_Mo_hasLeave_31 : decode b_Mo_hasLeave 31 = .ok (.if_icmp .ne 34, 3) := by decide +kernel
theorem d_Mo_hasLeave_34 : decode b_Mo_hasLeave 34 = .ok (.aload_n 0, 1) := by decide +kernel
theorem d_Mo_hasLeave_35 : decode b_Mo_hasLeave 35 = .ok (.getfield 7, 3) := by decide +kernel
theorem d_Mo_hasLeave_38 : decode b_Mo_hasLeave 38 = .ok (.bipush 123, 2) := by decide +kernel
theorem d_Mo_hasLeave_40 : decode b_Mo_hasLeave 40 = .ok (.iconst 4, 1) := by decide +kernel
theorem d_Mo_hasLeave_41 : decode b_Mo_hasLeave 41 = .ok (.aload_n 0, 1) := by decide +kernel
theorem d_Mo_hasLeave_42 : decode b_Mo_hasLeave 42 = .ok (.getfield 7, 3) := by decide +kernel
theorem d_Mo_hasLeave_45 : decode b_Mo_hasLeave 45 = .ok (.iload 8, 2) := by decide +kernel
theorem d_Mo_hasLeave_47 : decode b_Mo_hasLeave 47 = .ok (.iaload, 1) := by decide +kernel
theorem d_Mo_hasLeave_48 : decode b_Mo_hasLeave 48 = .ok (.imul, 1) := by decide +kernel
theorem d_Mo_hasLeave_49 : decode b_Mo_hasLeave 49 = .ok (.iadd, 1) := by decide +kernel
theorem d_Mo_hasLeave_50 : decode b_Mo_hasLeave 50 = .ok (.iconst 2, 1) := by decide +kernel
theorem d_Mo_hasLeave_51 : decode b_Mo_hasLeave 51 = .ok (.iadd, 1) := by decide +kernel
theorem d_Mo_hasLeave_52 : decode b_Mo_hasLeave 52 = .ok (.iaload, 1) := by decide +kernel
theorem d_Mo_hasLeave_53 : decode b_Mo_hasLeave 53 = .ok (.iload_n 2, 1) := by decide +kernel
theorem d_Mo_hasLeave_54 : decode b_Mo_hasLeave 54 = .ok (.if_icmp .ne 7, 3) := by decide +kernel
theorem d_Mo_hasLeave_57 : decode b_Mo_hasLeave 57 = .ok (.iconst 1, 1) := by decide +kernel
theorem d_Mo_hasLeave_58 : decode b_Mo_hasLeave 58 = .ok (.goto 23, 3) := by decide +kernel
theorem d_Mo_hasLeave_61 : decode b_Mo_hasLeave 61 = .ok (.iconst 0, 1) := by decide +kernel
theorem d_Mo_hasLeave_62 : decode b_Mo_hasLeave 62 = .ok (.goto 19, 3) := by decide +kernel
theorem d_Mo_hasLeave_65 : decode b_Mo_hasLeave 65 = .ok (.aload_n 0, 1) := by decide +kernel
theorem d_Mo_hasLeave_66 : decode b_Mo_hasLeave 66 = .ok (.getfield 7, 3) := by decide +kernel
theorem d_Mo_hasLeave_69 : decode b_Mo_hasLeave 69 = .ok (.iload 8, 2) := by decide +kernel
theorem d_Mo_hasLeave_71 : decode b_Mo_hasLeave 71 = .ok (.iaload, 1) := by decide +kernel
theorem d_Mo_hasLeave_72 : decode b_Mo_hasLeave 72 = .ok (.iload_n 1, 1) := by decide +kernel
theorem d_Mo_hasLeave_73 : decode b_Mo_hasLeave 73 = .ok (.if_icmp .ne 7, 3) := by decide +kernel
theorem d_Mo_hasLeave_76 : decode b_Mo_hasLeave 76 = .ok (.iconst 1, 1) := by decide +kernel
theorem d_Mo_hasLeave_77 : decode b_Mo_hasLeave 77 = .ok (.goto 4, 3) := by decide +kernel
theorem d_Mo_hasLeave_80 : decode b_Mo_hasLeave 80 = .ok (.iconst 0, 1) := by decide +kernel
theorem d_Mo_hasLeave_81 : decode b_Mo_hasLeave 81 = .ok (.istore 9, 2) := by decide +kernel
theorem d_Mo_hasLeave_83 : decode b_Mo_hasLeave 83 = .ok (.iload 6, 2) := by decide +kernel
theorem d_Mo_hasLeave_85 : decode b_Mo_hasLeave 85 = .ok (.ifCond .ne 77, 3) := by decide +kernel
theorem d_Mo_hasLeave_88 : decode b_Mo_hasLeave 88 = .ok (.iload 9, 2) := by decide +kernel
theorem d_Mo_hasLeave_90 : decode b_Mo_hasLeave 90 = .ok (.ifCond .eq 76, 3) := by decide +kernel
theorem d_Mo_hasLeave_93 : decode b_Mo_hasLeave 93 = .ok (.aload_n 0, 1) := by decide +kernel
theorem d_Mo_hasLeave_94 : decode b_Mo_hasLeave 94 = .ok (.getfield 203, 3) := by decide +kernel
theorem d_Mo_hasLeave_97 : decode b_Mo_hasLeave 97 = .ok (.i2l, 1) := by decide +kernel
theorem d_Mo_hasLeave_98 : decode b_Mo_hasLeave 98 = .ok (.iload 7, 2) := by decide +kernel
theorem d_Mo_hasLeave_100 : decode b_Mo_hasLeave 100 = .ok (.invokestatic 196, 3) := by decide +kernel
theorem d_Mo_hasLeave_103 : decode b_Mo_hasLeave 103 = .ok (.ifCond .ne 63, 3) := by decide +kernel
theorem d_Mo_hasLeave_106 : decode b_Mo_hasLeave 106 = .ok (.aload_n 0, 1) := by decide +kernel
theorem d_Mo_hasLeave_107 : decode b_Mo_hasLeave 107 = .ok (.getfield 7, 3) := by decide +kernel
theorem d_Mo_hasLeave_110 : decode b_Mo_hasLeave 110 = .ok (.iload 8, 2) := by decide +kernel
theorem d_Mo_hasLeave_112 : decode b_Mo_hasLeave 112 = .ok (.iconst 1, 1) := by decide +kernel
theorem d_Mo_hasLeave_113 : decode b_Mo_hasLeave 113 = .ok (.iadd, 1) := by decide +kernel
theorem d_Mo_hasLeave_114 : decode b_Mo_hasLeave 114 = .ok (.iaload, 1) := by decide +kernel
theorem d_Mo_hasLeave_115 : decode b_Mo_hasLeave 115 = .ok (.iload_n 3, 1) := by decide +kernel
theorem d_Mo_hasLeave_116 : decode b_Mo_hasLeave 116 = .ok (.if_icmp .ne 50, 3) := by decide +kernel
theorem d_Mo_hasLeave_119 : decode b_Mo_hasLeave 119 = .ok (.iload 4, 2) := by decide +kernel
theorem d_Mo_hasLeave_121 : decode b_Mo_hasLeave 121 = .ok (.i2l, 1) := by decide +kernel
theorem d_Mo_hasLeave_122 : decode b_Mo_hasLeave 122 = .ok (.aload_n 0, 1) := by decide +kernel
theorem d_Mo_hasLeave_123 : decode b_Mo_hasLeave 123 = .ok (.getfield 7, 3) := by decide +kernel
theorem d_Mo_hasLeave_126 : decode b_Mo_hasLeave 126 = .ok (.iload 8, 2) := by decide +kernel
theorem d_Mo_hasLeave_128 : decode b_Mo_hasLeave 128 = .ok (.iconst 2, 1) := by decide +kernel
theorem d_Mo_hasLeave_129 : decode b_Mo_hasLeave 129 = .ok (.iadd, 1) := by decide +kernel
theorem d_Mo_hasLeave_130 : decode b_Mo_hasLeave 130 = .ok (.iaload, 1) := by decide +kernel
theorem d_Mo_hasLeave_131 : decode b_Mo_hasLeave 131 = .ok (.i2l, 1) := by decide +kernel
theorem d_Mo_hasLeave_132 : decode b_Mo_hasLeave 132 = .ok (.aload_n 0, 1) := by decide +kernel
theorem d_Mo_hasLeave_133 : decode b_Mo_hasLeave 133 = .ok (.getfield 7, 3) := by decide +kernel
theorem d_Mo_hasLeave_136 : decode b_Mo_hasLeave 136 = .ok (.iload 8, 2) := by decide +kernel
theorem d_Mo_hasLeave_138 : decode b_Mo_hasLeave 138 = .ok (.iconst 3, 1) := by decide +kernel
theorem d_Mo_hasLeave_139 : decode b_Mo_hasLeave 139 = .ok (.iadd, 1) := by decide +kernel
theorem d_Mo_hasLeave_140 : decode b_Mo_hasLeave 140 = .ok (.iaload, 1) := by decide +kernel
theorem d_Mo_hasLeave_141 : decode b_Mo_hasLeave 141 = .ok (.i2l, 1) := by decide +kernel
theorem d_Mo_hasLeave_142 : decode b_Mo_hasLeave 142 = .ok (.invokestatic 62, 3) := by decide +kernel
theorem d_Mo_hasLeave_145 : decode b_Mo_hasLeave 145 = .ok (.ifCond .eq 21, 3) := by decide +kernel
theorem d_Mo_hasLeave_148 : decode b_Mo_hasLeave 148 = .ok (.iload 5, 2) := by decide +kernel
theorem d_Mo_hasLeave_150 : decode b_Mo_hasLeave 150 = .ok (.aload_n 0, 1) := by decide +kernel
theorem d_Mo_hasLeave_151 : decode b_Mo_hasLeave 151 = .ok (.getfield 7, 3) := by decide +kernel
theorem d_Mo_hasLeave_154 : decode b_Mo_hasLeave 154 = .ok (.iload 8, 2) := by decide +kernel
theorem d_Mo_hasLeave_156 : decode b_Mo_hasLeave 156 = .ok (.iconst 4, 1) := by decide +kernel
theorem d_Mo_hasLeave_157 : decode b_Mo_hasLeave 157 = .ok (.iadd, 1) := by decide +kernel
theorem d_Mo_hasLeave_158 : decode b_Mo_hasLeave 158 = .ok (.iaload, 1) := by decide +kernel
theorem d_Mo_hasLeave_159 : decode b_Mo_hasLeave 159 = .ok (.if_icmp .gt 7, 3) := by decide +kernel
theorem d_Mo_hasLeave_162 : decode b_Mo_hasLeave 162 = .ok (.iconst 1, 1) := by decide +kernel
theorem d_Mo_hasLeave_163 : decode b_Mo_hasLeave 163 = .ok (.goto 4, 3) := by decide +kernel
theorem d_Mo_hasLeave_166 : decode b_Mo_hasLeave 166 = .ok (.iconst 0, 1) := by decide +kernel
theorem d_Mo_hasLeave_167 : decode b_Mo_hasLeave 167 = .ok (.istore 6, 2) := by decide +kernel
theorem d_Mo_hasLeave_169 : decode b_Mo_hasLeave 169 = .ok (.iinc 7 1, 3) := by decide +kernel
theorem d_Mo_hasLeave_172 : decode b_Mo_hasLeave 172 = .ok (.goto (-166), 3) := by decide +kernel
theorem d_Mo_hasLeave_175 : decode b_Mo_hasLeave 175 = .ok (.iload 6, 2) := by decide +kernel
theorem d_Mo_hasLeave_177 : decode b_Mo_hasLeave 177 = .ok (.ireturn, 1) := by decide +kernel
theorem d_Mo_mayCome_0 : decode b_Mo_mayCome 0 = .ok (.aload_n 0, 1) := by decide +kernel
theorem d_Mo_mayCome_1 : decode b_Mo_mayCome 1 = .ok (.getfield 206, 3) := by decide +kernel
theorem d_Mo_mayCome_4 : decode b_Mo_mayCome 4 = .ok (.iconst 3, 1) := by decide +kernel
theorem d_Mo_mayCome_5 : decode b_Mo_mayCome 5 = .ok (.if_icmp .ne 14, 3) := by decide +kernel
theorem d_Mo_mayCome_8 : decode b_Mo_mayCome 8 = .ok (.aload_n 0, 1) := by decide +kernel
theorem d_Mo_mayCome_9 : decode b_Mo_mayCome 9 = .ok (.iload_n 1, 1) := by decide +kernel
theorem d_Mo_mayCome_10 : decode b_Mo_mayCome 10 = .ok (.invokevirtual 200, 3) := by decide +kernel
theorem d_Mo_mayCome_13 : decode b_Mo_mayCome 13 = .ok (.iconst 1, 1) := by decide +kernel
theorem d_Mo_mayCome_14 : decode b_Mo_mayCome 14 = .ok (.if_icmp .ne 5, 3) := by decide +kernel
theorem d_Mo_mayCome_17 : decode b_Mo_mayCome 17 = .ok (.iconst 0, 1) := by decide +kernel
theorem d_Mo_mayCome_18 : decode b_Mo_mayCome 18 = .ok (.ireturn, 1) := by decide +kernel
theorem d_Mo_mayCome_19 : decode b_Mo_mayCome 19 = .ok (.aload_n 0, 1) := by decide +kernel
theorem d_Mo_mayCome_20 : decode b_Mo_mayCome 20 = .ok (.getfield 7, 3) := by decide +kernel
theorem d_Mo_mayCome_23 : decode b_Mo_mayCome 23 = .ok (.bipush 38, 2) := by decide +kernel
theorem d_Mo_mayCome_25 : decode b_Mo_mayCome 25 = .ok (.iload_n 1, 1) := by decide +kernel
theorem d_Mo_mayCome_26 : decode b_Mo_mayCome 26 = .ok (.iadd, 1) := by decide +kernel
theorem d_Mo_mayCome_27 : decode b_Mo_mayCome 27 = .ok (.iaload, 1) := by decide +kernel
theorem d_Mo_mayCome_28 : decode b_Mo_mayCome 28 = .ok (.istore_n 3, 1) := by decide +kernel
theorem d_Mo_mayCome_29 : decode b_Mo_mayCome 29 = .ok (.aload_n 0, 1) := by decide +kernel
theorem d_Mo_mayCome_30 : decode b_Mo_mayCome 30 = .ok (.getfield 209, 3) := by decide +kernel
theorem d_Mo_mayCome_33 : decode b_Mo_mayCome 33 = .ok (.ifCond .ne 32, 3) := by decide +kernel
theorem d_Mo_mayCome_36 : decode b_Mo_mayCome 36 = .ok (.aload_n 0, 1) := by decide +kernel
theorem d_Mo_mayCome_37 : decode b_Mo_mayCome 37 = .ok (.getfield 206, 3) := by decide +kernel
theorem d_Mo_mayCome_40 : decode b_Mo_mayCome 40 = .ok (.iconst 5, 1) := by decide +kernel
theorem d_Mo_mayCome_41 : decode b_Mo_mayCome 41 = .ok (.if_icmp .eq 24, 3) := by decide +kernel
theorem d_Mo_mayCome_44 : decode b_Mo_mayCome 44 = .ok (.aload_n 0, 1) := by decide +kernel
theorem d_Mo_mayCome_45 : decode b_Mo_mayCome 45 = .ok (.getfield 206, 3) := by decide +kernel
theorem d_Mo_mayCome_48 : decode b_Mo_mayCome 48 = .ok (.iconst 4, 1) := by decide +kernel
theorem d_Mo_mayCome_49 : decode b_Mo_mayCome 49 = .ok (.if_icmp .ne 8, 3) := by decide +kernel
theorem d_Mo_mayCome_52 : decode b_Mo_mayCome 52 = .ok (.iload_n 2, 1) := by decide +kernel
theorem d_Mo_mayCome_53 : decode b_Mo_mayCome 53 = .ok (.iconst 3, 1) := by decide +kernel
theorem d_Mo_mayCome_54 : decode b_Mo_mayCome 54 = .ok (.if_icmp .le 11, 3) := by decide +kernel
theorem d_Mo_mayCome_57 : decode b_Mo_mayCome 57 = .ok (.iload_n 3, 1) := by decide +kernel
theorem d_Mo_mayCome_58 : decode b_Mo_mayCome 58 = .ok (.aload_n 0, 1) := by decide +kernel
theorem d_Mo_mayCome_59 : decode b_Mo_mayCome 59 = .ok (.getfield 213, 3) := by decide +kernel
theorem d_Mo_mayCome_62 : decode b_Mo_mayCome 62 = .ok (.if_icmp .ne 7, 3) := by decide +kernel
theorem d_Mo_mayCome_65 : decode b_Mo_mayCome 65 = .ok (.iconst 1, 1) := by decide +kernel
theorem d_Mo_mayCome_66 : decode b_Mo_mayCome 66 = .ok (.goto 4, 3) := by decide +kernel
theorem d_Mo_mayCome_69 : decode b_Mo_mayCome 69 = .ok (.iconst 0, 1) := by decide +kernel
theorem d_Mo_mayCome_70 : decode b_Mo_mayCome 70 = .ok (.istore 4, 2) := by decide +kernel
theorem d_Mo_mayCome_72 : decode b_Mo_mayCome 72 = .ok (.aload_n 0, 1) := by decide +kernel
theorem d_Mo_mayCome_73 : decode b_Mo_mayCome 73 = .ok (.getfield 216, 3) := by decide +kernel
theorem d_Mo_mayCome_76 : decode b_Mo_mayCome 76 = .ok (.i2l, 1) := by decide +kernel
theorem d_Mo_mayCome_77 : decode b_Mo_mayCome 77 = .ok (.iload_n 3, 1) := by decide +kernel
theorem d_Mo_mayCome_78 : decode b_Mo_mayCome 78 = .ok (.invokestatic 196, 3) := by decide +kernel
theorem d_Mo_mayCome_81 : decode b_Mo_mayCome 81 = .ok (.ifCond .eq 52, 3) := by decide +kernel
theorem d_Mo_mayCome_84 : decode b_Mo_mayCome 84 = .ok (.aload_n 0, 1) := by decide +kernel
theorem d_Mo_mayCome_85 : decode b_Mo_mayCome 85 = .ok (.getfield 219, 3) := by decide +kernel
theorem d_Mo_mayCome_88 : decode b_Mo_mayCome 88 = .ok (.iconst (-1), 1) := by decide +kernel
theorem d_Mo_mayCome_89 : decode b_Mo_mayCome 89 = .ok (.if_icmp .eq 17, 3) := by decide +kernel
theorem d_Mo_mayCome_92 : decode b_Mo_mayCome 92 = .ok (.aload_n 0, 1) := by decide +kernel
theorem d_Mo_mayCome_93 : decode b_Mo_mayCome 93 = .ok (.getfield 219, 3) := by decide +kernel
theorem d_Mo_mayCome_96 : decode b_Mo_mayCome 96 = .ok (.aload_n 0, 1) := by decide +kernel
theorem d_Mo_mayCome_97 : decode b_Mo_mayCome 97 = .ok (.getfield 222, 3) := by decide +kernel
theorem d_Mo_mayCome_100 : decode b_Mo_mayCome 100 = .ok (.if_icmp .ne 33, 3) := by decide +kernel
theorem d_Mo_mayCome_103 : decode b_Mo_mayCome 103 = .ok (.goto 26, 3) := by decide +kernel
theorem d_Mo_mayCome_106 : decode b_Mo_mayCome 106 = .ok (.aload_n 0, 1) := by decide +kernel
theorem d_Mo_mayCome_107 : decode b_Mo_mayCome 107 = .ok (.getfield 7, 3) := by decide +kernel
theorem d_Mo_mayCome_110 : decode b_Mo_mayCome 110 = .ok (.bipush 123, 2) := by decide +kernel
theorem d_Mo_mayCome_112 : decode b_Mo_mayCome 112 = .ok (.iconst 4, 1) := by decide +kernel
theorem d_Mo_mayCome_113 : decode b_Mo_mayCome 113 = .ok (.aload_n 0, 1) := by decide +kernel
theorem d_Mo_mayCome_114 : decode b_Mo_mayCome 114 = .ok (.getfield 222, 3) := by decide +kernel
theorem d_Mo_mayCome_117 : decode b_Mo_mayCome 117 = .ok (.imul, 1) := by decide +kernel
theorem d_Mo_mayCome_118 : decode b_Mo_mayCome 118 = .ok (.iadd, 1) := by decide +kernel
theorem d_Mo_mayCome_119 : decode b_Mo_mayCome 119 = .ok (.iconst 2, 1) := by decide +kernel
theorem d_Mo_mayCome_120 : decode b_Mo_mayCome 120 = .ok (.iadd, 1) := by decide +kernel
theorem d_Mo_mayCome_121 : decode b_Mo_mayCome 121 = .ok (.iaload, 1) := by decide +kernel
theorem d_Mo_mayCome_122 : decode b_Mo_mayCome 122 = .ok (.aload_n 0, 1) := by decide +kernel
theorem d_Mo_mayCome_123 : decode b_Mo_mayCome 123 = .ok (.getfield 213, 3) := by decide +kernel
theorem d_Mo_mayCome_126 : decode b_Mo_mayCome 126 = .ok (.if_icmp .ne 7, 3) := by decide +kernel
theorem d_Mo_mayCome_129 : decode b_Mo_mayCome 129 = .ok (.iconst 1, 1) := by decide +kernel
theorem d_Mo_mayCome_130 : decode b_Mo_mayCome 130 = .ok (.goto 4, 3) := by decide +kernel
theorem d_Mo_mayCome_133 : decode b_Mo_mayCome 133 = .ok (.iconst 0, 1) := by decide +kernel
theorem d_Mo_mayCome_134 : decode b_Mo_mayCome 134 = .ok (.istore 5, 2) := by decide +kernel
theorem d_Mo_mayCome_136 : decode b_Mo_mayCome 136 = .ok (.iload 4, 2) := by decide +kernel
theorem d_Mo_mayCome_138 : decode b_Mo_mayCome 138 = .ok (.ifCond .ne 29, 3) := by decide +kernel
theorem d_Mo_mayCome_141 : decode b_Mo_mayCome 141 = .ok (.iload 5, 2) := by decide +kernel
theorem d_Mo_mayCome_143 : decode b_Mo_mayCome 143 = .ok (.ifCond .ne 24, 3) := by decide +kernel
theorem d_Mo_mayCome_146 : decode b_Mo_mayCome 146 = .ok (.aload_n 0, 1) := by decide +kernel
theorem d_Mo_mayCome_147 : decode b_Mo_mayCome 147 = .ok (.aload_n 0, 1) := by decide +kernel
theorem d_Mo_mayCome_148 : decode b_Mo_mayCome 148 = .ok (.getfield 219, 3) := by decide +kernel
theorem d_Mo_mayCome_151 : decode b_Mo_mayCome 151 = .ok (.aload_n 0, 1) := by decide +kernel
theorem d_Mo_mayCome_152 : decode b_Mo_mayCome 152 = .ok (.getfield 213, 3) := by decide +kernel
theorem d_Mo_mayCome_155 : decode b_Mo_mayCome 155 = .ok (.iload_n 3, 1) := by decide +kernel
theorem d_Mo_mayCome_156 : decode b_Mo_mayCome 156 = .ok (.aload_n 0, 1) := by decide +kernel
theorem d_Mo_mayCome_157 : decode b_Mo_mayCome 157 = .ok (.getfield 225, 3) := by decide +kernel
theorem d_Mo_mayCome_160 : decode b_Mo_mayCome 160 = .ok (.iload_n 2, 1) := by decide +kernel
theorem d_Mo_mayCome_161 : decode b_Mo_mayCome 161 = .ok (.invokevirtual 228, 3) := by decide +kernel
theorem d_Mo_mayCome_164 : decode b_Mo_mayCome 164 = .ok (.ifCond .eq 7, 3) := by decide +kernel
theorem d_Mo_mayCome_167 : decode b_Mo_mayCome 167 = .ok (.iconst 1, 1) := by decide +kernel
theorem d_Mo_mayCome_168 : decode b_Mo_mayCome 168 = .ok (.goto 4, 3) := by decide +kernel
theorem d_Mo_mayCome_171 : decode b_Mo_mayCome 171 = .ok (.iconst 0, 1) := by decide +kernel
theorem d_Mo_mayCome_172 : decode b_Mo_mayCome 172 = .ok (.ireturn, 1) := by decide +kernel
theorem d_Mo_come_0 : decode b_Mo_come 0 = .ok (.iload_n 2, 1) := by decide +kernel
theorem d_Mo_come_1 : decode b_Mo_come 1 = .ok (.ifCond .le 38, 3) := by decide +kernel
theorem d_Mo_come_4 : decode b_Mo_come 4 = .ok (.aload_n 0, 1) := by decide +kernel
theorem d_Mo_come_5 : decode b_Mo_come 5 = .ok (.getfield 23, 3) := by decide +kernel
theorem d_Mo_come_8 : decode b_Mo_come 8 = .ok (.bipush 21, 2) := by decide +kernel
theorem d_Mo_come_10 : decode b_Mo_come 10 = .ok (.iload_n 1, 1) := by decide +kernel
theorem d_Mo_come_11 : decode b_Mo_come 11 = .ok (.imul, 1) := by decide +kernel
theorem d_Mo_come_12 : decode b_Mo_come 12 = .ok (.iload_n 2, 1) := by decide +kernel
theorem d_Mo_come_13 : decode b_Mo_come 13 = .ok (.iadd, 1) := by decide +kernel
theorem d_Mo_come_14 : decode b_Mo_come 14 = .ok (.baload, 1) := by decide +kernel
theorem d_Mo_come_15 : decode b_Mo_come 15 = .ok (.ifCond .ne 24, 3) := by decide +kernel
theorem d_Mo_come_18 : decode b_Mo_come 18 = .ok (.aload_n 0, 1) := by decide +kernel
theorem d_Mo_come_19 : decode b_Mo_come 19 = .ok (.iload_n 1, 1) := by decide +kernel
theorem d_Mo_come_20 : decode b_Mo_come 20 = .ok (.iload_n 2, 1) := by decide +kernel
theorem d_Mo_come_21 : decode b_Mo_come 21 = .ok (.invokevirtual 232, 3) := by decide +kernel
theorem d_Mo_come_24 : decode b_Mo_come 24 = .ok (.ifCond .eq 15, 3) := by decide +kernel
theorem d_Mo_come_27 : decode b_Mo_come 27 = .ok (.aload_n 0, 1) := by decide +kernel
theorem d_Mo_come_28 : decode b_Mo_come 28 = .ok (.getfield 23, 3) := by decide +kernel
theorem d_Mo_come_31 : decode b_Mo_come 31 = .ok (.bipush 21, 2) := by decide +kernel
theorem d_Mo_come_33 : decode b_Mo_come 33 = .ok (.iload_n 1, 1) := by decide +kernel
theorem d_Mo_come_34 : decode b_Mo_come 34 = .ok (.imul, 1) := by decide +kernel
theorem d_Mo_come_35 : decode b_Mo_come 35 = .ok (.iload_n 2, 1) := by decide +kernel
theorem d_Mo_come_36 : decode b_Mo_come 36 = .ok (.iadd, 1) := by decide +kernel
theorem d_Mo_come_37 : decode b_Mo_come 37 = .ok (.iconst 1, 1) := by decide +kernel
theorem d_Mo_come_38 : decode b_Mo_come 38 = .ok (.bastore, 1) := by decide +kernel
theorem d_Mo_come_39 : decode b_Mo_come 39 = .ok (.return_, 1) := by decide +kernel
theorem d_Mo_spread_0 : decode b_Mo_spread 0 = .ok (.iconst 0, 1) := by decide +kernel
theorem d_Mo_spread_1 : decode b_Mo_spread 1 = .ok (.istore_n 3, 1) := by decide +kernel
theorem d_Mo_spread_2 : decode b_Mo_spread 2 = .ok (.iload_n 3, 1) := by decide +kernel
theorem d_Mo_spread_3 : decode b_Mo_spread 3 = .ok (.sipush 756, 3) := by decide +kernel
theorem d_Mo_spread_6 : decode b_Mo_spread 6 = .ok (.if_icmp .ge 16, 3) := by decide +kernel
theorem d_Mo_spread_9 : decode b_Mo_spread 9 = .ok (.aload_n 0, 1) := by decide +kernel
theorem d_Mo_spread_10 : decode b_Mo_spread 10 = .ok (.getfield 23, 3) := by decide +kernel
theorem d_Mo_spread_13 : decode b_Mo_spread 13 = .ok (.iload_n 3, 1) := by decide +kernel
theorem d_Mo_spread_14 : decode b_Mo_spread 14 = .ok (.iconst 0, 1) := by decide +kernel
theorem d_Mo_spread_15 : decode b_Mo_spread 15 = .ok (.bastore, 1) := by decide +kernel
theorem d_Mo_spread_16 : decode b_Mo_spread 16 = .ok (.iinc 3 1, 3) := by decide +kernel
theorem d_Mo_spread_19 : decode b_Mo_spread 19 = .ok (.goto (-17), 3) := by decide +kernel
theorem d_Mo_spread_22 : decode b_Mo_spread 22 = .ok (.aload_n 0, 1) := by decide +kernel
theorem d_Mo_spread_23 : decode b_Mo_spread 23 = .ok (.getfield 23, 3) := by decide +kernel
theorem d_Mo_spread_26 : decode b_Mo_spread 26 = .ok (.bipush 21, 2) := by decide +kernel
theorem d_Mo_spread_28 : decode b_Mo_spread 28 = .ok (.iload_n 1, 1) := by decide +kernel
theorem d_Mo_spread_29 : decode b_Mo_spread 29 = .ok (.imul, 1) := by decide +kernel
theorem d_Mo_spread_30 : decode b_Mo_spread 30 = .ok (.iload_n 2, 1) := by decide +kernel
theorem d_Mo_spread_31 : decode b_Mo_spread 31 = .ok (.iadd, 1) := by decide +kernel
theorem d_Mo_spread_32 : decode b_Mo_spread 32 = .ok (.iconst 1, 1) := by decide +kernel
theorem d_Mo_spread_33 : decode b_Mo_spread 33 = .ok (.bastore, 1) := by decide +kernel
theorem d_Mo_spread_34 : decode b_Mo_spread 34 = .ok (.aload_n 0, 1) := by decide +kernel
theorem d_Mo_spread_35 : decode b_Mo_spread 35 = .ok (.getfield 7, 3) := by decide +kernel
theorem d_Mo_spread_38 : decode b_Mo_spread 38 = .ok (.iconst 0, 1) := by decide +kernel
theorem d_Mo_spread_39 : decode b_Mo_spread 39 = .ok (.iaload, 1) := by decide +kernel
theorem d_Mo_spread_40 : decode b_Mo_spread 40 = .ok (.istore_n 3, 1) := by decide +kernel
theorem d_Mo_spread_41 : decode b_Mo_spread 41 = .ok (.iload_n 2, 1) := by decide +kernel
theorem d_Mo_spread_42 : decode b_Mo_spread 42 = .ok (.istore 4, 2) := by decide +kernel
theorem d_Mo_spread_44 : decode b_Mo_spread 44 = .ok (.iload 4, 2) := by decide +kernel
theorem d_Mo_spread_46 : decode b_Mo_spread 46 = .ok (.ifCond .le 149, 3) := by decide +kernel
theorem d_Mo_spread_49 : decode b_Mo_spread 49 = .ok (.iconst 0, 1) := by decide +kernel
theorem d_Mo_spread_50 : decode b_Mo_spread 50 = .ok (.istore 5, 2) := by decide +kernel
theorem d_Mo_spread_52 : decode b_Mo_spread 52 = .ok (.iload 5, 2) := by decide +kernel
theorem d_Mo_spread_54 : decode b_Mo_spread 54 = .ok (.aload_n 0, 1) := by decide +kernel
theorem d_Mo_spread_55 : decode b_Mo_spread 55 = .ok (.invokevirtual 58, 3) := by decide +kernel
theorem d_Mo_spread_58 : decode b_Mo_spread 58 = .ok (.if_icmp .ge 131, 3) := by decide +kernel
theorem d_Mo_spread_61 : decode b_Mo_spread 61 = .ok (.aload_n 0, 1) := by decide +kernel
theorem d_Mo_spread_62 : decode b_Mo_spread 62 = .ok (.aload_n 0, 1) := by decide +kernel
theorem d_Mo_spread_63 : decode b_Mo_spread 63 = .ok (.getfield 206, 3) := by decide +kernel
theorem d_Mo_spread_66 : decode b_Mo_spread 66 = .ok (.iload 5, 2) := by decide +kernel
theorem d_Mo_spread_68 : decode b_Mo_spread 68 = .ok (.invokevirtual 235, 3) := by decide +kernel
theorem d_Mo_spread_71 : decode b_Mo_spread 71 = .ok (.istore 6, 2) := by decide +kernel
theorem d_Mo_spread_73 : decode b_Mo_spread 73 = .ok (.aload_n 0, 1) := by decide +kernel
theorem d_Mo_spread_74 : decode b_Mo_spread 74 = .ok (.getfield 23, 3) := by decide +kernel
theorem d_Mo_spread_77 : decode b_Mo_spread 77 = .ok (.bipush 21, 2) := by decide +kernel
theorem d_Mo_spread_79 : decode b_Mo_spread 79 = .ok (.iload 5, 2) := by decide +kernel
theorem d_Mo_spread_81 : decode b_Mo_spread 81 = .ok (.imul, 1) := by decide +kernel
theorem d_Mo_spread_82 : decode b_Mo_spread 82 = .ok (.iload 4, 2) := by decide +kernel
theorem d_Mo_spread_84 : decode b_Mo_spread 84 = .ok (.iadd, 1) := by decide +kernel
theorem d_Mo_spread_85 : decode b_Mo_spread 85 = .ok (.baload, 1) := by decide +kernel
theorem d_Mo_spread_86 : decode b_Mo_spread 86 = .ok (.ifCond .eq 97, 3) := by decide +kernel
theorem d_Mo_spread_89 : decode b_Mo_spread 89 = .ok (.iload 6, 2) := by decide +kernel
theorem d_Mo_spread_91 : decode b_Mo_spread 91 = .ok (.iconst (-1), 1) := by decide +kernel
theorem d_Mo_spread_92 : decode b_Mo_spread 92 = .ok (.if_icmp .eq 91, 3) := by decide +kernel
theorem d_Mo_spread_95 : decode b_Mo_spread 95 = .ok (.iload 5, 2) := by decide +kernel
theorem d_Mo_spread_97 : decode b_Mo_spread 97 = .ok (.iload_n 3, 1) := by decide +kernel
theorem d_Mo_spread_98 : decode b_Mo_spread 98 = .ok (.irem, 1) := by decide +kernel
theorem d_Mo_spread_99 : decode b_Mo_spread 99 = .ok (.istore 7, 2) := by decide +kernel
theorem d_Mo_spread_101 : decode b_Mo_spread 101 = .ok (.iload 7, 2) := by decide +kernel
theorem d_Mo_spread_103 : decode b_Mo_spread 103 = .ok (.ifCond .le 16, 3) := by decide +kernel
theorem d_Mo_spread_106 : decode b_Mo_spread 106 = .ok (.aload_n 0, 1) := by decide +kernel
theorem d_Mo_spread_107 : decode b_Mo_spread 107 = .ok (.iload 5, 2) := by decide +kernel
theorem d_Mo_spread_109 : decode b_Mo_spread 109 = .ok (.iconst 1, 1) := by decide +kernel
theorem d_Mo_spread_110 : decode b_Mo_spread 110 = .ok (.isub, 1) := by decide +kernel
theorem d_Mo_spread_111 : decode b_Mo_spread 111 = .ok (.iload 4, 2) := by decide +kernel
theorem d_Mo_spread_113 : decode b_Mo_spread 113 = .ok (.iload 6, 2) := by decide +kernel
theorem d_Mo_spread_115 : decode b_Mo_spread 115 = .ok (.isub, 1) := by decide +kernel
theorem d_Mo_spread_116 : decode b_Mo_spread 116 = .ok (.invokevirtual 239, 3) := by decide +kernel
theorem d_Mo_spread_119 : decode b_Mo_spread 119 = .ok (.iload 7, 2) := by decide +kernel
theorem d_Mo_spread_121 : decode b_Mo_spread 121 = .ok (.iload_n 3, 1) := by decide +kernel
theorem d_Mo_spread_122 : decode b_Mo_spread 122 = .ok (.iconst 1, 1) := by decide +kernel
theorem d_Mo_spread_123 : decode b_Mo_spread 123 = .ok (.isub, 1) := by decide +kernel
theorem d_Mo_spread_124 : decode b_Mo_spread 124 = .ok (.if_icmp .ge 16, 3) := by decide +kernel
theorem d_Mo_spread_127 : decode b_Mo_spread 127 = .ok (.aload_n 0, 1) := by decide +kernel
theorem d_Mo_spread_128 : decode b_Mo_spread 128 = .ok (.iload 5, 2) := by decide +kernel
theorem d_Mo_spread_130 : decode b_Mo_spread 130 = .ok (.iconst 1, 1) := by decide +kernel
theorem d_Mo_spread_131 : decode b_Mo_spread 131 = .ok (.iadd, 1) := by decide +kernel
theorem d_Mo_spread_132 : decode b_Mo_spread 132 = .ok (.iload 4, 2) := by decide +kernel
theorem d_Mo_spread_134 : decode b_Mo_spread 134 = .ok (.iload 6, 2) := by decide +kernel
theorem d_Mo_spread_136 : decode b_Mo_spread 136 = .ok (.isub, 1) := by decide +kernel
theorem d_Mo_spread_137 : decode b_Mo_spread 137 = .ok (.invokevirtual 239, 3) := by decide +kernel
theorem d_Mo_spread_140 : decode b_Mo_spread 140 = .ok (.iload 5, 2) := by decide +kernel
theorem d_Mo_spread_142 : decode b_Mo_spread 142 = .ok (.iload_n 3, 1) := by decide +kernel
theorem d_Mo_spread_143 : decode b_Mo_spread 143 = .ok (.if_icmp .lt 16, 3) := by decide +kernel
theorem d_Mo_spread_146 : decode b_Mo_spread 146 = .ok (.aload_n 0, 1) := by decide +kernel
theorem d_Mo_spread_147 : decode b_Mo_spread 147 = .ok (.iload 5, 2) := by decide +kernel
theorem d_Mo_spread_149 : decode b_Mo_spread 149 = .ok (.iload_n 3, 1) := by decide +kernel
theorem d_Mo_spread_150 : decode b_Mo_spread 150 = .ok (.isub, 1) := by decide +kernel
theorem d_Mo_spread_151 : decode b_Mo_spread 151 = .ok (.iload 4, 2) := by decide +kernel
theorem d_Mo_spread_153 : decode b_Mo_spread 153 = .ok (.iload 6, 2) := by decide +kernel
theorem d_Mo_spread_155 : decode b_Mo_spread 155 = .ok (.isub, 1) := by decide +kernel
theorem d_Mo_spread_156 : decode b_Mo_spread 156 = .ok (.invokevirtual 239, 3) := by decide +kernel
theorem d_Mo_spread_159 : decode b_Mo_spread 159 = .ok (.iload 5, 2) := by decide +kernel
theorem d_Mo_spread_161 : decode b_Mo_spread 161 = .ok (.iload_n 3, 1) := by decide +kernel
theorem d_Mo_spread_162 : decode b_Mo_spread 162 = .ok (.iadd, 1) := by decide +kernel
theorem d_Mo_spread_163 : decode b_Mo_spread 163 = .ok (.aload_n 0, 1) := by decide +kernel
theorem d_Mo_spread_164 : decode b_Mo_spread 164 = .ok (.invokevirtual 58, 3) := by decide +kernel
theorem d_Mo_spread_167 : decode b_Mo_spread 167 = .ok (.if_icmp .ge 16, 3) := by decide +kernel
theorem d_Mo_spread_170 : decode b_Mo_spread 170 = .ok (.aload_n 0, 1) := by decide +kernel
theorem d_Mo_spread_171 : decode b_Mo_spread 171 = .ok (.iload 5, 2) := by decide +kernel
theorem d_Mo_spread_173 : decode b_Mo_spread 173 = .ok (.iload_n 3, 1) := by decide +kernel
theorem d_Mo_spread_174 : decode b_Mo_spread 174 = .ok (.iadd, 1) := by decide +kernel
theorem d_Mo_spread_175 : decode b_Mo_spread 175 = .ok (.iload 4, 2) := by decide +kernel
theorem d_Mo_spread_177 : decode b_Mo_spread 177 = .ok (.iload 6, 2) := by decide +kernel
theorem d_Mo_spread_179 : decode b_Mo_spread 179 = .ok (.isub, 1) := by decide +kernel
theorem d_Mo_spread_180 : decode b_Mo_spread 180 = .ok (.invokevirtual 239, 3) := by decide +kernel
theorem d_Mo_spread_183 : decode b_Mo_spread 183 = .ok (.iinc 5 1, 3) := by decide +kernel
theorem d_Mo_spread_186 : decode b_Mo_spread 186 = .ok (.goto (-134), 3) := by decide +kernel
theorem d_Mo_spread_189 : decode b_Mo_spread 189 = .ok (.iinc 4 (-1), 3) := by decide +kernel
theorem d_Mo_spread_192 : decode b_Mo_spread 192 = .ok (.goto (-148), 3) := by decide +kernel
theorem d_Mo_spread_195 : decode b_Mo_spread 195 = .ok (.iconst 0, 1) := by decide +kernel
theorem d_Mo_spread_196 : decode b_Mo_spread 196 = .ok (.istore 4, 2) := by decide +kernel
theorem d_Mo_spread_198 : decode b_Mo_spread 198 = .ok (.iload 4, 2) := by decide +kernel
theorem d_Mo_spread_200 : decode b_Mo_spread 200 = .ok (.bipush 36, 2) := by decide +kernel
theorem d_Mo_spread_202 : decode b_Mo_spread 202 = .ok (.if_icmp .ge 68, 3) := by decide +kernel
theorem d_Mo_spread_205 : decode b_Mo_spread 205 = .ok (.aload_n 0, 1) := by decide +kernel
theorem d_Mo_spread_206 : decode b_Mo_spread 206 = .ok (.getfield 32, 3) := by decide +kernel
theorem d_Mo_spread_209 : decode b_Mo_spread 209 = .ok (.iload 4, 2) := by decide +kernel
theorem d_Mo_spread_211 : decode b_Mo_spread 211 = .ok (.iconst 0, 1) := by decide +kernel
theorem d_Mo_spread_212 : decode b_Mo_spread 212 = .ok (.iastore, 1) := by decide +kernel
theorem d_Mo_spread_213 : decode b_Mo_spread 213 = .ok (.iconst 1, 1) := by decide +kernel
theorem d_Mo_spread_214 : decode b_Mo_spread 214 = .ok (.istore 5, 2) := by decide +kernel
theorem d_Mo_spread_216 : decode b_Mo_spread 216 = .ok (.iload 5, 2) := by decide +kernel
theorem d_Mo_spread_218 : decode b_Mo_spread 218 = .ok (.bipush 21, 2) := by decide +kernel
theorem d_Mo_spread_220 : decode b_Mo_spread 220 = .ok (.if_icmp .ge 44, 3) := by decide +kernel
theorem d_Mo_spread_223 : decode b_Mo_spread 223 = .ok (.aload_n 0, 1) := by decide +kernel
theorem d_Mo_spread_224 : decode b_Mo_spread 224 = .ok (.getfield 32, 3) := by decide +kernel
theorem d_Mo_spread_227 : decode b_Mo_spread 227 = .ok (.iload 4, 2) := by decide +kernel
theorem d_Mo_spread_229 : decode b_Mo_spread 229 = .ok (.aload_n 0, 1) := by decide +kernel
theorem d_Mo_spread_230 : decode b_Mo_spread 230 = .ok (.getfield 23, 3) := by decide +kernel
theorem d_Mo_spread_233 : decode b_Mo_spread 233 = .ok (.bipush 21, 2) := by decide +kernel
theorem d_Mo_spread_235 : decode b_Mo_spread 235 = .ok (.iload 4, 2) := by decide +kernel
theorem d_Mo_spread_237 : decode b_Mo_spread 237 = .ok (.imul, 1) := by decide +kernel
theorem d_Mo_spread_238 : decode b_Mo_spread 238 = .ok (.iload 5, 2) := by decide +kernel
theorem d_Mo_spread_240 : decode b_Mo_spread 240 = .ok (.iadd, 1) := by decide +kernel
theorem d_Mo_spread_241 : decode b_Mo_spread 241 = .ok (.baload, 1) := by decide +kernel
theorem d_Mo_spread_242 : decode b_Mo_spread 242 = .ok (.ifCond .eq 8, 3) := by decide +kernel
theorem d_Mo_spread_245 : decode b_Mo_spread 245 = .ok (.iload 5, 2) := by decide +kernel
theorem d_Mo_spread_247 : decode b_Mo_spread 247 = .ok (.goto 10, 3) := by decide +kernel
theorem d_Mo_spread_250 : decode b_Mo_spread 250 = .ok (.aload_n 0, 1) := by decide +kernel
theorem d_Mo_spread_251 : decode b_Mo_spread 251 = .ok (.getfield 32, 3) := by decide +kernel
theorem d_Mo_spread_254 : decode b_Mo_spread 254 = .ok (.iload 4, 2) := by decide +kernel
theorem d_Mo_spread_256 : decode b_Mo_spread 256 = .ok (.iaload, 1) := by decide +kernel
theorem d_Mo_spread_257 : decode b_Mo_spread 257 = .ok (.iastore, 1) := by decide +kernel
theorem d_Mo_spread_258 : decode b_Mo_spread 258 = .ok (.iinc 5 1, 3) := by decide +kernel
theorem d_Mo_spread_261 : decode b_Mo_spread 261 = .ok (.goto (-45), 3) := by decide +kernel
theorem d_Mo_spread_264 : decode b_Mo_spread 264 = .ok (.iinc 4 1, 3) := by decide +kernel
theorem d_Mo_spread_267 : decode b_Mo_spread 267 = .ok (.goto (-69), 3) := by decide +kernel
theorem d_Mo_spread_270 : decode b_Mo_spread 270 = .ok (.return_, 1) := by decide +kernel
theorem d_Mo_layDirect_0 : decode b_Mo_layDirect 0 = .ok (.aload_n 0, 1) := by decide +kernel
theorem d_Mo_layDirect_1 : decode b_Mo_layDirect 1 = .ok (.aload_n 0, 1) := by decide +kernel
theorem d_Mo_layDirect_2 : decode b_Mo_layDirect 2 = .ok (.getfield 7, 3) := by decide +kernel
theorem d_Mo_layDirect_5 : decode b_Mo_layDirect 5 = .ok (.bipush 123, 2) := by decide +kernel
theorem d_Mo_layDirect_7 : decode b_Mo_layDirect 7 = .ok (.iconst 4, 1) := by decide +kernel
theorem d_Mo_layDirect_8 : decode b_Mo_layDirect 8 = .ok (.iload_n 1, 1) := by decide +kernel
theorem d_Mo_layDirect_9 : decode b_Mo_layDirect 9 = .ok (.imul, 1) := by decide +kernel
theorem d_Mo_layDirect_10 : decode b_Mo_layDirect 10 = .ok (.iadd, 1) := by decide +kernel
theorem d_Mo_layDirect_11 : decode b_Mo_layDirect 11 = .ok (.iaload, 1) := by decide +kernel
theorem d_Mo_layDirect_12 : decode b_Mo_layDirect 12 = .ok (.putfield 206, 3) := by decide +kernel
theorem d_Mo_layDirect_15 : decode b_Mo_layDirect 15 = .ok (.aload_n 0, 1) := by decide +kernel
theorem d_Mo_layDirect_16 : decode b_Mo_layDirect 16 = .ok (.iload_n 1, 1) := by decide +kernel
theorem d_Mo_layDirect_17 : decode b_Mo_layDirect 17 = .ok (.putfield 219, 3) := by decide +kernel
theorem d_Mo_layDirect_20 : decode b_Mo_layDirect 20 = .ok (.aload_n 0, 1) := by decide +kernel
theorem d_Mo_layDirect_21 : decode b_Mo_layDirect 21 = .ok (.aload_n 0, 1) := by decide +kernel
theorem d_Mo_layDirect_22 : decode b_Mo_layDirect 22 = .ok (.getfield 7, 3) := by decide +kernel
theorem d_Mo_layDirect_25 : decode b_Mo_layDirect 25 = .ok (.bipush 123, 2) := by decide +kernel
theorem d_Mo_layDirect_27 : decode b_Mo_layDirect 27 = .ok (.iconst 4, 1) := by decide +kernel
theorem d_Mo_layDirect_28 : decode b_Mo_layDirect 28 = .ok (.iload_n 1, 1) := by decide +kernel
theorem d_Mo_layDirect_29 : decode b_Mo_layDirect 29 = .ok (.imul, 1) := by decide +kernel
theorem d_Mo_layDirect_30 : decode b_Mo_layDirect 30 = .ok (.iadd, 1) := by decide +kernel
theorem d_Mo_layDirect_31 : decode b_Mo_layDirect 31 = .ok (.iconst 2, 1) := by decide +kernel
theorem d_Mo_layDirect_32 : decode b_Mo_layDirect 32 = .ok (.iadd, 1) := by decide +kernel
theorem d_Mo_layDirect_33 : decode b_Mo_layDirect 33 = .ok (.iaload, 1) := by decide +kernel
theorem d_Mo_layDirect_34 : decode b_Mo_layDirect 34 = .ok (.putfield 213, 3) := by decide +kernel
theorem d_Mo_layDirect_37 : decode b_Mo_layDirect 37 = .ok (.aload_n 0, 1) := by decide +kernel
theorem d_Mo_layDirect_38 : decode b_Mo_layDirect 38 = .ok (.iload_n 3, 1) := by decide +kernel
theorem d_Mo_layDirect_39 : decode b_Mo_layDirect 39 = .ok (.putfield 225, 3) := by decide +kernel
theorem d_Mo_layDirect_42 : decode b_Mo_layDirect 42 = .ok (.aload_n 0, 1) := by decide +kernel
theorem d_Mo_layDirect_43 : decode b_Mo_layDirect 43 = .ok (.aload_n 0, 1) := by decide +kernel
theorem d_Mo_layDirect_44 : decode b_Mo_layDirect 44 = .ok (.getfield 7, 3) := by decide +kernel
theorem d_Mo_layDirect_47 : decode b_Mo_layDirect 47 = .ok (.bipush 123, 2) := by decide +kernel
theorem d_Mo_layDirect_49 : decode b_Mo_layDirect 49 = .ok (.iconst 4, 1) := by decide +kernel
theorem d_Mo_layDirect_50 : decode b_Mo_layDirect 50 = .ok (.iload_n 1, 1) := by decide +kernel
theorem d_Mo_layDirect_51 : decode b_Mo_layDirect 51 = .ok (.imul, 1) := by decide +kernel
theorem d_Mo_layDirect_52 : decode b_Mo_layDirect 52 = .ok (.iadd, 1) := by decide +kernel
theorem d_Mo_layDirect_53 : decode b_Mo_layDirect 53 = .ok (.iconst 1, 1) := by decide +kernel
theorem d_Mo_layDirect_54 : decode b_Mo_layDirect 54 = .ok (.iadd, 1) := by decide +kernel
theorem d_Mo_layDirect_55 : decode b_Mo_layDirect 55 = .ok (.iaload, 1) := by decide +kernel
theorem d_Mo_layDirect_56 : decode b_Mo_layDirect 56 = .ok (.iload_n 2, 1) := by decide +kernel
theorem d_Mo_layDirect_57 : decode b_Mo_layDirect 57 = .ok (.invokevirtual 242, 3) := by decide +kernel
theorem d_Mo_layDirect_60 : decode b_Mo_layDirect 60 = .ok (.iconst 0, 1) := by decide +kernel
theorem d_Mo_layDirect_61 : decode b_Mo_layDirect 61 = .ok (.istore 4, 2) := by decide +kernel
theorem d_Mo_layDirect_63 : decode b_Mo_layDirect 63 = .ok (.iload 4, 2) := by decide +kernel
theorem d_Mo_layDirect_65 : decode b_Mo_layDirect 65 = .ok (.bipush 36, 2) := by decide +kernel
theorem d_Mo_layDirect_67 : decode b_Mo_layDirect 67 = .ok (.if_icmp .ge 37, 3) := by decide +kernel
theorem d_Mo_layDirect_70 : decode b_Mo_layDirect 70 = .ok (.aload_n 0, 1) := by decide +kernel
theorem d_Mo_layDirect_71 : decode b_Mo_layDirect 71 = .ok (.getfield 26, 3) := by decide +kernel
theorem d_Mo_layDirect_74 : decode b_Mo_layDirect 74 = .ok (.iload 4, 2) := by decide +kernel
theorem d_Mo_layDirect_76 : decode b_Mo_layDirect 76 = .ok (.aload_n 0, 1) := by decide +kernel
theorem d_Mo_layDirect_77 : decode b_Mo_layDirect 77 = .ok (.getfield 32, 3) := by decide +kernel
theorem d_Mo_layDirect_80 : decode b_Mo_layDirect 80 = .ok (.iload 4, 2) := by decide +kernel
theorem d_Mo_layDirect_82 : decode b_Mo_layDirect 82 = .ok (.iaload, 1) := by decide +kernel
theorem d_Mo_layDirect_83 : decode b_Mo_layDirect 83 = .ok (.iastore, 1) := by decide +kernel
theorem d_Mo_layDirect_84 : decode b_Mo_layDirect 84 = .ok (.aload_n 0, 1) := by decide +kernel
theorem d_Mo_layDirect_85 : decode b_Mo_layDirect 85 = .ok (.getfield 29, 3) := by decide +kernel
theorem d_Mo_layDirect_88 : decode b_Mo_layDirect 88 = .ok (.iload 4, 2) := by decide +kernel
theorem d_Mo_layDirect_90 : decode b_Mo_layDirect 90 = .ok (.aload_n 0, 1) := by decide +kernel
theorem d_Mo_layDirect_91 : decode b_Mo_layDirect 91 = .ok (.getfield 32, 3) := by decide +kernel
theorem d_Mo_layDirect_94 : decode b_Mo_layDirect 94 = .ok (.iload 4, 2) := by decide +kernel
theorem d_Mo_layDirect_96 : decode b_Mo_layDirect 96 = .ok (.iaload, 1) := by decide +kernel
theorem d_Mo_layDirect_97 : decode b_Mo_layDirect 97 = .ok (.iastore, 1) := by decide +kernel
theorem d_Mo_layDirect_98 : decode b_Mo_layDirect 98 = .ok (.iinc 4 1, 3) := by decide +kernel
theorem d_Mo_layDirect_101 : decode b_Mo_layDirect 101 = .ok (.goto (-38), 3) := by decide +kernel
theorem d_Mo_layDirect_104 : decode b_Mo_layDirect 104 = .ok (.return_, 1) := by decide +kernel
theorem d_Mo_lay_0 : decode b_Mo_lay 0 = .ok (.aload_n 0, 1) := by decide +kernel
theorem d_Mo_lay_1 : decode b_Mo_lay 1 = .ok (.iload_n 1, 1) := by decide +kernel
theorem d_Mo_lay_2 : decode b_Mo_lay 2 = .ok (.iload_n 2, 1) := by decide +kernel
theorem d_Mo_lay_3 : decode b_Mo_lay 3 = .ok (.iload_n 3, 1) := by decide +kernel
theorem d_Mo_lay_4 : decode b_Mo_lay 4 = .ok (.invokevirtual 245, 3) := by decide +kernel
theorem d_Mo_lay_7 : decode b_Mo_lay 7 = .ok (.aload_n 0, 1) := by decide +kernel
theorem d_Mo_lay_8 : decode b_Mo_lay 8 = .ok (.iconst 0, 1) := by decide +kernel
theorem d_Mo_lay_9 : decode b_Mo_lay 9 = .ok (.putfield 206, 3) := by decide +kernel
theorem d_Mo_lay_12 : decode b_Mo_lay 12 = .ok (.aload_n 0, 1) := by decide +kernel
theorem d_Mo_lay_13 : decode b_Mo_lay 13 = .ok (.iconst (-1), 1) := by decide +kernel
theorem d_Mo_lay_14 : decode b_Mo_lay 14 = .ok (.putfield 219, 3) := by decide +kernel
theorem d_Mo_lay_17 : decode b_Mo_lay 17 = .ok (.iconst 0, 1) := by decide +kernel
theorem d_Mo_lay_18 : decode b_Mo_lay 18 = .ok (.istore 4, 2) := by decide +kernel
theorem d_Mo_lay_20 : decode b_Mo_lay 20 = .ok (.iload 4, 2) := by decide +kernel
theorem d_Mo_lay_22 : decode b_Mo_lay 22 = .ok (.aload_n 0, 1) := by decide +kernel
theorem d_Mo_lay_23 : decode b_Mo_lay 23 = .ok (.invokevirtual 58, 3) := by decide +kernel
theorem d_Mo_lay_26 : decode b_Mo_lay 26 = .ok (.if_icmp .ge 146, 3) := by decide +kernel
theorem d_Mo_lay_29 : decode b_Mo_lay 29 = .ok (.aload_n 0, 1) := by decide +kernel
theorem d_Mo_lay_30 : decode b_Mo_lay 30 = .ok (.iload 4, 2) := by decide +kernel
theorem d_Mo_lay_32 : decode b_Mo_lay 32 = .ok (.invokevirtual 200, 3) := by decide +kernel
theorem d_Mo_lay_35 : decode b_Mo_lay 35 = .ok (.iconst 2, 1) := by decide +kernel
theorem d_Mo_lay_36 : decode b_Mo_lay 36 = .ok (.if_icmp .ne 36, 3) := by decide +kernel
theorem d_Mo_lay_39 : decode b_Mo_lay 39 = .ok (.iload 4, 2) := by decide +kernel
theorem d_Mo_lay_41 : decode b_Mo_lay 41 = .ok (.aload_n 0, 1) := by decide +kernel
theorem d_Mo_lay_42 : decode b_Mo_lay 42 = .ok (.getfield 7, 3) := by decide +kernel
theorem d_Mo_lay_45 : decode b_Mo_lay 45 = .ok (.bipush 123, 2) := by decide +kernel
theorem d_Mo_lay_47 : decode b_Mo_lay 47 = .ok (.iconst 4, 1) := by decide +kernel
theorem d_Mo_lay_48 : decode b_Mo_lay 48 = .ok (.iload_n 1, 1) := by decide +kernel
theorem d_Mo_lay_49 : decode b_Mo_lay 49 = .ok (.imul, 1) := by decide +kernel
theorem d_Mo_lay_50 : decode b_Mo_lay 50 = .ok (.iadd, 1) := by decide +kernel
theorem d_Mo_lay_51 : decode b_Mo_lay 51 = .ok (.iconst 1, 1) := by decide +kernel
theorem d_Mo_lay_52 : decode b_Mo_lay 52 = .ok (.iadd, 1) := by decide +kernel
theorem d_Mo_lay_53 : decode b_Mo_lay 53 = .ok (.iaload, 1) := by decide +kernel
theorem d_Mo_lay_54 : decode b_Mo_lay 54 = .ok (.if_icmp .eq 18, 3) := by decide +kernel
theorem d_Mo_lay_57 : decode b_Mo_lay 57 = .ok (.aload_n 0, 1) := by decide +kernel
theorem d_Mo_lay_58 : decode b_Mo_lay 58 = .ok (.getfield 26, 3) := by decide +kernel
theorem d_Mo_lay_61 : decode b_Mo_lay 61 = .ok (.iload 4, 2) := by decide +kernel
theorem d_Mo_lay_63 : decode b_Mo_lay 63 = .ok (.iaload, 1) := by decide +kernel
theorem d_Mo_lay_64 : decode b_Mo_lay 64 = .ok (.iconst 1, 1) := by decide +kernel
theorem d_Mo_lay_65 : decode b_Mo_lay 65 = .ok (.if_icmp .le 7, 3) := by decide +kernel
theorem d_Mo_lay_68 : decode b_Mo_lay 68 = .ok (.iconst 1, 1) := by decide +kernel
theorem d_Mo_lay_69 : decode b_Mo_lay 69 = .ok (.goto 4, 3) := by decide +kernel
theorem d_Mo_lay_72 : decode b_Mo_lay 72 = .ok (.iconst 0, 1) := by decide +kernel
theorem d_Mo_lay_73 : decode b_Mo_lay 73 = .ok (.istore 5, 2) := by decide +kernel
theorem d_Mo_lay_75 : decode b_Mo_lay 75 = .ok (.iload 5, 2) := by decide +kernel
theorem d_Mo_lay_77 : decode b_Mo_lay 77 = .ok (.ifCond .eq 89, 3) := by decide +kernel
theorem d_Mo_lay_80 : decode b_Mo_lay 80 = .ok (.aload_n 0, 1) := by decide +kernel
theorem d_Mo_lay_81 : decode b_Mo_lay 81 = .ok (.aload_n 0, 1) := by decide +kernel
theorem d_Mo_lay_82 : decode b_Mo_lay 82 = .ok (.getfield 7, 3) := by decide +kernel
theorem d_Mo_lay_85 : decode b_Mo_lay 85 = .ok (.bipush 38, 2) := by decide +kernel
theorem d_Mo_lay_87 : decode b_Mo_lay 87 = .ok (.iload 4, 2) := by decide +kernel
theorem d_Mo_lay_89 : decode b_Mo_lay 89 = .ok (.iadd, 1) := by decide +kernel
theorem d_Mo_lay_90 : decode b_Mo_lay 90 = .ok (.iaload, 1) := by decide +kernel
theorem d_Mo_lay_91 : decode b_Mo_lay 91 = .ok (.putfield 213, 3) := by decide +kernel
theorem d_Mo_lay_94 : decode b_Mo_lay 94 = .ok (.aload_n 0, 1) := by decide +kernel
theorem d_Mo_lay_95 : decode b_Mo_lay 95 = .ok (.iload 4, 2) := by decide +kernel
theorem d_Mo_lay_97 : decode b_Mo_lay 97 = .ok (.aload_n 0, 1) := by decide +kernel
theorem d_Mo_lay_98 : decode b_Mo_lay 98 = .ok (.getfield 26, 3) := by decide +kernel
theorem d_Mo_lay_101 : decode b_Mo_lay 101 = .ok (.iload 4, 2) := by decide +kernel
theorem d_Mo_lay_103 : decode b_Mo_lay 103 = .ok (.iaload, 1) := by decide +kernel
theorem d_Mo_lay_104 : decode b_Mo_lay 104 = .ok (.iconst 2, 1) := by decide +kernel
theorem d_Mo_lay_105 : decode b_Mo_lay 105 = .ok (.idiv, 1) := by decide +kernel
theorem d_Mo_lay_106 : decode b_Mo_lay 106 = .ok (.invokevirtual 242, 3) := by decide +kernel
theorem d_Mo_lay_109 : decode b_Mo_lay 109 = .ok (.iconst 0, 1) := by decide +kernel
theorem d_Mo_lay_110 : decode b_Mo_lay 110 = .ok (.istore 6, 2) := by decide +kernel
theorem d_Mo_lay_112 : decode b_Mo_lay 112 = .ok (.iload 6, 2) := by decide +kernel
theorem d_Mo_lay_114 : decode b_Mo_lay 114 = .ok (.bipush 36, 2) := by decide +kernel
theorem d_Mo_lay_116 : decode b_Mo_lay 116 = .ok (.if_icmp .ge 50, 3) := by decide +kernel
theorem d_Mo_lay_119 : decode b_Mo_lay 119 = .ok (.aload_n 0, 1) := by decide +kernel
theorem d_Mo_lay_120 : decode b_Mo_lay 120 = .ok (.getfield 29, 3) := by decide +kernel
theorem d_Mo_lay_123 : decode b_Mo_lay 123 = .ok (.iload 6, 2) := by decide +kernel
theorem d_Mo_lay_125 : decode b_Mo_lay 125 = .ok (.aload_n 0, 1) := by decide +kernel
theorem d_Mo_lay_126 : decode b_Mo_lay 126 = .ok (.getfield 32, 3) := by decide +kernel
theorem d_Mo_lay_129 : decode b_Mo_lay 129 = .ok (.iload 6, 2) := by decide +kernel
theorem d_Mo_lay_131 : decode b_Mo_lay 131 = .ok (.iaload, 1) := by decide +kernel
theorem d_Mo_lay_132 : decode b_Mo_lay 132 = .ok (.aload_n 0, 1) := by decide +kernel
theorem d_Mo_lay_133 : decode b_Mo_lay 133 = .ok (.getfield 29, 3) := by decide +kernel
theorem d_Mo_lay_136 : decode b_Mo_lay 136 = .ok (.iload 6, 2) := by decide +kernel
theorem d_Mo_lay_138 : decode b_Mo_lay 138 = .ok (.iaload, 1) := by decide +kernel
theorem d_Mo_lay_139 : decode b_Mo_lay 139 = .ok (.if_icmp .le 13, 3) := by decide +kernel
theorem d_Mo_lay_142 : decode b_Mo_lay 142 = .ok (.aload_n 0, 1) := by decide +kernel
theorem d_Mo_lay_143 : decode b_Mo_lay 143 = .ok (.getfield 32, 3) := by decide +kernel
theorem d_Mo_lay_146 : decode b_Mo_lay 146 = .ok (.iload 6, 2) := by decide +kernel
theorem d_Mo_lay_148 : decode b_Mo_lay 148 = .ok (.iaload, 1) := by decide +kernel
theorem d_Mo_lay_149 : decode b_Mo_lay 149 = .ok (.goto 10, 3) := by decide +kernel
theorem d_Mo_lay_152 : decode b_Mo_lay 152 = .ok (.aload_n 0, 1) := by decide +kernel
theorem d_Mo_lay_153 : decode b_Mo_lay 153 = .ok (.getfield 29, 3) := by decide +kernel
theorem d_Mo_lay_156 : decode b_Mo_lay 156 = .ok (.iload 6, 2) := by decide +kernel
theorem d_Mo_lay_158 : decode b_Mo_lay 158 = .ok (.iaload, 1) := by decide +kernel
theorem d_Mo_lay_159 : decode b_Mo_lay 159 = .ok (.iastore, 1) := by decide +kernel
theorem d_Mo_lay_160 : decode b_Mo_lay 160 = .ok (.iinc 6 1, 3) := by decide +kernel
theorem d_Mo_lay_163 : decode b_Mo_lay 163 = .ok (.goto (-51), 3) := by decide +kernel
theorem d_Mo_lay_166 : decode b_Mo_lay 166 = .ok (.iinc 4 1, 3) := by decide +kernel
theorem d_Mo_lay_169 : decode b_Mo_lay 169 = .ok (.goto (-149), 3) := by decide +kernel
theorem d_Mo_lay_172 : decode b_Mo_lay 172 = .ok (.return_, 1) := by decide +kernel
theorem d_Mo_heard_0 : decode b_Mo_heard 0 = .ok (.aload_n 0, 1) := by decide +kernel
theorem d_Mo_heard_1 : decode b_Mo_heard 1 = .ok (.iload_n 1, 1) := by decide +kernel
theorem d_Mo_heard_2 : decode b_Mo_heard 2 = .ok (.iload_n 2, 1) := by decide +kernel
theorem d_Mo_heard_3 : decode b_Mo_heard 3 = .ok (.iload_n 3, 1) := by decide +kernel
theorem d_Mo_heard_4 : decode b_Mo_heard 4 = .ok (.invokevirtual 249, 3) := by decide +kernel
theorem d_Mo_heard_7 : decode b_Mo_heard 7 = .ok (.ifCond .eq 12, 3) := by decide +kernel
theorem d_Mo_heard_10 : decode b_Mo_heard 10 = .ok (.aload_n 0, 1) := by decide +kernel
theorem d_Mo_heard_11 : decode b_Mo_heard 11 = .ok (.iload 4, 2) := by decide +kernel
theorem d_Mo_heard_13 : decode b_Mo_heard 13 = .ok (.invokevirtual 95, 3) := by decide +kernel
theorem d_Mo_heard_16 : decode b_Mo_heard 16 = .ok (.ifCond .ne 8, 3) := by decide +kernel
theorem d_Mo_heard_19 : decode b_Mo_heard 19 = .ok (.aload_n 0, 1) := by decide +kernel
theorem d_Mo_heard_20 : decode b_Mo_heard 20 = .ok (.invokevirtual 92, 3) := by decide +kernel
theorem d_Mo_heard_23 : decode b_Mo_heard 23 = .ok (.ireturn, 1) := by decide +kernel
theorem d_Mo_heard_24 : decode b_Mo_heard 24 = .ok (.aload_n 0, 1) := by decide +kernel
theorem d_Mo_heard_25 : decode b_Mo_heard 25 = .ok (.iload_n 1, 1) := by decide +kernel
theorem d_Mo_heard_26 : decode b_Mo_heard 26 = .ok (.iload_n 2, 1) := by decide +kernel
theorem d_Mo_heard_27 : decode b_Mo_heard 27 = .ok (.iload_n 3, 1) := by decide +kernel
theorem d_Mo_heard_28 : decode b_Mo_heard 28 = .ok (.invokevirtual 252, 3) := by decide +kernel
theorem d_Mo_heard_31 : decode b_Mo_heard 31 = .ok (.aload_n 0, 1) := by decide +kernel
theorem d_Mo_heard_32 : decode b_Mo_heard 32 = .ok (.getfield 29, 3) := by decide +kernel
theorem d_Mo_heard_35 : decode b_Mo_heard 35 = .ok (.iload 4, 2) := by decide +kernel
theorem d_Mo_heard_37 : decode b_Mo_heard 37 = .ok (.iaload, 1) := by decide +kernel
theorem d_Mo_heard_38 : decode b_Mo_heard 38 = .ok (.ireturn, 1) := by decide +kernel
theorem d_Mo_heardMany_0 : decode b_Mo_heardMany 0 = .ok (.iconst 0, 1) := by decide +kernel
theorem d_Mo_heardMany_1 : decode b_Mo_heardMany 1 = .ok (.istore_n 1, 1) := by decide +kernel
theorem d_Mo_heardMany_2 : decode b_Mo_heardMany 2 = .ok (.iconst 0, 1) := by decide +kernel
theorem d_Mo_heardMany_3 : decode b_Mo_heardMany 3 = .ok (.istore_n 2, 1) := by decide +kernel
theorem d_Mo_heardMany_4 : decode b_Mo_heardMany 4 = .ok (.iload_n 2, 1) := by decide +kernel
theorem d_Mo_heardMany_5 : decode b_Mo_heardMany 5 = .ok (.aload_n 0, 1) := by decide +kernel
theorem d_Mo_heardMany_6 : decode b_Mo_heardMany 6 = .ok (.invokevirtual 58, 3) := by decide +kernel
theorem d_Mo_heardMany_9 : decode b_Mo_heardMany 9 = .ok (.if_icmp .ge 26, 3) := by decide +kernel
theorem d_Mo_heardMany_12 : decode b_Mo_heardMany 12 = .ok (.iload_n 1, 1) := by decide +kernel
theorem d_Mo_heardMany_13 : decode b_Mo_heardMany 13 = .ok (.aload_n 0, 1) := by decide +kernel
theorem d_Mo_heardMany_14 : decode b_Mo_heardMany 14 = .ok (.getfield 29, 3) := by decide +kernel
theorem d_Mo_heardMany_17 : decode b_Mo_heardMany 17 = .ok (.iload_n 2, 1) := by decide +kernel
theorem d_Mo_heardMany_18 : decode b_Mo_heardMany 18 = .ok (.iaload, 1) := by decide +kernel
theorem d_Mo_heardMany_19 : decode b_Mo_heardMany 19 = .ok (.ifCond .le 7, 3) := by decide +kernel
theorem d_Mo_heardMany_22 : decode b_Mo_heardMany 22 = .ok (.iconst 1, 1) := by decide +kernel
theorem d_Mo_heardMany_23 : decode b_Mo_heardMany 23 = .ok (.goto 4, 3) := by decide +kernel
theorem d_Mo_heardMany_26 : decode b_Mo_heardMany 26 = .ok (.iconst 0, 1) := by decide +kernel
theorem d_Mo_heardMany_27 : decode b_Mo_heardMany 27 = .ok (.iadd, 1) := by decide +kernel
theorem d_Mo_heardMany_28 : decode b_Mo_heardMany 28 = .ok (.istore_n 1, 1) := by decide +kernel
theorem d_Mo_heardMany_29 : decode b_Mo_heardMany 29 = .ok (.iinc 2 1, 3) := by decide +kernel
theorem d_Mo_heardMany_32 : decode b_Mo_heardMany 32 = .ok (.goto (-28), 3) := by decide +kernel
theorem d_Mo_heardMany_35 : decode b_Mo_heardMany 35 = .ok (.iload_n 1, 1) := by decide +kernel
theorem d_Mo_heardMany_36 : decode b_Mo_heardMany 36 = .ok (.ireturn, 1) := by decide +kernel
theorem d_Mo_far_0 : decode b_Mo_far 0 = .ok (.aload_n 0, 1) := by decide +kernel
theorem d_Mo_far_1 : decode b_Mo_far 1 = .ok (.iload_n 1, 1) := by decide +kernel
theorem d_Mo_far_2 : decode b_Mo_far 2 = .ok (.iload_n 2, 1) := by decide +kernel
theorem d_Mo_far_3 : decode b_Mo_far 3 = .ok (.iload_n 3, 1) := by decide +kernel
theorem d_Mo_far_4 : decode b_Mo_far 4 = .ok (.invokevirtual 249, 3) := by decide +kernel
theorem d_Mo_far_7 : decode b_Mo_far 7 = .ok (.ifCond .ne 8, 3) := by decide +kernel
theorem d_Mo_far_10 : decode b_Mo_far 10 = .ok (.aload_n 0, 1) := by decide +kernel
theorem d_Mo_far_11 : decode b_Mo_far 11 = .ok (.invokevirtual 92, 3) := by decide +kernel
theorem d_Mo_far_14 : decode b_Mo_far 14 = .ok (.ireturn, 1) := by decide +kernel
theorem d_Mo_far_15 : decode b_Mo_far 15 = .ok (.aload_n 0, 1) := by decide +kernel
theorem d_Mo_far_16 : decode b_Mo_far 16 = .ok (.iload_n 1, 1) := by decide +kernel
theorem d_Mo_far_17 : decode b_Mo_far 17 = .ok (.iload_n 2, 1) := by decide +kernel
theorem d_Mo_far_18 : decode b_Mo_far 18 = .ok (.iload_n 3, 1) := by decide +kernel
theorem d_Mo_far_19 : decode b_Mo_far 19 = .ok (.invokevirtual 252, 3) := by decide +kernel
theorem d_Mo_far_22 : decode b_Mo_far 22 = .ok (.aload_n 0, 1) := by decide +kernel
theorem d_Mo_far_23 : decode b_Mo_far 23 = .ok (.invokevirtual 255, 3) := by decide +kernel
theorem d_Mo_far_26 : decode b_Mo_far 26 = .ok (.ireturn, 1) := by decide +kernel
theorem d_Mo_costOf_0 : decode b_Mo_costOf 0 = .ok (.iconst 0, 1) := by decide +kernel
theorem d_Mo_costOf_1 : decode b_Mo_costOf 1 = .ok (.istore_n 2, 1) := by decide +kernel
theorem d_Mo_costOf_2 : decode b_Mo_costOf 2 = .ok (.iconst 0, 1) := by decide +kernel
theorem d_Mo_costOf_3 : decode b_Mo_costOf 3 = .ok (.istore_n 3, 1) := by decide +kernel
theorem d_Mo_costOf_4 : decode b_Mo_costOf 4 = .ok (.iload_n 3, 1) := by decide +kernel
theorem d_Mo_costOf_5 : decode b_Mo_costOf 5 = .ok (.aload_n 0, 1) := by decide +kernel
theorem d_Mo_costOf_6 : decode b_Mo_costOf 6 = .ok (.invokevirtual 58, 3) := by decide +kernel
theorem d_Mo_costOf_9 : decode b_Mo_costOf 9 = .ok (.if_icmp .ge 64, 3) := by decide +kernel
theorem d_Mo_costOf_12 : decode b_Mo_costOf 12 = .ok (.aload_n 0, 1) := by decide +kernel
theorem d_Mo_costOf_13 : decode b_Mo_costOf 13 = .ok (.getfield 7, 3) := by decide +kernel
theorem d_Mo_costOf_16 : decode b_Mo_costOf 16 = .ok (.bipush 38, 2) := by decide +kernel
theorem d_Mo_costOf_18 : decode b_Mo_costOf 18 = .ok (.iload_n 3, 1) := by decide +kernel
theorem d_Mo_costOf_19 : decode b_Mo_costOf 19 = .ok (.iadd, 1) := by decide +kernel
theorem d_Mo_costOf_20 : decode b_Mo_costOf 20 = .ok (.iaload, 1) := by decide +kernel
theorem d_Mo_costOf_21 : decode b_Mo_costOf 21 = .ok (.istore 4, 2) := by decide +kernel
theorem d_Mo_costOf_23 : decode b_Mo_costOf 23 = .ok (.iload_n 2, 1) := by decide +kernel
theorem d_Mo_costOf_24 : decode b_Mo_costOf 24 = .ok (.aload_n 0, 1) := by decide +kernel
theorem d_Mo_costOf_25 : decode b_Mo_costOf 25 = .ok (.getfield 26, 3) := by decide +kernel
theorem d_Mo_costOf_28 : decode b_Mo_costOf 28 = .ok (.iload_n 3, 1) := by decide +kernel
theorem d_Mo_costOf_29 : decode b_Mo_costOf 29 = .ok (.iaload, 1) := by decide +kernel
theorem d_Mo_costOf_30 : decode b_Mo_costOf 30 = .ok (.ifCond .le 34, 3) := by decide +kernel
theorem d_Mo_costOf_33 : decode b_Mo_costOf 33 = .ok (.iload 4, 2) := by decide +kernel
theorem d_Mo_costOf_35 : decode b_Mo_costOf 35 = .ok (.aload_n 0, 1) := by decide +kernel
theorem d_Mo_costOf_36 : decode b_Mo_costOf 36 = .ok (.getfield 7, 3) := by decide +kernel
theorem d_Mo_costOf_39 : decode b_Mo_costOf 39 = .ok (.bipush 123, 2) := by decide +kernel
theorem d_Mo_costOf_41 : decode b_Mo_costOf 41 = .ok (.iconst 4, 1) := by decide +kernel
theorem d_Mo_costOf_42 : decode b_Mo_costOf 42 = .ok (.iload_n 1, 1) := by decide +kernel
theorem d_Mo_costOf_43 : decode b_Mo_costOf 43 = .ok (.imul, 1) := by decide +kernel
theorem d_Mo_costOf_44 : decode b_Mo_costOf 44 = .ok (.iadd, 1) := by decide +kernel
theorem d_Mo_costOf_45 : decode b_Mo_costOf 45 = .ok (.iconst 2, 1) := by decide +kernel
theorem d_Mo_costOf_46 : decode b_Mo_costOf 46 = .ok (.iadd, 1) := by decide +kernel
theorem d_Mo_costOf_47 : decode b_Mo_costOf 47 = .ok (.iaload, 1) := by decide +kernel
theorem d_Mo_costOf_48 : decode b_Mo_costOf 48 = .ok (.if_icmp .eq 16, 3) := by decide +kernel
theorem d_Mo_costOf_51 : decode b_Mo_costOf 51 = .ok (.aload_n 0, 1) := by decide +kernel
theorem d_Mo_costOf_52 : decode b_Mo_costOf 52 = .ok (.getfield 7, 3) := by decide +kernel
theorem d_Mo_costOf_55 : decode b_Mo_costOf 55 = .ok (.bipush 110, 2) := by decide +kernel
theorem d_Mo_costOf_57 : decode b_Mo_costOf 57 = .ok (.iload 4, 2) := by decide +kernel
theorem d_Mo_costOf_59 : decode b_Mo_costOf 59 = .ok (.iadd, 1) := by decide +kernel
theorem d_Mo_costOf_60 : decode b_Mo_costOf 60 = .ok (.iaload, 1) := by decide +kernel
theorem d_Mo_costOf_61 : decode b_Mo_costOf 61 = .ok (.goto 4, 3) := by decide +kernel
theorem d_Mo_costOf_64 : decode b_Mo_costOf 64 = .ok (.iconst 0, 1) := by decide +kernel
theorem d_Mo_costOf_65 : decode b_Mo_costOf 65 = .ok (.iadd, 1) := by decide +kernel
theorem d_Mo_costOf_66 : decode b_Mo_costOf 66 = .ok (.istore_n 2, 1) := by decide +kernel
theorem d_Mo_costOf_67 : decode b_Mo_costOf 67 = .ok (.iinc 3 1, 3) := by decide +kernel
theorem d_Mo_costOf_70 : decode b_Mo_costOf 70 = .ok (.goto (-66), 3) := by decide +kernel
theorem d_Mo_costOf_73 : decode b_Mo_costOf 73 = .ok (.iload_n 2, 1) := by decide +kernel
theorem d_Mo_costOf_74 : decode b_Mo_costOf 74 = .ok (.ireturn, 1) := by decide +kernel
theorem d_Mo_cost_0 : decode b_Mo_cost 0 = .ok (.aload_n 0, 1) := by decide +kernel
theorem d_Mo_cost_1 : decode b_Mo_cost 1 = .ok (.iload_n 1, 1) := by decide +kernel
theorem d_Mo_cost_2 : decode b_Mo_cost 2 = .ok (.iload_n 2, 1) := by decide +kernel
theorem d_Mo_cost_3 : decode b_Mo_cost 3 = .ok (.iload_n 3, 1) := by decide +kernel
theorem d_Mo_cost_4 : decode b_Mo_cost 4 = .ok (.invokevirtual 249, 3) := by decide +kernel
theorem d_Mo_cost_7 : decode b_Mo_cost 7 = .ok (.ifCond .ne 8, 3) := by decide +kernel
theorem d_Mo_cost_10 : decode b_Mo_cost 10 = .ok (.aload_n 0, 1) := by decide +kernel
theorem d_Mo_cost_11 : decode b_Mo_cost 11 = .ok (.invokevirtual 92, 3) := by decide +kernel
theorem d_Mo_cost_14 : decode b_Mo_cost 14 = .ok (.ireturn, 1) := by decide +kernel
theorem d_Mo_cost_15 : decode b_Mo_cost 15 = .ok (.aload_n 0, 1) := by decide +kernel
theorem d_Mo_cost_16 : decode b_Mo_cost 16 = .ok (.iload_n 1, 1) := by decide +kernel
theorem d_Mo_cost_17 : decode b_Mo_cost 17 = .ok (.iload_n 2, 1) := by decide +kernel
theorem d_Mo_cost_18 : decode b_Mo_cost 18 = .ok (.iload_n 3, 1) := by decide +kernel
theorem d_Mo_cost_19 : decode b_Mo_cost 19 = .ok (.invokevirtual 245, 3) := by decide +kernel
theorem d_Mo_cost_22 : decode b_Mo_cost 22 = .ok (.aload_n 0, 1) := by decide +kernel
theorem d_Mo_cost_23 : decode b_Mo_cost 23 = .ok (.iload_n 1, 1) := by decide +kernel
theorem d_Mo_cost_24 : decode b_Mo_cost 24 = .ok (.invokevirtual 258, 3) := by decide +kernel
theorem d_Mo_cost_27 : decode b_Mo_cost 27 = .ok (.ireturn, 1) := by decide +kernel
theorem d_Mo_ofSet_0 : decode b_Mo_ofSet 0 = .ok (.iconst 0, 1) := by decide +kernel
theorem d_Mo_ofSet_1 : decode b_Mo_ofSet 1 = .ok (.istore 4, 2) := by decide +kernel
theorem d_Mo_ofSet_3 : decode b_Mo_ofSet 3 = .ok (.iconst 0, 1) := by decide +kernel
theorem d_Mo_ofSet_4 : decode b_Mo_ofSet 4 = .ok (.istore 5, 2) := by decide +kernel
theorem d_Mo_ofSet_6 : decode b_Mo_ofSet 6 = .ok (.iload 5, 2) := by decide +kernel
theorem d_Mo_ofSet_8 : decode b_Mo_ofSet 8 = .ok (.bipush 36, 2) := by decide +kernel
theorem d_Mo_ofSet_10 : decode b_Mo_ofSet 10 = .ok (.if_icmp .ge 30, 3) := by decide +kernel
theorem d_Mo_ofSet_13 : decode b_Mo_ofSet 13 = .ok (.lload_n 1, 1) := by decide +kernel
theorem d_Mo_ofSet_14 : decode b_Mo_ofSet 14 = .ok (.iload 5, 2) := by decide +kernel
theorem d_Mo_ofSet_16 : decode b_Mo_ofSet 16 = .ok (.invokestatic 196, 3) := by decide +kernel
theorem d_Mo_ofSet_19 : decode b_Mo_ofSet 19 = .ok (.ifCond .eq 15, 3) := by decide +kernel
theorem d_Mo_ofSet_22 : decode b_Mo_ofSet 22 = .ok (.iload 4, 2) := by decide +kernel
theorem d_Mo_ofSet_24 : decode b_Mo_ofSet 24 = .ok (.iload_n 3, 1) := by decide +kernel
theorem d_Mo_ofSet_25 : decode b_Mo_ofSet 25 = .ok (.if_icmp .ne 6, 3) := by decide +kernel
theorem d_Mo_ofSet_28 : decode b_Mo_ofSet 28 = .ok (.iload 5, 2) := by decide +kernel
theorem d_Mo_ofSet_30 : decode b_Mo_ofSet 30 = .ok (.ireturn, 1) := by decide +kernel
theorem d_Mo_ofSet_31 : decode b_Mo_ofSet 31 = .ok (.iinc 4 1, 3) := by decide +kernel
theorem d_Mo_ofSet_34 : decode b_Mo_ofSet 34 = .ok (.iinc 5 1, 3) := by decide +kernel
theorem d_Mo_ofSet_37 : decode b_Mo_ofSet 37 = .ok (.goto (-31), 3) := by decide +kernel
theorem d_Mo_ofSet_40 : decode b_Mo_ofSet 40 = .ok (.iload_n 3, 1) := by decide +kernel
theorem d_Mo_ofSet_41 : decode b_Mo_ofSet 41 = .ok (.iconst (-1), 1) := by decide +kernel
theorem d_Mo_ofSet_42 : decode b_Mo_ofSet 42 = .ok (.if_icmp .ne 8, 3) := by decide +kernel
theorem d_Mo_ofSet_45 : decode b_Mo_ofSet 45 = .ok (.iload 4, 2) := by decide +kernel
theorem d_Mo_ofSet_47 : decode b_Mo_ofSet 47 = .ok (.goto 5, 3) := by decide +kernel
theorem d_Mo_ofSet_50 : decode b_Mo_ofSet 50 = .ok (.bipush (-5), 2) := by decide +kernel
theorem d_Mo_ofSet_52 : decode b_Mo_ofSet 52 = .ok (.ireturn, 1) := by decide +kernel
theorem d_Mo_trespass_0 : decode b_Mo_trespass 0 = .ok (.aload_n 0, 1) := by decide +kernel
theorem d_Mo_trespass_1 : decode b_Mo_trespass 1 = .ok (.iload_n 1, 1) := by decide +kernel
theorem d_Mo_trespass_2 : decode b_Mo_trespass 2 = .ok (.iload_n 2, 1) := by decide +kernel
theorem d_Mo_trespass_3 : decode b_Mo_trespass 3 = .ok (.iload_n 3, 1) := by decide +kernel
theorem d_Mo_trespass_4 : decode b_Mo_trespass 4 = .ok (.invokevirtual 249, 3) := by decide +kernel
theorem d_Mo_trespass_7 : decode b_Mo_trespass 7 = .ok (.ifCond .eq 9, 3) := by decide +kernel
theorem d_Mo_trespass_10 : decode b_Mo_trespass 10 = .ok (.iload 4, 2) := by decide +kernel
theorem d_Mo_trespass_12 : decode b_Mo_trespass 12 = .ok (.iconst (-1), 1) := by decide +kernel
theorem d_Mo_trespass_13 : decode b_Mo_trespass 13 = .ok (.if_icmp .ge 8, 3) := by decide +kernel
theorem d_Mo_trespass_16 : decode b_Mo_trespass 16 = .ok (.aload_n 0, 1) := by decide +kernel
theorem d_Mo_trespass_17 : decode b_Mo_trespass 17 = .ok (.invokevirtual 261, 3) := by decide +kernel
theorem d_Mo_trespass_20 : decode b_Mo_trespass 20 = .ok (.ireturn, 1) := by decide +kernel
theorem d_Mo_trespass_21 : decode b_Mo_trespass 21 = .ok (.aload_n 0, 1) := by decide +kernel
theorem d_Mo_trespass_22 : decode b_Mo_trespass 22 = .ok (.iconst 1, 1) := by decide +kernel
theorem d_Mo_trespass_23 : decode b_Mo_trespass 23 = .ok (.putfield 209, 3) := by decide +kernel
theorem d_Mo_trespass_26 : decode b_Mo_trespass 26 = .ok (.aload_n 0, 1) := by decide +kernel
theorem d_Mo_trespass_27 : decode b_Mo_trespass 27 = .ok (.iload_n 1, 1) := by decide +kernel
theorem d_Mo_trespass_28 : decode b_Mo_trespass 28 = .ok (.iload_n 2, 1) := by decide +kernel
theorem d_Mo_trespass_29 : decode b_Mo_trespass 29 = .ok (.iload_n 3, 1) := by decide +kernel
theorem d_Mo_trespass_30 : decode b_Mo_trespass 30 = .ok (.invokevirtual 245, 3) := by decide +kernel
theorem d_Mo_trespass_33 : decode b_Mo_trespass 33 = .ok (.aload_n 0, 1) := by decide +kernel
theorem d_Mo_trespass_34 : decode b_Mo_trespass 34 = .ok (.iconst 0, 1) := by decide +kernel
theorem d_Mo_trespass_35 : decode b_Mo_trespass 35 = .ok (.putfield 209, 3) := by decide +kernel
theorem d_Mo_trespass_38 : decode b_Mo_trespass 38 = .ok (.lconst 0, 1) := by decide +kernel
theorem d_Mo_trespass_39 : decode b_Mo_trespass 39 = .ok (.lstore 5, 2) := by decide +kernel
theorem d_Mo_trespass_41 : decode b_Mo_trespass 41 = .ok (.iconst 0, 1) := by decide +kernel
theorem d_Mo_trespass_42 : decode b_Mo_trespass 42 = .ok (.istore 7, 2) := by decide +kernel
theorem d_Mo_trespass_44 : decode b_Mo_trespass 44 = .ok (.iload 7, 2) := by decide +kernel
theorem d_Mo_trespass_46 : decode b_Mo_trespass 46 = .ok (.aload_n 0, 1) := by decide +kernel
theorem d_Mo_trespass_47 : decode b_Mo_trespass 47 = .ok (.invokevirtual 58, 3) := by decide +kernel
theorem d_Mo_trespass_50 : decode b_Mo_trespass 50 = .ok (.if_icmp .ge 32, 3) := by decide +kernel
theorem d_Mo_trespass_53 : decode b_Mo_trespass 53 = .ok (.lload 5, 2) := by decide +kernel
theorem d_Mo_trespass_55 : decode b_Mo_trespass 55 = .ok (.aload_n 0, 1) := by decide +kernel
theorem d_Mo_trespass_56 : decode b_Mo_trespass 56 = .ok (.getfield 26, 3) := by decide +kernel
theorem d_Mo_trespass_59 : decode b_Mo_trespass 59 = .ok (.iload 7, 2) := by decide +kernel
theorem d_Mo_trespass_61 : decode b_Mo_trespass 61 = .ok (.iaload, 1) := by decide +kernel
theorem d_Mo_trespass_62 : decode b_Mo_trespass 62 = .ok (.ifCond .le 10, 3) := by decide +kernel
theorem d_Mo_trespass_65 : decode b_Mo_trespass 65 = .ok (.lconst 1, 1) := by decide +kernel
theorem d_Mo_trespass_66 : decode b_Mo_trespass 66 = .ok (.iload 7, 2) := by decide +kernel
theorem d_Mo_trespass_68 : decode b_Mo_trespass 68 = .ok (.lshl, 1) := by decide +kernel
theorem d_Mo_trespass_69 : decode b_Mo_trespass 69 = .ok (.goto 4, 3) := by decide +kernel
theorem d_Mo_trespass_72 : decode b_Mo_trespass 72 = .ok (.lconst 0, 1) := by decide +kernel
theorem d_Mo_trespass_73 : decode b_Mo_trespass 73 = .ok (.lor, 1) := by decide +kernel
theorem d_Mo_trespass_74 : decode b_Mo_trespass 74 = .ok (.lstore 5, 2) := by decide +kernel
theorem d_Mo_trespass_76 : decode b_Mo_trespass 76 = .ok (.iinc 7 1, 3) := by decide +kernel
theorem d_Mo_trespass_79 : decode b_Mo_trespass 79 = .ok (.goto (-35), 3) := by decide +kernel
theorem d_Mo_trespass_82 : decode b_Mo_trespass 82 = .ok (.aload_n 0, 1) := by decide +kernel
theorem d_Mo_trespass_83 : decode b_Mo_trespass 83 = .ok (.iload_n 1, 1) := by decide +kernel
theorem d_Mo_trespass_84 : decode b_Mo_trespass 84 = .ok (.iload_n 2, 1) := by decide +kernel
theorem d_Mo_trespass_85 : decode b_Mo_trespass 85 = .ok (.iload_n 3, 1) := by decide +kernel
theorem d_Mo_trespass_86 : decode b_Mo_trespass 86 = .ok (.invokevirtual 245, 3) := by decide +kernel
theorem d_Mo_trespass_89 : decode b_Mo_trespass 89 = .ok (.iconst 0, 1) := by decide +kernel
theorem d_Mo_trespass_90 : decode b_Mo_trespass 90 = .ok (.istore 7, 2) := by decide +kernel
theorem d_Mo_trespass_92 : decode b_Mo_trespass 92 = .ok (.iload 7, 2) := by decide +kernel
theorem d_Mo_trespass_94 : decode b_Mo_trespass 94 = .ok (.aload_n 0, 1) := by decide +kernel
theorem d_Mo_trespass_95 : decode b_Mo_trespass 95 = .ok (.invokevirtual 58, 3) := by decide +kernel
theorem d_Mo_trespass_98 : decode b_Mo_trespass 98 = .ok (.if_icmp .ge 38, 3) := by decide +kernel
theorem d_Mo_trespass_101 : decode b_Mo_trespass 101 = .ok (.lload 5, 2) := by decide +kernel
theorem d_Mo_trespass_103 : decode b_Mo_trespass 103 = .ok (.aload_n 0, 1) := by decide +kernel
theorem d_Mo_trespass_104 : decode b_Mo_trespass 104 = .ok (.getfield 26, 3) := by decide +kernel
theorem d_Mo_trespass_107 : decode b_Mo_trespass 107 = .ok (.iload 7, 2) := by decide +kernel
theorem d_Mo_trespass_109 : decode b_Mo_trespass 109 = .ok (.iaload, 1) := by decide +kernel
theorem d_Mo_trespass_110 : decode b_Mo_trespass 110 = .ok (.ifCond .le 14, 3) := by decide +kernel
theorem d_Mo_trespass_113 : decode b_Mo_trespass 113 = .ok (.lconst 1, 1) := by decide +kernel
theorem d_Mo_trespass_114 : decode b_Mo_trespass 114 = .ok (.iload 7, 2) := by decide +kernel
theorem d_Mo_trespass_116 : decode b_Mo_trespass 116 = .ok (.lshl, 1) := by decide +kernel
theorem d_Mo_trespass_117 : decode b_Mo_trespass 117 = .ok (.ldc2_w 264, 3) := by decide +kernel
theorem d_Mo_trespass_120 : decode b_Mo_trespass 120 = .ok (.lxor, 1) := by decide +kernel
theorem d_Mo_trespass_121 : decode b_Mo_trespass 121 = .ok (.goto 6, 3) := by decide +kernel
theorem d_Mo_trespass_124 : decode b_Mo_trespass 124 = .ok (.ldc2_w 264, 3) := by decide +kernel
theorem d_Mo_trespass_127 : decode b_Mo_trespass 127 = .ok (.land, 1) := by decide +kernel
theorem d_Mo_trespass_128 : decode b_Mo_trespass 128 = .ok (.lstore 5, 2) := by decide +kernel
theorem d_Mo_trespass_130 : decode b_Mo_trespass 130 = .ok (.iinc 7 1, 3) := by decide +kernel
theorem d_Mo_trespass_133 : decode b_Mo_trespass 133 = .ok (.goto (-41), 3) := by decide +kernel
theorem d_Mo_trespass_136 : decode b_Mo_trespass 136 = .ok (.aload_n 0, 1) := by decide +kernel
theorem d_Mo_trespass_137 : decode b_Mo_trespass 137 = .ok (.lload 5, 2) := by decide +kernel
theorem d_Mo_trespass_139 : decode b_Mo_trespass 139 = .ok (.iload 4, 2) := by decide +kernel
theorem d_Mo_trespass_141 : decode b_Mo_trespass 141 = .ok (.invokevirtual 266, 3) := by decide +kernel
theorem d_Mo_trespass_144 : decode b_Mo_trespass 144 = .ok (.ireturn, 1) := by decide +kernel
theorem d_Mo_carriedSet_0 : decode b_Mo_carriedSet 0 = .ok (.lconst 0, 1) := by decide +kernel
theorem d_Mo_carriedSet_1 : decode b_Mo_carriedSet 1 = .ok (.lstore_n 1, 1) := by decide +kernel
theorem d_Mo_carriedSet_2 : decode b_Mo_carriedSet 2 = .ok (.iconst 0, 1) := by decide +kernel
theorem d_Mo_carriedSet_3 : decode b_Mo_carriedSet 3 = .ok (.istore_n 3, 1) := by decide +kernel
theorem d_Mo_carriedSet_4 : decode b_Mo_carriedSet 4 = .ok (.iload_n 3, 1) := by decide +kernel
theorem d_Mo_carriedSet_5 : decode b_Mo_carriedSet 5 = .ok (.aload_n 0, 1) := by decide +kernel
theorem d_Mo_carriedSet_6 : decode b_Mo_carriedSet 6 = .ok (.invokevirtual 58, 3) := by decide +kernel
theorem d_Mo_carriedSet_9 : decode b_Mo_carriedSet 9 = .ok (.if_icmp .ge 37, 3) := by decide +kernel
theorem d_Mo_carriedSet_12 : decode b_Mo_carriedSet 12 = .ok (.lload_n 1, 1) := by decide +kernel
theorem d_Mo_carriedSet_13 : decode b_Mo_carriedSet 13 = .ok (.aload_n 0, 1) := by decide +kernel
theorem d_Mo_carriedSet_14 : decode b_Mo_carriedSet 14 = .ok (.getfield 29, 3) := by decide +kernel
theorem d_Mo_carriedSet_17 : decode b_Mo_carriedSet 17 = .ok (.iload_n 3, 1) := by decide +kernel
theorem d_Mo_carriedSet_18 : decode b_Mo_carriedSet 18 = .ok (.iaload, 1) := by decide +kernel
theorem d_Mo_carriedSet_19 : decode b_Mo_carriedSet 19 = .ok (.ifCond .le 18, 3) := by decide +kernel
theorem d_Mo_carriedSet_22 : decode b_Mo_carriedSet 22 = .ok (.aload_n 0, 1) := by decide +kernel
theorem d_Mo_carriedSet_23 : decode b_Mo_carriedSet 23 = .ok (.getfield 26, 3) := by decide +kernel
theorem d_Mo_carriedSet_26 : decode b_Mo_carriedSet 26 = .ok (.iload_n 3, 1) := by decide +kernel
theorem d_Mo_carriedSet_27 : decode b_Mo_carriedSet 27 = .ok (.iaload, 1) := by decide +kernel
theorem d_Mo_carriedSet_28 : decode b_Mo_carriedSet 28 = .ok (.ifCond .ne 9, 3) := by decide +kernel
theorem d_Mo_carriedSet_31 : decode b_Mo_carriedSet 31 = .ok (.lconst 1, 1) := by decide +kernel
theorem d_Mo_carriedSet_32 : decode b_Mo_carriedSet 32 = .ok (.iload_n 3, 1) := by decide +kernel
theorem d_Mo_carriedSet_33 : decode b_Mo_carriedSet 33 = .ok (.lshl, 1) := by decide +kernel
theorem d_Mo_carriedSet_34 : decode b_Mo_carriedSet 34 = .ok (.goto 4, 3) := by decide +kernel
theorem d_Mo_carriedSet_37 : decode b_Mo_carriedSet 37 = .ok (.lconst 0, 1) := by decide +kernel
theorem d_Mo_carriedSet_38 : decode b_Mo_carriedSet 38 = .ok (.lor, 1) := by decide +kernel
theorem d_Mo_carriedSet_39 : decode b_Mo_carriedSet 39 = .ok (.lstore_n 1, 1) := by decide +kernel
theorem d_Mo_carriedSet_40 : decode b_Mo_carriedSet 40 = .ok (.iinc 3 1, 3) := by decide +kernel
theorem d_Mo_carriedSet_43 : decode b_Mo_carriedSet 43 = .ok (.goto (-39), 3) := by decide +kernel
theorem d_Mo_carriedSet_46 : decode b_Mo_carriedSet 46 = .ok (.lload_n 1, 1) := by decide +kernel
theorem d_Mo_carriedSet_47 : decode b_Mo_carriedSet 47 = .ok (.lreturn, 1) := by decide +kernel
theorem d_Mo_carried_0 : decode b_Mo_carried 0 = .ok (.aload_n 0, 1) := by decide +kernel
theorem d_Mo_carried_1 : decode b_Mo_carried 1 = .ok (.iload_n 1, 1) := by decide +kernel
theorem d_Mo_carried_2 : decode b_Mo_carried 2 = .ok (.iload_n 2, 1) := by decide +kernel
theorem d_Mo_carried_3 : decode b_Mo_carried 3 = .ok (.iload_n 3, 1) := by decide +kernel
theorem d_Mo_carried_4 : decode b_Mo_carried 4 = .ok (.invokevirtual 249, 3) := by decide +kernel
theorem d_Mo_carried_7 : decode b_Mo_carried 7 = .ok (.ifCond .eq 9, 3) := by decide +kernel
theorem d_Mo_carried_10 : decode b_Mo_carried 10 = .ok (.iload 4, 2) := by decide +kernel
theorem d_Mo_carried_12 : decode b_Mo_carried 12 = .ok (.iconst (-1), 1) := by decide +kernel
theorem d_Mo_carried_13 : decode b_Mo_carried 13 = .ok (.if_icmp .ge 8, 3) := by decide +kernel
theorem d_Mo_carried_16 : decode b_Mo_carried 16 = .ok (.aload_n 0, 1) := by decide +kernel
theorem d_Mo_carried_17 : decode b_Mo_carried 17 = .ok (.invokevirtual 261, 3) := by decide +kernel
theorem d_Mo_carried_20 : decode b_Mo_carried 20 = .ok (.ireturn, 1) := by decide +kernel
theorem d_Mo_carried_21 : decode b_Mo_carried 21 = .ok (.aload_n 0, 1) := by decide +kernel
theorem d_Mo_carried_22 : decode b_Mo_carried 22 = .ok (.iload_n 1, 1) := by decide +kernel
theorem d_Mo_carried_23 : decode b_Mo_carried 23 = .ok (.iload_n 2, 1) := by decide +kernel
theorem d_Mo_carried_24 : decode b_Mo_carried 24 = .ok (.iload_n 3, 1) := by decide +kernel
theorem d_Mo_carried_25 : decode b_Mo_carried 25 = .ok (.invokevirtual 252, 3) := by decide +kernel
theorem d_Mo_carried_28 : decode b_Mo_carried 28 = .ok (.aload_n 0, 1) := by decide +kernel
theorem d_Mo_carried_29 : decode b_Mo_carried 29 = .ok (.aload_n 0, 1) := by decide +kernel
theorem d_Mo_carried_30 : decode b_Mo_carried 30 = .ok (.invokevirtual 270, 3) := by decide +kernel
theorem d_Mo_carried_33 : decode b_Mo_carried 33 = .ok (.iload 4, 2) := by decide +kernel
theorem d_Mo_carried_35 : decode b_Mo_carried 35 = .ok (.invokevirtual 266, 3) := by decide +kernel
theorem d_Mo_carried_38 : decode b_Mo_carried 38 = .ok (.ireturn, 1) := by decide +kernel
theorem d_Mo_layCliffs_0 : decode b_Mo_layCliffs 0 = .ok (.aload_n 0, 1) := by decide +kernel
theorem d_Mo_layCliffs_1 : decode b_Mo_layCliffs 1 = .ok (.iconst 0, 1) := by decide +kernel
theorem d_Mo_layCliffs_2 : decode b_Mo_layCliffs 2 = .ok (.putfield 274, 3) := by decide +kernel
theorem d_Mo_layCliffs_5 : decode b_Mo_layCliffs 5 = .ok (.iconst 0, 1) := by decide +kernel
theorem d_Mo_layCliffs_6 : decode b_Mo_layCliffs 6 = .ok (.istore_n 1, 1) := by decide +kernel
theorem d_Mo_layCliffs_7 : decode b_Mo_layCliffs 7 = .ok (.iload_n 1, 1) := by decide +kernel
theorem d_Mo_layCliffs_8 : decode b_Mo_layCliffs 8 = .ok (.aload_n 0, 1) := by decide +kernel
theorem d_Mo_layCliffs_9 : decode b_Mo_layCliffs 9 = .ok (.invokevirtual 58, 3) := by decide +kernel
theorem d_Mo_layCliffs_12 : decode b_Mo_layCliffs 12 = .ok (.if_icmp .ge 41, 3) := by decide +kernel
theorem d_Mo_layCliffs_15 : decode b_Mo_layCliffs 15 = .ok (.aload_n 0, 1) := by decide +kernel
theorem d_Mo_layCliffs_16 : decode b_Mo_layCliffs 16 = .ok (.getfield 7, 3) := by decide +kernel
theorem d_Mo_layCliffs_19 : decode b_Mo_layCliffs 19 = .ok (.iconst 2, 1) := by decide +kernel
theorem d_Mo_layCliffs_20 : decode b_Mo_layCliffs 20 = .ok (.iload_n 1, 1) := by decide +kernel
theorem d_Mo_layCliffs_21 : decode b_Mo_layCliffs 21 = .ok (.iadd, 1) := by decide +kernel
theorem d_Mo_layCliffs_22 : decode b_Mo_layCliffs 22 = .ok (.iaload, 1) := by decide +kernel
theorem d_Mo_layCliffs_23 : decode b_Mo_layCliffs 23 = .ok (.iconst 2, 1) := by decide +kernel
theorem d_Mo_layCliffs_24 : decode b_Mo_layCliffs 24 = .ok (.if_icmp .ne 23, 3) := by decide +kernel
theorem d_Mo_layCliffs_27 : decode b_Mo_layCliffs 27 = .ok (.aload_n 0, 1) := by decide +kernel
theorem d_Mo_layCliffs_28 : decode b_Mo_layCliffs 28 = .ok (.getfield 35, 3) := by decide +kernel
theorem d_Mo_layCliffs_31 : decode b_Mo_layCliffs 31 = .ok (.aload_n 0, 1) := by decide +kernel
theorem d_Mo_layCliffs_32 : decode b_Mo_layCliffs 32 = .ok (.getfield 274, 3) := by decide +kernel
theorem d_Mo_layCliffs_35 : decode b_Mo_layCliffs 35 = .ok (.iload_n 1, 1) := by decide +kernel
theorem d_Mo_layCliffs_36 : decode b_Mo_layCliffs 36 = .ok (.iastore, 1) := by decide +kernel
theorem d_Mo_layCliffs_37 : decode b_Mo_layCliffs 37 = .ok (.aload_n 0, 1) := by decide +kernel
theorem d_Mo_layCliffs_38 : decode b_Mo_layCliffs 38 = .ok (.dup, 1) := by decide +kernel
theorem d_Mo_layCliffs_39 : decode b_Mo_layCliffs 39 = .ok (.getfield 274, 3) := by decide +kernel
theorem d_Mo_layCliffs_42 : decode b_Mo_layCliffs 42 = .ok (.iconst 1, 1) := by decide +kernel
theorem d_Mo_layCliffs_43 : decode b_Mo_layCliffs 43 = .ok (.iadd, 1) := by decide +kernel
theorem d_Mo_layCliffs_44 : decode b_Mo_layCliffs 44 = .ok (.putfield 274, 3) := by decide +kernel
theorem d_Mo_layCliffs_47 : decode b_Mo_layCliffs 47 = .ok (.iinc 1 1, 3) := by decide +kernel
theorem d_Mo_layCliffs_50 : decode b_Mo_layCliffs 50 = .ok (.goto (-43), 3) := by decide +kernel
theorem d_Mo_layCliffs_53 : decode b_Mo_layCliffs 53 = .ok (.return_, 1) := by decide +kernel
theorem d_Mo_mend_0 : decode b_Mo_mend 0 = .ok (.aload_n 0, 1) := by decide +kernel
theorem d_Mo_mend_1 : decode b_Mo_mend 1 = .ok (.iload_n 1, 1) := by decide +kernel
theorem d_Mo_mend_2 : decode b_Mo_mend 2 = .ok (.iload_n 2, 1) := by decide +kernel
theorem d_Mo_mend_3 : decode b_Mo_mend 3 = .ok (.iload_n 3, 1) := by decide +kernel
theorem d_Mo_mend_4 : decode b_Mo_mend 4 = .ok (.invokevirtual 249, 3) := by decide +kernel
theorem d_Mo_mend_7 : decode b_Mo_mend 7 = .ok (.ifCond .ne 9, 3) := by decide +kernel
theorem d_Mo_mend_10 : decode b_Mo_mend 10 = .ok (.aload_n 0, 1) := by decide +kernel
theorem d_Mo_mend_11 : decode b_Mo_mend 11 = .ok (.invokevirtual 261, 3) := by decide +kernel
theorem d_Mo_mend_14 : decode b_Mo_mend 14 = .ok (.i2l, 1) := by decide +kernel
theorem d_Mo_mend_15 : decode b_Mo_mend 15 = .ok (.lreturn, 1) := by decide +kernel
theorem d_Mo_mend_16 : decode b_Mo_mend 16 = .ok (.aload_n 0, 1) := by decide +kernel
theorem d_Mo_mend_17 : decode b_Mo_mend 17 = .ok (.invokevirtual 277, 3) := by decide +kernel
theorem d_Mo_mend_20 : decode b_Mo_mend 20 = .ok (.aload_n 0, 1) := by decide +kernel
theorem d_Mo_mend_21 : decode b_Mo_mend 21 = .ok (.getfield 274, 3) := by decide +kernel
theorem d_Mo_mend_24 : decode b_Mo_mend 24 = .ok (.bipush 8, 2) := by decide +kernel
theorem d_Mo_mend_26 : decode b_Mo_mend 26 = .ok (.if_icmp .le 11, 3) := by decide +kernel
theorem d_Mo_mend_29 : decode b_Mo_mend 29 = .ok (.aload_n 0, 1) := by decide +kernel
theorem d_Mo_mend_30 : decode b_Mo_mend 30 = .ok (.bipush (-20), 2) := by decide +kernel
theorem d_Mo_mend_32 : decode b_Mo_mend 32 = .ok (.invokevirtual 122, 3) := by decide +kernel
theorem d_Mo_mend_35 : decode b_Mo_mend 35 = .ok (.i2l, 1) := by decide +kernel
theorem d_Mo_mend_36 : decode b_Mo_mend 36 = .ok (.lreturn, 1) := by decide +kernel
theorem d_Mo_mend_37 : decode b_Mo_mend 37 = .ok (.iconst (-1), 1) := by decide +kernel
theorem d_Mo_mend_38 : decode b_Mo_mend 38 = .ok (.istore 4, 2) := by decide +kernel
theorem d_Mo_mend_40 : decode b_Mo_mend 40 = .ok (.iconst 0, 1) := by decide +kernel
theorem d_Mo_mend_41 : decode b_Mo_mend 41 = .ok (.istore 5, 2) := by decide +kernel
theorem d_Mo_mend_43 : decode b_Mo_mend 43 = .ok (.iload 5, 2) := by decide +kernel
theorem d_Mo_mend_45 : decode b_Mo_mend 45 = .ok (.iconst 1, 1) := by decide +kernel
theorem d_Mo_mend_46 : decode b_Mo_mend 46 = .ok (.aload_n 0, 1) := by decide +kernel
theorem d_Mo_mend_47 : decode b_Mo_mend 47 = .ok (.getfield 274, 3) := by decide +kernel
theorem d_Mo_mend_50 : decode b_Mo_mend 50 = .ok (.ishl, 1) := by decide +kernel
theorem d_Mo_mend_51 : decode b_Mo_mend 51 = .ok (.if_icmp .ge 63, 3) := by decide +kernel
theorem d_Mo_mend_54 : decode b_Mo_mend 54 = .ok (.iload 4, 2) := by decide +kernel
theorem d_Mo_mend_56 : decode b_Mo_mend 56 = .ok (.iconst (-1), 1) := by decide +kernel
theorem d_Mo_mend_57 : decode b_Mo_mend 57 = .ok (.if_icmp .eq 16, 3) := by decide +kernel
theorem d_Mo_mend_60 : decode b_Mo_mend 60 = .ok (.iload 5, 2) := by decide +kernel
theorem d_Mo_mend_62 : decode b_Mo_mend 62 = .ok (.invokestatic 280, 3) := by decide +kernel
theorem d_Mo_mend_65 : decode b_Mo_mend 65 = .ok (.iload 4, 2) := by decide +kernel
theorem d_Mo_mend_67 : decode b_Mo_mend 67 = .ok (.invokestatic 280, 3) := by decide +kernel
theorem d_Mo_mend_70 : decode b_Mo_mend 70 = .ok (.if_icmp .ge 38, 3) := by decide +kernel
theorem d_Mo_mend_73 : decode b_Mo_mend 73 = .ok (.aload_n 0, 1) := by decide +kernel
theorem d_Mo_mend_74 : decode b_Mo_mend 74 = .ok (.aload_n 0, 1) := by decide +kernel
theorem d_Mo_mend_75 : decode b_Mo_mend 75 = .ok (.iload 5, 2) := by decide +kernel
theorem d_Mo_mend_77 : decode b_Mo_mend 77 = .ok (.invokevirtual 283, 3) := by decide +kernel
theorem d_Mo_mend_80 : decode b_Mo_mend 80 = .ok (.putfield 192, 3) := by decide +kernel
theorem d_Mo_mend_83 : decode b_Mo_mend 83 = .ok (.aload_n 0, 1) := by decide +kernel
theorem d_Mo_mend_84 : decode b_Mo_mend 84 = .ok (.iload_n 1, 1) := by decide +kernel
theorem d_Mo_mend_85 : decode b_Mo_mend 85 = .ok (.iload_n 2, 1) := by decide +kernel
theorem d_Mo_mend_86 : decode b_Mo_mend 86 = .ok (.iload_n 3, 1) := by decide +kernel
theorem d_Mo_mend_87 : decode b_Mo_mend 87 = .ok (.invokevirtual 252, 3) := by decide +kernel
theorem d_Mo_mend_90 : decode b_Mo_mend 90 = .ok (.aload_n 0, 1) := by decide +kernel
theorem d_Mo_mend_91 : decode b_Mo_mend 91 = .ok (.invokevirtual 270, 3) := by decide +kernel
theorem d_Mo_mend_94 : decode b_Mo_mend 94 = .ok (.lconst 0, 1) := by decide +kernel
theorem d_Mo_mend_95 : decode b_Mo_mend 95 = .ok (.lcmp, 1) := by decide +kernel
theorem d_Mo_mend_96 : decode b_Mo_mend 96 = .ok (.ifCond .ne 8, 3) := by decide +kernel
theorem d_Mo_mend_99 : decode b_Mo_mend 99 = .ok (.iload 5, 2) := by decide +kernel
theorem d_Mo_mend_101 : decode b_Mo_mend 101 = .ok (.goto 5, 3) := by decide +kernel
theorem d_Mo_mend_104 : decode b_Mo_mend 104 = .ok (.iload 4, 2) := by decide +kernel
theorem d_Mo_mend_106 : decode b_Mo_mend 106 = .ok (.istore 4, 2) := by decide +kernel
theorem d_Mo_mend_108 : decode b_Mo_mend 108 = .ok (.iinc 5 1, 3) := by decide +kernel
theorem d_Mo_mend_111 : decode b_Mo_mend 111 = .ok (.goto (-68), 3) := by decide +kernel
theorem d_Mo_mend_114 : decode b_Mo_mend 114 = .ok (.aload_n 0, 1) := by decide +kernel
theorem d_Mo_mend_115 : decode b_Mo_mend 115 = .ok (.lconst 0, 1) := by decide +kernel
theorem d_Mo_mend_116 : decode b_Mo_mend 116 = .ok (.putfield 192, 3) := by decide +kernel
theorem d_Mo_mend_119 : decode b_Mo_mend 119 = .ok (.aload_n 0, 1) := by decide +kernel
theorem d_Mo_mend_120 : decode b_Mo_mend 120 = .ok (.iload 4, 2) := by decide +kernel
theorem d_Mo_mend_122 : decode b_Mo_mend 122 = .ok (.invokevirtual 283, 3) := by decide +kernel
theorem d_Mo_mend_125 : decode b_Mo_mend 125 = .ok (.lreturn, 1) := by decide +kernel
theorem d_Mo_cliffSet_0 : decode b_Mo_cliffSet 0 = .ok (.lconst 0, 1) := by decide +kernel
theorem d_Mo_cliffSet_1 : decode b_Mo_cliffSet 1 = .ok (.lstore_n 2, 1) := by decide +kernel
theorem d_Mo_cliffSet_2 : decode b_Mo_cliffSet 2 = .ok (.iconst 0, 1) := by decide +kernel
theorem d_Mo_cliffSet_3 : decode b_Mo_cliffSet 3 = .ok (.istore 4, 2) := by decide +kernel
theorem d_Mo_cliffSet_5 : decode b_Mo_cliffSet 5 = .ok (.iload 4, 2) := by decide +kernel
theorem d_Mo_cliffSet_7 : decode b_Mo_cliffSet 7 = .ok (.aload_n 0, 1) := by decide +kernel
theorem d_Mo_cliffSet_8 : decode b_Mo_cliffSet 8 = .ok (.getfield 274, 3) := by decide +kernel
theorem d_Mo_cliffSet_11 : decode b_Mo_cliffSet 11 = .ok (.if_icmp .ge 35, 3) := by decide +kernel
theorem d_Mo_cliffSet_14 : decode b_Mo_cliffSet 14 = .ok (.lload_n 2, 1) := by decide +kernel
theorem d_Mo_cliffSet_15 : decode b_Mo_cliffSet 15 = .ok (.iload_n 1, 1) := by decide +kernel
theorem d_Mo_cliffSet_16 : decode b_Mo_cliffSet 16 = .ok (.i2l, 1) := by decide +kernel
theorem d_Mo_cliffSet_17 : decode b_Mo_cliffSet 17 = .ok (.iload 4, 2) := by decide +kernel
theorem d_Mo_cliffSet_19 : decode b_Mo_cliffSet 19 = .ok (.invokestatic 196, 3) := by decide +kernel
theorem d_Mo_cliffSet_22 : decode b_Mo_cliffSet 22 = .ok (.ifCond .eq 15, 3) := by decide +kernel
theorem d_Mo_cliffSet_25 : decode b_Mo_cliffSet 25 = .ok (.lconst 1, 1) := by decide +kernel
theorem d_Mo_cliffSet_26 : decode b_Mo_cliffSet 26 = .ok (.aload_n 0, 1) := by decide +kernel
theorem d_Mo_cliffSet_27 : decode b_Mo_cliffSet 27 = .ok (.getfield 35, 3) := by decide +kernel
theorem d_Mo_cliffSet_30 : decode b_Mo_cliffSet 30 = .ok (.iload 4, 2) := by decide +kernel
theorem d_Mo_cliffSet_32 : decode b_Mo_cliffSet 32 = .ok (.iaload, 1) := by decide +kernel
theorem d_Mo_cliffSet_33 : decode b_Mo_cliffSet 33 = .ok (.lshl, 1) := by decide +kernel
theorem d_Mo_cliffSet_34 : decode b_Mo_cliffSet 34 = .ok (.goto 4, 3) := by decide +kernel
theorem d_Mo_cliffSet_37 : decode b_Mo_cliffSet 37 = .ok (.lconst 0, 1) := by decide +kernel
theorem d_Mo_cliffSet_38 : decode b_Mo_cliffSet 38 = .ok (.lor, 1) := by decide +kernel
theorem d_Mo_cliffSet_39 : decode b_Mo_cliffSet 39 = .ok (.lstore_n 2, 1) := by decide +kernel
theorem d_Mo_cliffSet_40 : decode b_Mo_cliffSet 40 = .ok (.iinc 4 1, 3) := by decide +kernel
theorem d_Mo_cliffSet_43 : decode b_Mo_cliffSet 43 = .ok (.goto (-38), 3) := by decide +kernel
theorem d_Mo_cliffSet_46 : decode b_Mo_cliffSet 46 = .ok (.lload_n 2, 1) := by decide +kernel
theorem d_Mo_cliffSet_47 : decode b_Mo_cliffSet 47 = .ok (.lreturn, 1) := by decide +kernel
theorem d_Mo_ears_0 : decode b_Mo_ears 0 = .ok (.aload_n 0, 1) := by decide +kernel
theorem d_Mo_ears_1 : decode b_Mo_ears 1 = .ok (.iload_n 1, 1) := by decide +kernel
theorem d_Mo_ears_2 : decode b_Mo_ears 2 = .ok (.invokevirtual 95, 3) := by decide +kernel
theorem d_Mo_ears_5 : decode b_Mo_ears 5 = .ok (.ifCond .eq 15, 3) := by decide +kernel
theorem d_Mo_ears_8 : decode b_Mo_ears 8 = .ok (.iload_n 2, 1) := by decide +kernel
theorem d_Mo_ears_9 : decode b_Mo_ears 9 = .ok (.i2l, 1) := by decide +kernel
theorem d_Mo_ears_10 : decode b_Mo_ears 10 = .ok (.lconst 0, 1) := by decide +kernel
theorem d_Mo_ears_11 : decode b_Mo_ears 11 = .ok (.ldc2_w 98, 3) := by decide +kernel
theorem d_Mo_ears_14 : decode b_Mo_ears 14 = .ok (.invokestatic 62, 3) := by decide +kernel
theorem d_Mo_ears_17 : decode b_Mo_ears 17 = .ok (.ifCond .ne 8, 3) := by decide +kernel
theorem d_Mo_ears_20 : decode b_Mo_ears 20 = .ok (.aload_n 0, 1) := by decide +kernel
theorem d_Mo_ears_21 : decode b_Mo_ears 21 = .ok (.invokevirtual 92, 3) := by decide +kernel
theorem d_Mo_ears_24 : decode b_Mo_ears 24 = .ok (.ireturn, 1) := by decide +kernel
theorem d_Mo_ears_25 : decode b_Mo_ears 25 = .ok (.aload_n 0, 1) := by decide +kernel
theorem d_Mo_ears_26 : decode b_Mo_ears 26 = .ok (.getfield 7, 3) := by decide +kernel
theorem d_Mo_ears_29 : decode b_Mo_ears 29 = .ok (.bipush 74, 2) := by decide +kernel
theorem d_Mo_ears_31 : decode b_Mo_ears 31 = .ok (.iload_n 1, 1) := by decide +kernel
theorem d_Mo_ears_32 : decode b_Mo_ears 32 = .ok (.iadd, 1) := by decide +kernel
theorem d_Mo_ears_33 : decode b_Mo_ears 33 = .ok (.iaload, 1) := by decide +kernel
theorem d_Mo_ears_34 : decode b_Mo_ears 34 = .ok (.istore_n 3, 1) := by decide +kernel
theorem d_Mo_ears_35 : decode b_Mo_ears 35 = .ok (.aload_n 0, 1) := by decide +kernel
theorem d_Mo_ears_36 : decode b_Mo_ears 36 = .ok (.getfield 7, 3) := by decide +kernel
theorem d_Mo_ears_39 : decode b_Mo_ears 39 = .ok (.bipush 74, 2) := by decide +kernel
theorem d_Mo_ears_41 : decode b_Mo_ears 41 = .ok (.iload_n 1, 1) := by decide +kernel
theorem d_Mo_ears_42 : decode b_Mo_ears 42 = .ok (.iadd, 1) := by decide +kernel
theorem d_Mo_ears_43 : decode b_Mo_ears 43 = .ok (.iload_n 2, 1) := by decide +kernel
theorem d_Mo_ears_44 : decode b_Mo_ears 44 = .ok (.iastore, 1) := by decide +kernel
theorem d_Mo_ears_45 : decode b_Mo_ears 45 = .ok (.iload_n 3, 1) := by decide +kernel
theorem d_Mo_ears_46 : decode b_Mo_ears 46 = .ok (.ireturn, 1) := by decide +kernel
theorem d_Mo_isHeardSo_0 : decode b_Mo_isHeardSo 0 = .ok (.iconst 1, 1) := by decide +kernel
theorem d_Mo_isHeardSo_1 : decode b_Mo_isHeardSo 1 = .ok (.istore_n 1, 1) := by decide +kernel
theorem d_Mo_isHeardSo_2 : decode b_Mo_isHeardSo 2 = .ok (.iconst 0, 1) := by decide +kernel
theorem d_Mo_isHeardSo_3 : decode b_Mo_isHeardSo 3 = .ok (.istore_n 2, 1) := by decide +kernel
theorem d_Mo_isHeardSo_4 : decode b_Mo_isHeardSo 4 = .ok (.iload_n 2, 1) := by decide +kernel
theorem d_Mo_isHeardSo_5 : decode b_Mo_isHeardSo 5 = .ok (.aload_n 0, 1) := by decide +kernel
theorem d_Mo_isHeardSo_6 : decode b_Mo_isHeardSo 6 = .ok (.invokevirtual 58, 3) := by decide +kernel
theorem d_Mo_isHeardSo_9 : decode b_Mo_isHeardSo 9 = .ok (.if_icmp .ge 66, 3) := by decide +kernel
theorem d_Mo_isHeardSo_12 : decode b_Mo_isHeardSo 12 = .ok (.iload_n 1, 1) := by decide +kernel
theorem d_Mo_isHeardSo_13 : decode b_Mo_isHeardSo 13 = .ok (.ifCond .eq 54, 3) := by decide +kernel
theorem d_Mo_isHeardSo_16 : decode b_Mo_isHeardSo 16 = .ok (.aload_n 0, 1) := by decide +kernel
theorem d_Mo_isHeardSo_17 : decode b_Mo_isHeardSo 17 = .ok (.getfield 7, 3) := by decide +kernel
theorem d_Mo_isHeardSo_20 : decode b_Mo_isHeardSo 20 = .ok (.bipush 74, 2) := by decide +kernel
theorem d_Mo_isHeardSo_22 : decode b_Mo_isHeardSo 22 = .ok (.iload_n 2, 1) := by decide +kernel
theorem d_Mo_isHeardSo_23 : decode b_Mo_isHeardSo 23 = .ok (.iadd, 1) := by decide +kernel
theorem d_Mo_isHeardSo_24 : decode b_Mo_isHeardSo 24 = .ok (.iaload, 1) := by decide +kernel
theorem d_Mo_isHeardSo_25 : decode b_Mo_isHeardSo 25 = .ok (.ifCond .eq 38, 3) := by decide +kernel
theorem d_Mo_isHeardSo_28 : decode b_Mo_isHeardSo 28 = .ok (.aload_n 0, 1) := by decide +kernel
theorem d_Mo_isHeardSo_29 : decode b_Mo_isHeardSo 29 = .ok (.getfield 29, 3) := by decide +kernel
theorem d_Mo_isHeardSo_32 : decode b_Mo_isHeardSo 32 = .ok (.iload_n 2, 1) := by decide +kernel
theorem d_Mo_isHeardSo_33 : decode b_Mo_isHeardSo 33 = .ok (.iaload, 1) := by decide +kernel
theorem d_Mo_isHeardSo_34 : decode b_Mo_isHeardSo 34 = .ok (.ifCond .le 7, 3) := by decide +kernel
theorem d_Mo_isHeardSo_37 : decode b_Mo_isHeardSo 37 = .ok (.iconst 1, 1) := by decide +kernel
theorem d_Mo_isHeardSo_38 : decode b_Mo_isHeardSo 38 = .ok (.goto 4, 3) := by decide +kernel
theorem d_Mo_isHeardSo_41 : decode b_Mo_isHeardSo 41 = .ok (.iconst 0, 1) := by decide +kernel
theorem d_Mo_isHeardSo_42 : decode b_Mo_isHeardSo 42 = .ok (.aload_n 0, 1) := by decide +kernel
theorem d_Mo_isHeardSo_43 : decode b_Mo_isHeardSo 43 = .ok (.getfield 7, 3) := by decide +kernel
theorem d_Mo_isHeardSo_46 : decode b_Mo_isHeardSo 46 = .ok (.bipush 74, 2) := by decide +kernel
theorem d_Mo_isHeardSo_48 : decode b_Mo_isHeardSo 48 = .ok (.iload_n 2, 1) := by decide +kernel
theorem d_Mo_isHeardSo_49 : decode b_Mo_isHeardSo 49 = .ok (.iadd, 1) := by decide +kernel
theorem d_Mo_isHeardSo_50 : decode b_Mo_isHeardSo 50 = .ok (.iaload, 1) := by decide +kernel
theorem d_Mo_isHeardSo_51 : decode b_Mo_isHeardSo 51 = .ok (.iconst 1, 1) := by decide +kernel
theorem d_Mo_isHeardSo_52 : decode b_Mo_isHeardSo 52 = .ok (.if_icmp .ne 7, 3) := by decide +kernel
theorem d_Mo_isHeardSo_55 : decode b_Mo_isHeardSo 55 = .ok (.iconst 1, 1) := by decide +kernel
theorem d_Mo_isHeardSo_56 : decode b_Mo_isHeardSo 56 = .ok (.goto 4, 3) := by decide +kernel
theorem d_Mo_isHeardSo_59 : decode b_Mo_isHeardSo 59 = .ok (.iconst 0, 1) := by decide +kernel
theorem d_Mo_isHeardSo_60 : decode b_Mo_isHeardSo 60 = .ok (.if_icmp .ne 7, 3) := by decide +kernel
theorem d_Mo_isHeardSo_63 : decode b_Mo_isHeardSo 63 = .ok (.iconst 1, 1) := by decide +kernel
theorem d_Mo_isHeardSo_64 : decode b_Mo_isHeardSo 64 = .ok (.goto 4, 3) := by decide +kernel
theorem d_Mo_isHeardSo_67 : decode b_Mo_isHeardSo 67 = .ok (.iconst 0, 1) := by decide +kernel
theorem d_Mo_isHeardSo_68 : decode b_Mo_isHeardSo 68 = .ok (.istore_n 1, 1) := by decide +kernel
theorem d_Mo_isHeardSo_69 : decode b_Mo_isHeardSo 69 = .ok (.iinc 2 1, 3) := by decide +kernel
theorem d_Mo_isHeardSo_72 : decode b_Mo_isHeardSo 72 = .ok (.goto (-68), 3) := by decide +kernel
theorem d_Mo_isHeardSo_75 : decode b_Mo_isHeardSo 75 = .ok (.iload_n 1, 1) := by decide +kernel
theorem d_Mo_isHeardSo_76 : decode b_Mo_isHeardSo 76 = .ok (.ireturn, 1) := by decide +kernel
theorem d_Mo_buy_0 : decode b_Mo_buy 0 = .ok (.aload_n 0, 1) := by decide +kernel
theorem d_Mo_buy_1 : decode b_Mo_buy 1 = .ok (.iload_n 1, 1) := by decide +kernel
theorem d_Mo_buy_2 : decode b_Mo_buy 2 = .ok (.iload_n 2, 1) := by decide +kernel
theorem d_Mo_buy_3 : decode b_Mo_buy 3 = .ok (.iload_n 3, 1) := by decide +kernel
theorem d_Mo_buy_4 : decode b_Mo_buy 4 = .ok (.invokevirtual 249, 3) := by decide +kernel
theorem d_Mo_buy_7 : decode b_Mo_buy 7 = .ok (.ifCond .eq 14, 3) := by decide +kernel
theorem d_Mo_buy_10 : decode b_Mo_buy 10 = .ok (.iload 4, 2) := by decide +kernel
theorem d_Mo_buy_12 : decode b_Mo_buy 12 = .ok (.i2l, 1) := by decide +kernel
theorem d_Mo_buy_13 : decode b_Mo_buy 13 = .ok (.lconst 0, 1) := by decide +kernel
theorem d_Mo_buy_14 : decode b_Mo_buy 14 = .ok (.lconst 1, 1) := by decide +kernel
theorem d_Mo_buy_15 : decode b_Mo_buy 15 = .ok (.invokestatic 62, 3) := by decide +kernel
theorem d_Mo_buy_18 : decode b_Mo_buy 18 = .ok (.ifCond .ne 8, 3) := by decide +kernel
theorem d_Mo_buy_21 : decode b_Mo_buy 21 = .ok (.aload_n 0, 1) := by decide +kernel
theorem d_Mo_buy_22 : decode b_Mo_buy 22 = .ok (.invokevirtual 261, 3) := by decide +kernel
theorem d_Mo_buy_25 : decode b_Mo_buy 25 = .ok (.ireturn, 1) := by decide +kernel
theorem d_Mo_buy_26 : decode b_Mo_buy 26 = .ok (.iconst (-1), 1) := by decide +kernel
theorem d_Mo_buy_27 : decode b_Mo_buy 27 = .ok (.istore 5, 2) := by decide +kernel
theorem d_Mo_buy_29 : decode b_Mo_buy 29 = .ok (.ldc_w 287, 3) := by decide +kernel
theorem d_Mo_buy_32 : decode b_Mo_buy 32 = .ok (.istore 6, 2) := by decide +kernel
theorem d_Mo_buy_34 : decode b_Mo_buy 34 = .ok (.aload_n 0, 1) := by decide +kernel
theorem d_Mo_buy_35 : decode b_Mo_buy 35 = .ok (.iload_n 1, 1) := by decide +kernel
theorem d_Mo_buy_36 : decode b_Mo_buy 36 = .ok (.putfield 222, 3) := by decide +kernel
theorem d_Mo_buy_39 : decode b_Mo_buy 39 = .ok (.iconst 0, 1) := by decide +kernel
theorem d_Mo_buy_40 : decode b_Mo_buy 40 = .ok (.istore 7, 2) := by decide +kernel
theorem d_Mo_buy_42 : decode b_Mo_buy 42 = .ok (.iload 7, 2) := by decide +kernel
theorem d_Mo_buy_44 : decode b_Mo_buy 44 = .ok (.bipush 64, 2) := by decide +kernel
theorem d_Mo_buy_46 : decode b_Mo_buy 46 = .ok (.if_icmp .ge 99, 3) := by decide +kernel
theorem d_Mo_buy_49 : decode b_Mo_buy 49 = .ok (.iload 7, 2) := by decide +kernel
theorem d_Mo_buy_51 : decode b_Mo_buy 51 = .ok (.i2l, 1) := by decide +kernel
theorem d_Mo_buy_52 : decode b_Mo_buy 52 = .ok (.aload_n 0, 1) := by decide +kernel
theorem d_Mo_buy_53 : decode b_Mo_buy 53 = .ok (.getfield 7, 3) := by decide +kernel
theorem d_Mo_buy_56 : decode b_Mo_buy 56 = .ok (.bipush 123, 2) := by decide +kernel
theorem d_Mo_buy_58 : decode b_Mo_buy 58 = .ok (.iconst 4, 1) := by decide +kernel
theorem d_Mo_buy_59 : decode b_Mo_buy 59 = .ok (.iload_n 1, 1) := by decide +kernel
theorem d_Mo_buy_60 : decode b_Mo_buy 60 = .ok (.imul, 1) := by decide +kernel
theorem d_Mo_buy_61 : decode b_Mo_buy 61 = .ok (.iadd, 1) := by decide +kernel
theorem d_Mo_buy_62 : decode b_Mo_buy 62 = .ok (.iconst 2, 1) := by decide +kernel
theorem d_Mo_buy_63 : decode b_Mo_buy 63 = .ok (.iadd, 1) := by decide +kernel
theorem d_Mo_buy_64 : decode b_Mo_buy 64 = .ok (.iaload, 1) := by decide +kernel
theorem d_Mo_buy_65 : decode b_Mo_buy 65 = .ok (.invokestatic 196, 3) := by decide +kernel
theorem d_Mo_buy_68 : decode b_Mo_buy 68 = .ok (.ifCond .ne 71, 3) := by decide +kernel
theorem d_Mo_buy_71 : decode b_Mo_buy 71 = .ok (.aload_n 0, 1) := by decide +kernel
theorem d_Mo_buy_72 : decode b_Mo_buy 72 = .ok (.iload 7, 2) := by decide +kernel
theorem d_Mo_buy_74 : decode b_Mo_buy 74 = .ok (.putfield 216, 3) := by decide +kernel
theorem d_Mo_buy_77 : decode b_Mo_buy 77 = .ok (.aload_n 0, 1) := by decide +kernel
theorem d_Mo_buy_78 : decode b_Mo_buy 78 = .ok (.iload_n 1, 1) := by decide +kernel
theorem d_Mo_buy_79 : decode b_Mo_buy 79 = .ok (.iload_n 2, 1) := by decide +kernel
theorem d_Mo_buy_80 : decode b_Mo_buy 80 = .ok (.iload_n 3, 1) := by decide +kernel
theorem d_Mo_buy_81 : decode b_Mo_buy 81 = .ok (.invokevirtual 252, 3) := by decide +kernel
theorem d_Mo_buy_84 : decode b_Mo_buy 84 = .ok (.aload_n 0, 1) := by decide +kernel
theorem d_Mo_buy_85 : decode b_Mo_buy 85 = .ok (.invokevirtual 288, 3) := by decide +kernel
theorem d_Mo_buy_88 : decode b_Mo_buy 88 = .ok (.ifCond .eq 17, 3) := by decide +kernel
theorem d_Mo_buy_91 : decode b_Mo_buy 91 = .ok (.aload_n 0, 1) := by decide +kernel
theorem d_Mo_buy_92 : decode b_Mo_buy 92 = .ok (.iload_n 1, 1) := by decide +kernel
theorem d_Mo_buy_93 : decode b_Mo_buy 93 = .ok (.invokevirtual 258, 3) := by decide +kernel
theorem d_Mo_buy_96 : decode b_Mo_buy 96 = .ok (.iload 6, 2) := by decide +kernel
theorem d_Mo_buy_98 : decode b_Mo_buy 98 = .ok (.if_icmp .ge 7, 3) := by decide +kernel
theorem d_Mo_buy_101 : decode b_Mo_buy 101 = .ok (.iconst 1, 1) := by decide +kernel
theorem d_Mo_buy_102 : decode b_Mo_buy 102 = .ok (.goto 4, 3) := by decide +kernel
theorem d_Mo_buy_105 : decode b_Mo_buy 105 = .ok (.iconst 0, 1) := by decide +kernel
theorem d_Mo_buy_106 : decode b_Mo_buy 106 = .ok (.istore 8, 2) := by decide +kernel
theorem d_Mo_buy_108 : decode b_Mo_buy 108 = .ok (.iload 8, 2) := by decide +kernel
theorem d_Mo_buy_110 : decode b_Mo_buy 110 = .ok (.ifCond .eq 8, 3) := by decide +kernel
theorem d_Mo_buy_113 : decode b_Mo_buy 113 = .ok (.iload 7, 2) := by decide +kernel
theorem d_Mo_buy_115 : decode b_Mo_buy 115 = .ok (.goto 5, 3) := by decide +kernel
theorem d_Mo_buy_118 : decode b_Mo_buy 118 = .ok (.iload 5, 2) := by decide +kernel
theorem d_Mo_buy_120 : decode b_Mo_buy 120 = .ok (.istore 5, 2) := by decide +kernel
theorem d_Mo_buy_122 : decode b_Mo_buy 122 = .ok (.iload 8, 2) := by decide +kernel
theorem d_Mo_buy_124 : decode b_Mo_buy 124 = .ok (.ifCond .eq 11, 3) := by decide +kernel
theorem d_Mo_buy_127 : decode b_Mo_buy 127 = .ok (.aload_n 0, 1) := by decide +kernel
theorem d_Mo_buy_128 : decode b_Mo_buy 128 = .ok (.iload_n 1, 1) := by decide +kernel
theorem d_Mo_buy_129 : decode b_Mo_buy 129 = .ok (.invokevirtual 258, 3) := by decide +kernel
theorem d_Mo_buy_132 : decode b_Mo_buy 132 = .ok (.goto 5, 3) := by decide +kernel
theorem d_Mo_buy_135 : decode b_Mo_buy 135 = .ok (.iload 6, 2) := by decide +kernel
theorem d_Mo_buy_137 : decode b_Mo_buy 137 = .ok (.istore 6, 2) := by decide +kernel
theorem d_Mo_buy_139 : decode b_Mo_buy 139 = .ok (.iinc 7 1, 3) := by decide +kernel
theorem d_Mo_buy_142 : decode b_Mo_buy 142 = .ok (.goto (-100), 3) := by decide +kernel
theorem d_Mo_buy_145 : decode b_Mo_buy 145 = .ok (.aload_n 0, 1) := by decide +kernel
theorem d_Mo_buy_146 : decode b_Mo_buy 146 = .ok (.iconst 0, 1) := by decide +kernel
theorem d_Mo_buy_147 : decode b_Mo_buy 147 = .ok (.putfield 216, 3) := by decide +kernel
theorem d_Mo_buy_150 : decode b_Mo_buy 150 = .ok (.iload 5, 2) := by decide +kernel
theorem d_Mo_buy_152 : decode b_Mo_buy 152 = .ok (.iconst (-1), 1) := by decide +kernel
theorem d_Mo_buy_153 : decode b_Mo_buy 153 = .ok (.if_icmp .ne 7, 3) := by decide +kernel
theorem d_Mo_buy_156 : decode b_Mo_buy 156 = .ok (.iconst (-1), 1) := by decide +kernel
theorem d_Mo_buy_157 : decode b_Mo_buy 157 = .ok (.goto 15, 3) := by decide +kernel
theorem d_Mo_buy_160 : decode b_Mo_buy 160 = .ok (.iload 4, 2) := by decide +kernel
theorem d_Mo_buy_162 : decode b_Mo_buy 162 = .ok (.ifCond .ne 8, 3) := by decide +kernel
theorem d_Mo_buy_165 : decode b_Mo_buy 165 = .ok (.iload 6, 2) := by decide +kernel
theorem d_Mo_buy_167 : decode b_Mo_buy 167 = .ok (.goto 5, 3) := by decide +kernel
theorem d_Mo_buy_170 : decode b_Mo_buy 170 = .ok (.iload 5, 2) := by decide +kernel
theorem d_Mo_buy_172 : decode b_Mo_buy 172 = .ok (.ireturn, 1) := by decide +kernel
theorem d_Mo_who_0 : decode b_Mo_who 0 = .ok (.iload_n 1, 1) := by decide +kernel
theorem d_Mo_who_1 : decode b_Mo_who 1 = .ok (.invokestatic 79, 3) := by decide +kernel
theorem d_Mo_who_4 : decode b_Mo_who 4 = .ok (.ifCond .eq 8, 3) := by decide +kernel
theorem d_Mo_who_7 : decode b_Mo_who 7 = .ok (.iload_n 2, 1) := by decide +kernel
theorem d_Mo_who_8 : decode b_Mo_who 8 = .ok (.iconst (-1), 1) := by decide +kernel
theorem d_Mo_who_9 : decode b_Mo_who 9 = .ok (.if_icmp .ge 8, 3) := by decide +kernel
theorem d_Mo_who_12 : decode b_Mo_who 12 = .ok (.aload_n 0, 1) := by decide +kernel
theorem d_Mo_who_13 : decode b_Mo_who 13 = .ok (.invokevirtual 261, 3) := by decide +kernel
theorem d_Mo_who_16 : decode b_Mo_who 16 = .ok (.ireturn, 1) := by decide +kernel
theorem d_Mo_who_17 : decode b_Mo_who 17 = .ok (.iconst 0, 1) := by decide +kernel
theorem d_Mo_who_18 : decode b_Mo_who 18 = .ok (.istore_n 3, 1) := by decide +kernel
theorem d_Mo_who_19 : decode b_Mo_who 19 = .ok (.iconst 0, 1) := by decide +kernel
theorem d_Mo_who_20 : decode b_Mo_who 20 = .ok (.istore 4, 2) := by decide +kernel
theorem d_Mo_who_22 : decode b_Mo_who 22 = .ok (.iload 4, 2) := by decide +kernel
theorem d_Mo_who_24 : decode b_Mo_who 24 = .ok (.bipush 20, 2) := by decide +kernel
theorem d_Mo_who_26 : decode b_Mo_who 26 = .ok (.aload_n 0, 1) := by decide +kernel
theorem d_Mo_who_27 : decode b_Mo_who 27 = .ok (.getfield 7, 3) := by decide +kernel
theorem d_Mo_who_30 : decode b_Mo_who 30 = .ok (.bipush 122, 2) := by decide +kernel
theorem d_Mo_who_32 : decode b_Mo_who 32 = .ok (.iaload, 1) := by decide +kernel
theorem d_Mo_who_33 : decode b_Mo_who 33 = .ok (.imul, 1) := by decide +kernel
theorem d_Mo_who_34 : decode b_Mo_who 34 = .ok (.if_icmp .ge 58, 3) := by decide +kernel
theorem d_Mo_who_37 : decode b_Mo_who 37 = .ok (.aload_n 0, 1) := by decide +kernel
theorem d_Mo_who_38 : decode b_Mo_who 38 = .ok (.iload 4, 2) := by decide +kernel
theorem d_Mo_who_40 : decode b_Mo_who 40 = .ok (.bipush 20, 2) := by decide +kernel
theorem d_Mo_who_42 : decode b_Mo_who 42 = .ok (.idiv, 1) := by decide +kernel
theorem d_Mo_who_43 : decode b_Mo_who 43 = .ok (.iload 4, 2) := by decide +kernel
theorem d_Mo_who_45 : decode b_Mo_who 45 = .ok (.bipush 20, 2) := by decide +kernel
theorem d_Mo_who_47 : decode b_Mo_who 47 = .ok (.irem, 1) := by decide +kernel
theorem d_Mo_who_48 : decode b_Mo_who 48 = .ok (.iconst 1, 1) := by decide +kernel
theorem d_Mo_who_49 : decode b_Mo_who 49 = .ok (.iadd, 1) := by decide +kernel
theorem d_Mo_who_50 : decode b_Mo_who 50 = .ok (.iload_n 1, 1) := by decide +kernel
theorem d_Mo_who_51 : decode b_Mo_who 51 = .ok (.invokevirtual 252, 3) := by decide +kernel
theorem d_Mo_who_54 : decode b_Mo_who 54 = .ok (.aload_n 0, 1) := by decide +kernel
theorem d_Mo_who_55 : decode b_Mo_who 55 = .ok (.invokevirtual 288, 3) := by decide +kernel
theorem d_Mo_who_58 : decode b_Mo_who 58 = .ok (.ifCond .eq 28, 3) := by decide +kernel
theorem d_Mo_who_61 : decode b_Mo_who 61 = .ok (.iload_n 3, 1) := by decide +kernel
theorem d_Mo_who_62 : decode b_Mo_who 62 = .ok (.iload_n 2, 1) := by decide +kernel
theorem d_Mo_who_63 : decode b_Mo_who 63 = .ok (.if_icmp .ne 20, 3) := by decide +kernel
theorem d_Mo_who_66 : decode b_Mo_who 66 = .ok (.bipush 100, 2) := by decide +kernel
theorem d_Mo_who_68 : decode b_Mo_who 68 = .ok (.iload 4, 2) := by decide +kernel
theorem d_Mo_who_70 : decode b_Mo_who 70 = .ok (.bipush 20, 2) := by decide +kernel
theorem d_Mo_who_72 : decode b_Mo_who 72 = .ok (.idiv, 1) := by decide +kernel
theorem d_Mo_who_73 : decode b_Mo_who 73 = .ok (.imul, 1) := by decide +kernel
theorem d_Mo_who_74 : decode b_Mo_who 74 = .ok (.iload 4, 2) := by decide +kernel
theorem d_Mo_who_76 : decode b_Mo_who 76 = .ok (.bipush 20, 2) := by decide +kernel
theorem d_Mo_who_78 : decode b_Mo_who 78 = .ok (.irem, 1) := by decide +kernel
theorem d_Mo_who_79 : decode b_Mo_who 79 = .ok (.iadd, 1) := by decide +kernel
theorem d_Mo_who_80 : decode b_Mo_who 80 = .ok (.iconst 1, 1) := by decide +kernel
theorem d_Mo_who_81 : decode b_Mo_who 81 = .ok (.iadd, 1) := by decide +kernel
theorem d_Mo_who_82 : decode b_Mo_who 82 = .ok (.ireturn, 1) := by decide +kernel
theorem d_Mo_who_83 : decode b_Mo_who 83 = .ok (.iinc 3 1, 3) := by decide +kernel
theorem d_Mo_who_86 : decode b_Mo_who 86 = .ok (.iinc 4 1, 3) := by decide +kernel
theorem d_Mo_who_89 : decode b_Mo_who 89 = .ok (.goto (-67), 3) := by decide +kernel
theorem d_Mo_who_92 : decode b_Mo_who 92 = .ok (.iload_n 2, 1) := by decide +kernel
theorem d_Mo_who_93 : decode b_Mo_who 93 = .ok (.iconst (-1), 1) := by decide +kernel
theorem d_Mo_who_94 : decode b_Mo_who 94 = .ok (.if_icmp .ne 7, 3) := by decide +kernel
theorem d_Mo_who_97 : decode b_Mo_who 97 = .ok (.iload_n 3, 1) := by decide +kernel
theorem d_Mo_who_98 : decode b_Mo_who 98 = .ok (.goto 5, 3) := by decide +kernel
theorem d_Mo_who_101 : decode b_Mo_who 101 = .ok (.bipush (-5), 2) := by decide +kernel
theorem d_Mo_who_103 : decode b_Mo_who 103 = .ok (.ireturn, 1) := by decide +kernel
theorem d_Mo_isStill_0 : decode b_Mo_isStill 0 = .ok (.iconst 1, 1) := by decide +kernel
theorem d_Mo_isStill_1 : decode b_Mo_isStill 1 = .ok (.istore 4, 2) := by decide +kernel
theorem d_Mo_isStill_3 : decode b_Mo_isStill 3 = .ok (.iconst 0, 1) := by decide +kernel
theorem d_Mo_isStill_4 : decode b_Mo_isStill 4 = .ok (.istore 5, 2) := by decide +kernel
theorem d_Mo_isStill_6 : decode b_Mo_isStill 6 = .ok (.iload 4, 2) := by decide +kernel
theorem d_Mo_isStill_8 : decode b_Mo_isStill 8 = .ok (.ifCond .eq 45, 3) := by decide +kernel
theorem d_Mo_isStill_11 : decode b_Mo_isStill 11 = .ok (.iload 5, 2) := by decide +kernel
theorem d_Mo_isStill_13 : decode b_Mo_isStill 13 = .ok (.aload_n 0, 1) := by decide +kernel
theorem d_Mo_isStill_14 : decode b_Mo_isStill 14 = .ok (.getfield 7, 3) := by decide +kernel
theorem d_Mo_isStill_17 : decode b_Mo_isStill 17 = .ok (.bipush 122, 2) := by decide +kernel
theorem d_Mo_isStill_19 : decode b_Mo_isStill 19 = .ok (.iaload, 1) := by decide +kernel
theorem d_Mo_isStill_20 : decode b_Mo_isStill 20 = .ok (.if_icmp .ge 33, 3) := by decide +kernel
theorem d_Mo_isStill_23 : decode b_Mo_isStill 23 = .ok (.aload_n 0, 1) := by decide +kernel
theorem d_Mo_isStill_24 : decode b_Mo_isStill 24 = .ok (.iload 5, 2) := by decide +kernel
theorem d_Mo_isStill_26 : decode b_Mo_isStill 26 = .ok (.iload_n 1, 1) := by decide +kernel
theorem d_Mo_isStill_27 : decode b_Mo_isStill 27 = .ok (.iload_n 2, 1) := by decide +kernel
theorem d_Mo_isStill_28 : decode b_Mo_isStill 28 = .ok (.invokevirtual 252, 3) := by decide +kernel
theorem d_Mo_isStill_31 : decode b_Mo_isStill 31 = .ok (.aload_n 0, 1) := by decide +kernel
theorem d_Mo_isStill_32 : decode b_Mo_isStill 32 = .ok (.getfield 29, 3) := by decide +kernel
theorem d_Mo_isStill_35 : decode b_Mo_isStill 35 = .ok (.iload_n 3, 1) := by decide +kernel
theorem d_Mo_isStill_36 : decode b_Mo_isStill 36 = .ok (.iaload, 1) := by decide +kernel
theorem d_Mo_isStill_37 : decode b_Mo_isStill 37 = .ok (.ifCond .ne 7, 3) := by decide +kernel
theorem d_Mo_isStill_40 : decode b_Mo_isStill 40 = .ok (.iconst 1, 1) := by decide +kernel
theorem d_Mo_isStill_41 : decode b_Mo_isStill 41 = .ok (.goto 4, 3) := by decide +kernel
theorem d_Mo_isStill_44 : decode b_Mo_isStill 44 = .ok (.iconst 0, 1) := by decide +kernel
theorem d_Mo_isStill_45 : decode b_Mo_isStill 45 = .ok (.istore 4, 2) := by decide +kernel
theorem d_Mo_isStill_47 : decode b_Mo_isStill 47 = .ok (.iinc 5 1, 3) := by decide +kernel
theorem d_Mo_isStill_50 : decode b_Mo_isStill 50 = .ok (.goto (-44), 3) := by decide +kernel
theorem d_Mo_isStill_53 : decode b_Mo_isStill 53 = .ok (.iload 4, 2) := by decide +kernel
theorem d_Mo_isStill_55 : decode b_Mo_isStill 55 = .ok (.ireturn, 1) := by decide +kernel
theorem d_Mo_still_0 : decode b_Mo_still 0 = .ok (.iload_n 1, 1) := by decide +kernel
theorem d_Mo_still_1 : decode b_Mo_still 1 = .ok (.invokestatic 76, 3) := by decide +kernel
theorem d_Mo_still_4 : decode b_Mo_still 4 = .ok (.ifCond .eq 18, 3) := by decide +kernel
theorem d_Mo_still_7 : decode b_Mo_still 7 = .ok (.iload_n 2, 1) := by decide +kernel
theorem d_Mo_still_8 : decode b_Mo_still 8 = .ok (.invokestatic 79, 3) := by decide +kernel
theorem d_Mo_still_11 : decode b_Mo_still 11 = .ok (.ifCond .eq 11, 3) := by decide +kernel
theorem d_Mo_still_14 : decode b_Mo_still 14 = .ok (.aload_n 0, 1) := by decide +kernel
theorem d_Mo_still_15 : decode b_Mo_still 15 = .ok (.iload_n 3, 1) := by decide +kernel
theorem d_Mo_still_16 : decode b_Mo_still 16 = .ok (.invokevirtual 95, 3) := by decide +kernel
theorem d_Mo_still_19 : decode b_Mo_still 19 = .ok (.ifCond .ne 8, 3) := by decide +kernel
theorem d_Mo_still_22 : decode b_Mo_still 22 = .ok (.aload_n 0, 1) := by decide +kernel
theorem d_Mo_still_23 : decode b_Mo_still 23 = .ok (.invokevirtual 92, 3) := by decide +kernel
theorem d_Mo_still_26 : decode b_Mo_still 26 = .ok (.ireturn, 1) := by decide +kernel
theorem d_Mo_still_27 : decode b_Mo_still 27 = .ok (.iconst (-1), 1) := by decide +kernel
theorem d_Mo_still_28 : decode b_Mo_still 28 = .ok (.istore 4, 2) := by decide +kernel
theorem d_Mo_still_30 : decode b_Mo_still 30 = .ok (.iconst 0, 1) := by decide +kernel
theorem d_Mo_still_31 : decode b_Mo_still 31 = .ok (.istore 5, 2) := by decide +kernel
theorem d_Mo_still_33 : decode b_Mo_still 33 = .ok (.iload 5, 2) := by decide +kernel
theorem d_Mo_still_35 : decode b_Mo_still 35 = .ok (.iconst 1, 1) := by decide +kernel
theorem d_Mo_still_36 : decode b_Mo_still 36 = .ok (.aload_n 0, 1) := by decide +kernel
theorem d_Mo_still_37 : decode b_Mo_still 37 = .ok (.getfield 7, 3) := by decide +kernel
theorem d_Mo_still_40 : decode b_Mo_still 40 = .ok (.sipush 147, 3) := by decide +kernel
theorem d_Mo_still_43 : decode b_Mo_still 43 = .ok (.iaload, 1) := by decide +kernel
theorem d_Mo_still_44 : decode b_Mo_still 44 = .ok (.ishl, 1) := by decide +kernel
theorem d_Mo_still_45 : decode b_Mo_still 45 = .ok (.if_icmp .ge 53, 3) := by decide +kernel
theorem d_Mo_still_48 : decode b_Mo_still 48 = .ok (.iload 4, 2) := by decide +kernel
theorem d_Mo_still_50 : decode b_Mo_still 50 = .ok (.iconst (-1), 1) := by decide +kernel
theorem d_Mo_still_51 : decode b_Mo_still 51 = .ok (.if_icmp .eq 16, 3) := by decide +kernel
theorem d_Mo_still_54 : decode b_Mo_still 54 = .ok (.iload 5, 2) := by decide +kernel
theorem d_Mo_still_56 : decode b_Mo_still 56 = .ok (.invokestatic 280, 3) := by decide +kernel
theorem d_Mo_still_59 : decode b_Mo_still 59 = .ok (.iload 4, 2) := by decide +kernel
theorem d_Mo_still_61 : decode b_Mo_still 61 = .ok (.invokestatic 280, 3) := by decide +kernel
theorem d_Mo_still_64 : decode b_Mo_still 64 = .ok (.if_icmp .ge 28, 3) := by decide +kernel
theorem d_Mo_still_67 : decode b_Mo_still 67 = .ok (.aload_n 0, 1) := by decide +kernel
theorem d_Mo_still_68 : decode b_Mo_still 68 = .ok (.iload 5, 2) := by decide +kernel
theorem d_Mo_still_70 : decode b_Mo_still 70 = .ok (.putfield 203, 3) := by decide +kernel
theorem d_Mo_still_73 : decode b_Mo_still 73 = .ok (.aload_n 0, 1) := by decide +kernel
theorem d_Mo_still_74 : decode b_Mo_still 74 = .ok (.iload_n 1, 1) := by decide +kernel
theorem d_Mo_still_75 : decode b_Mo_still 75 = .ok (.iload_n 2, 1) := by decide +kernel
theorem d_Mo_still_76 : decode b_Mo_still 76 = .ok (.iload_n 3, 1) := by decide +kernel
theorem d_Mo_still_77 : decode b_Mo_still 77 = .ok (.invokevirtual 291, 3) := by decide +kernel
theorem d_Mo_still_80 : decode b_Mo_still 80 = .ok (.ifCond .eq 8, 3) := by decide +kernel
theorem d_Mo_still_83 : decode b_Mo_still 83 = .ok (.iload 5, 2) := by decide +kernel
theorem d_Mo_still_85 : decode b_Mo_still 85 = .ok (.goto 5, 3) := by decide +kernel
theorem d_Mo_still_88 : decode b_Mo_still 88 = .ok (.iload 4, 2) := by decide +kernel
theorem d_Mo_still_90 : decode b_Mo_still 90 = .ok (.istore 4, 2) := by decide +kernel
theorem d_Mo_still_92 : decode b_Mo_still 92 = .ok (.iinc 5 1, 3) := by decide +kernel
theorem d_Mo_still_95 : decode b_Mo_still 95 = .ok (.goto (-62), 3) := by decide +kernel
theorem d_Mo_still_98 : decode b_Mo_still 98 = .ok (.aload_n 0, 1) := by decide +kernel
theorem d_Mo_still_99 : decode b_Mo_still 99 = .ok (.iconst 0, 1) := by decide +kernel
theorem d_Mo_still_100 : decode b_Mo_still 100 = .ok (.putfield 203, 3) := by decide +kernel
theorem d_Mo_still_103 : decode b_Mo_still 103 = .ok (.iload 4, 2) := by decide +kernel
theorem d_Mo_still_105 : decode b_Mo_still 105 = .ok (.ireturn, 1) := by decide +kernel
theorem d_Mo_cry_0 : decode b_Mo_cry 0 = .ok (.aload_n 0, 1) := by decide +kernel
theorem d_Mo_cry_1 : decode b_Mo_cry 1 = .ok (.iload_n 1, 1) := by decide +kernel
theorem d_Mo_cry_2 : decode b_Mo_cry 2 = .ok (.invokevirtual 72, 3) := by decide +kernel
theorem d_Mo_cry_5 : decode b_Mo_cry 5 = .ok (.ifCond .eq 15, 3) := by decide +kernel
theorem d_Mo_cry_8 : decode b_Mo_cry 8 = .ok (.iload_n 2, 1) := by decide +kernel
theorem d_Mo_cry_9 : decode b_Mo_cry 9 = .ok (.i2l, 1) := by decide +kernel
theorem d_Mo_cry_10 : decode b_Mo_cry 10 = .ok (.lconst 0, 1) := by decide +kernel
theorem d_Mo_cry_11 : decode b_Mo_cry 11 = .ok (.ldc2_w 68, 3) := by decide +kernel
theorem d_Mo_cry_14 : decode b_Mo_cry 14 = .ok (.invokestatic 62, 3) := by decide +kernel
theorem d_Mo_cry_17 : decode b_Mo_cry 17 = .ok (.ifCond .ne 8, 3) := by decide +kernel
theorem d_Mo_cry_20 : decode b_Mo_cry 20 = .ok (.aload_n 0, 1) := by decide +kernel
theorem d_Mo_cry_21 : decode b_Mo_cry 21 = .ok (.invokevirtual 92, 3) := by decide +kernel
theorem d_Mo_cry_24 : decode b_Mo_cry 24 = .ok (.ireturn, 1) := by decide +kernel
theorem d_Mo_cry_25 : decode b_Mo_cry 25 = .ok (.aload_n 0, 1) := by decide +kernel
theorem d_Mo_cry_26 : decode b_Mo_cry 26 = .ok (.getfield 7, 3) := by decide +kernel
theorem d_Mo_cry_29 : decode b_Mo_cry 29 = .ok (.bipush 123, 2) := by decide +kernel
theorem d_Mo_cry_31 : decode b_Mo_cry 31 = .ok (.iconst 4, 1) := by decide +kernel
theorem d_Mo_cry_32 : decode b_Mo_cry 32 = .ok (.iload_n 1, 1) := by decide +kernel
theorem d_Mo_cry_33 : decode b_Mo_cry 33 = .ok (.imul, 1) := by decide +kernel
theorem d_Mo_cry_34 : decode b_Mo_cry 34 = .ok (.iadd, 1) := by decide +kernel
theorem d_Mo_cry_35 : decode b_Mo_cry 35 = .ok (.iconst 3, 1) := by decide +kernel
theorem d_Mo_cry_36 : decode b_Mo_cry 36 = .ok (.iadd, 1) := by decide +kernel
theorem d_Mo_cry_37 : decode b_Mo_cry 37 = .ok (.iaload, 1) := by decide +kernel
theorem d_Mo_cry_38 : decode b_Mo_cry 38 = .ok (.istore_n 3, 1) := by decide +kernel
theorem d_Mo_cry_39 : decode b_Mo_cry 39 = .ok (.aload_n 0, 1) := by decide +kernel
theorem d_Mo_cry_40 : decode b_Mo_cry 40 = .ok (.getfield 7, 3) := by decide +kernel
theorem d_Mo_cry_43 : decode b_Mo_cry 43 = .ok (.bipush 123, 2) := by decide +kernel
theorem d_Mo_cry_45 : decode b_Mo_cry 45 = .ok (.iconst 4, 1) := by decide +kernel
theorem d_Mo_cry_46 : decode b_Mo_cry 46 = .ok (.iload_n 1, 1) := by decide +kernel
theorem d_Mo_cry_47 : decode b_Mo_cry 47 = .ok (.imul, 1) := by decide +kernel
theorem d_Mo_cry_48 : decode b_Mo_cry 48 = .ok (.iadd, 1) := by decide +kernel
theorem d_Mo_cry_49 : decode b_Mo_cry 49 = .ok (.iconst 3, 1) := by decide +kernel
theorem d_Mo_cry_50 : decode b_Mo_cry 50 = .ok (.iadd, 1) := by decide +kernel
theorem d_Mo_cry_51 : decode b_Mo_cry 51 = .ok (.iload_n 2, 1) := by decide +kernel
theorem d_Mo_cry_52 : decode b_Mo_cry 52 = .ok (.iastore, 1) := by decide +kernel
theorem d_Mo_cry_53 : decode b_Mo_cry 53 = .ok (.iload_n 3, 1) := by decide +kernel
theorem d_Mo_cry_54 : decode b_Mo_cry 54 = .ok (.ireturn, 1) := by decide +kernel
theorem d_Mo_layHearers_0 : decode b_Mo_layHearers 0 = .ok (.iconst 0, 1) := by decide +kernel
theorem d_Mo_layHearers_1 : decode b_Mo_layHearers 1 = .ok (.istore_n 2, 1) := by decide +kernel
theorem d_Mo_layHearers_2 : decode b_Mo_layHearers 2 = .ok (.iload_n 2, 1) := by decide +kernel
theorem d_Mo_layHearers_3 : decode b_Mo_layHearers 3 = .ok (.aload_n 0, 1) := by decide +kernel
theorem d_Mo_layHearers_4 : decode b_Mo_layHearers 4 = .ok (.getfield 7, 3) := by decide +kernel
theorem d_Mo_layHearers_7 : decode b_Mo_layHearers 7 = .ok (.bipush 122, 2) := by decide +kernel
theorem d_Mo_layHearers_9 : decode b_Mo_layHearers 9 = .ok (.iaload, 1) := by decide +kernel
theorem d_Mo_layHearers_10 : decode b_Mo_layHearers 10 = .ok (.if_icmp .ge 101, 3) := by decide +kernel
theorem d_Mo_layHearers_13 : decode b_Mo_layHearers 13 = .ok (.aload_n 0, 1) := by decide +kernel
theorem d_Mo_layHearers_14 : decode b_Mo_layHearers 14 = .ok (.getfield 38, 3) := by decide +kernel
theorem d_Mo_layHearers_17 : decode b_Mo_layHearers 17 = .ok (.iload_n 2, 1) := by decide +kernel
theorem d_Mo_layHearers_18 : decode b_Mo_layHearers 18 = .ok (.iconst 0, 1) := by decide +kernel
theorem d_Mo_layHearers_19 : decode b_Mo_layHearers 19 = .ok (.iastore, 1) := by decide +kernel
theorem d_Mo_layHearers_20 : decode b_Mo_layHearers 20 = .ok (.aload_n 0, 1) := by decide +kernel
theorem d_Mo_layHearers_21 : decode b_Mo_layHearers 21 = .ok (.getfield 7, 3) := by decide +kernel
theorem d_Mo_layHearers_24 : decode b_Mo_layHearers 24 = .ok (.bipush 123, 2) := by decide +kernel
theorem d_Mo_layHearers_26 : decode b_Mo_layHearers 26 = .ok (.iconst 4, 1) := by decide +kernel
theorem d_Mo_layHearers_27 : decode b_Mo_layHearers 27 = .ok (.iload_n 2, 1) := by decide +kernel
theorem d_Mo_layHearers_28 : decode b_Mo_layHearers 28 = .ok (.imul, 1) := by decide +kernel
theorem d_Mo_layHearers_29 : decode b_Mo_layHearers 29 = .ok (.iadd, 1) := by decide +kernel
theorem d_Mo_layHearers_30 : decode b_Mo_layHearers 30 = .ok (.iconst 3, 1) := by decide +kernel
theorem d_Mo_layHearers_31 : decode b_Mo_layHearers 31 = .ok (.iadd, 1) := by decide +kernel
theorem d_Mo_layHearers_32 : decode b_Mo_layHearers 32 = .ok (.iaload, 1) := by decide +kernel
theorem d_Mo_layHearers_33 : decode b_Mo_layHearers 33 = .ok (.istore_n 3, 1) := by decide +kernel
theorem d_Mo_layHearers_34 : decode b_Mo_layHearers 34 = .ok (.iload_n 3, 1) := by decide +kernel
theorem d_Mo_layHearers_35 : decode b_Mo_layHearers 35 = .ok (.ifCond .le 70, 3) := by decide +kernel
theorem d_Mo_layHearers_38 : decode b_Mo_layHearers 38 = .ok (.aload_n 0, 1) := by decide +kernel
theorem d_Mo_layHearers_39 : decode b_Mo_layHearers 39 = .ok (.iload_n 2, 1) := by decide +kernel
theorem d_Mo_layHearers_40 : decode b_Mo_layHearers 40 = .ok (.iload_n 3, 1) := by decide +kernel
theorem d_Mo_layHearers_41 : decode b_Mo_layHearers 41 = .ok (.iload_n 1, 1) := by decide +kernel
theorem d_Mo_layHearers_42 : decode b_Mo_layHearers 42 = .ok (.invokevirtual 252, 3) := by decide +kernel
theorem d_Mo_layHearers_45 : decode b_Mo_layHearers 45 = .ok (.iconst 0, 1) := by decide +kernel
theorem d_Mo_layHearers_46 : decode b_Mo_layHearers 46 = .ok (.istore 4, 2) := by decide +kernel
theorem d_Mo_layHearers_48 : decode b_Mo_layHearers 48 = .ok (.iload 4, 2) := by decide +kernel
theorem d_Mo_layHearers_50 : decode b_Mo_layHearers 50 = .ok (.aload_n 0, 1) := by decide +kernel
theorem d_Mo_layHearers_51 : decode b_Mo_layHearers 51 = .ok (.getfield 7, 3) := by decide +kernel
theorem d_Mo_layHearers_54 : decode b_Mo_layHearers 54 = .ok (.bipush 122, 2) := by decide +kernel
theorem d_Mo_layHearers_56 : decode b_Mo_layHearers 56 = .ok (.iaload, 1) := by decide +kernel
theorem d_Mo_layHearers_57 : decode b_Mo_layHearers 57 = .ok (.if_icmp .ge 48, 3) := by decide +kernel
theorem d_Mo_layHearers_60 : decode b_Mo_layHearers 60 = .ok (.aload_n 0, 1) := by decide +kernel
theorem d_Mo_layHearers_61 : decode b_Mo_layHearers 61 = .ok (.getfield 38, 3) := by decide +kernel
theorem d_Mo_layHearers_64 : decode b_Mo_layHearers 64 = .ok (.iload_n 2, 1) := by decide +kernel
theorem d_Mo_layHearers_65 : decode b_Mo_layHearers 65 = .ok (.dup2, 1) := by decide +kernel
theorem d_Mo_layHearers_66 : decode b_Mo_layHearers 66 = .ok (.iaload, 1) := by decide +kernel
theorem d_Mo_layHearers_67 : decode b_Mo_layHearers 67 = .ok (.aload_n 0, 1) := by decide +kernel
theorem d_Mo_layHearers_68 : decode b_Mo_layHearers 68 = .ok (.getfield 29, 3) := by decide +kernel
theorem d_Mo_layHearers_71 : decode b_Mo_layHearers 71 = .ok (.aload_n 0, 1) := by decide +kernel
theorem d_Mo_layHearers_72 : decode b_Mo_layHearers 72 = .ok (.getfield 7, 3) := by decide +kernel
theorem d_Mo_layHearers_75 : decode b_Mo_layHearers 75 = .ok (.bipush 123, 2) := by decide +kernel
theorem d_Mo_layHearers_77 : decode b_Mo_layHearers 77 = .ok (.iconst 4, 1) := by decide +kernel
theorem d_Mo_layHearers_78 : decode b_Mo_layHearers 78 = .ok (.iload 4, 2) := by decide +kernel
theorem d_Mo_layHearers_80 : decode b_Mo_layHearers 80 = .ok (.imul, 1) := by decide +kernel
theorem d_Mo_layHearers_81 : decode b_Mo_layHearers 81 = .ok (.iadd, 1) := by decide +kernel
theorem d_Mo_layHearers_82 : decode b_Mo_layHearers 82 = .ok (.iconst 1, 1) := by decide +kernel
theorem d_Mo_layHearers_83 : decode b_Mo_layHearers 83 = .ok (.iadd, 1) := by decide +kernel
theorem d_Mo_layHearers_84 : decode b_Mo_layHearers 84 = .ok (.iaload, 1) := by decide +kernel
theorem d_Mo_layHearers_85 : decode b_Mo_layHearers 85 = .ok (.iaload, 1) := by decide +kernel
theorem d_Mo_layHearers_86 : decode b_Mo_layHearers 86 = .ok (.ifCond .le 10, 3) := by decide +kernel
theorem d_Mo_layHearers_89 : decode b_Mo_layHearers 89 = .ok (.iconst 1, 1) := by decide +kernel
theorem d_Mo_layHearers_90 : decode b_Mo_layHearers 90 = .ok (.iload 4, 2) := by decide +kernel
theorem d_Mo_layHearers_92 : decode b_Mo_layHearers 92 = .ok (.ishl, 1) := by decide +kernel
theorem d_Mo_layHearers_93 : decode b_Mo_layHearers 93 = .ok (.goto 4, 3) := by decide +kernel
theorem d_Mo_layHearers_96 : decode b_Mo_layHearers 96 = .ok (.iconst 0, 1) := by decide +kernel
theorem d_Mo_layHearers_97 : decode b_Mo_layHearers 97 = .ok (.ior, 1) := by decide +kernel
theorem d_Mo_layHearers_98 : decode b_Mo_layHearers 98 = .ok (.iastore, 1) := by decide +kernel
theorem d_Mo_layHearers_99 : decode b_Mo_layHearers 99 = .ok (.iinc 4 1, 3) := by decide +kernel
theorem d_Mo_layHearers_102 : decode b_Mo_layHearers 102 = .ok (.goto (-54), 3) := by decide +kernel
theorem d_Mo_layHearers_105 : decode b_Mo_layHearers 105 = .ok (.iinc 2 1, 3) := by decide +kernel
theorem d_Mo_layHearers_108 : decode b_Mo_layHearers 108 = .ok (.goto (-106), 3) := by decide +kernel
theorem d_Mo_layHearers_111 : decode b_Mo_layHearers 111 = .ok (.return_, 1) := by decide +kernel
theorem d_Mo_criers_0 : decode b_Mo_criers 0 = .ok (.aload_n 0, 1) := by decide +kernel
theorem d_Mo_criers_1 : decode b_Mo_criers 1 = .ok (.iload_n 1, 1) := by decide +kernel
theorem d_Mo_criers_2 : decode b_Mo_criers 2 = .ok (.invokevirtual 72, 3) := by decide +kernel
theorem d_Mo_criers_5 : decode b_Mo_criers 5 = .ok (.ifCond .eq 29, 3) := by decide +kernel
theorem d_Mo_criers_8 : decode b_Mo_criers 8 = .ok (.aload_n 0, 1) := by decide +kernel
theorem d_Mo_criers_9 : decode b_Mo_criers 9 = .ok (.iload_n 2, 1) := by decide +kernel
theorem d_Mo_criers_10 : decode b_Mo_criers 10 = .ok (.invokevirtual 72, 3) := by decide +kernel
theorem d_Mo_criers_13 : decode b_Mo_criers 13 = .ok (.ifCond .eq 21, 3) := by decide +kernel
theorem d_Mo_criers_16 : decode b_Mo_criers 16 = .ok (.iload_n 3, 1) := by decide +kernel
theorem d_Mo_criers_17 : decode b_Mo_criers 17 = .ok (.invokestatic 79, 3) := by decide +kernel
theorem d_Mo_criers_20 : decode b_Mo_criers 20 = .ok (.ifCond .eq 14, 3) := by decide +kernel
theorem d_Mo_criers_23 : decode b_Mo_criers 23 = .ok (.iload 4, 2) := by decide +kernel
theorem d_Mo_criers_25 : decode b_Mo_criers 25 = .ok (.i2l, 1) := by decide +kernel
theorem d_Mo_criers_26 : decode b_Mo_criers 26 = .ok (.lconst 0, 1) := by decide +kernel
theorem d_Mo_criers_27 : decode b_Mo_criers 27 = .ok (.lconst 1, 1) := by decide +kernel
theorem d_Mo_criers_28 : decode b_Mo_criers 28 = .ok (.invokestatic 62, 3) := by decide +kernel
theorem d_Mo_criers_31 : decode b_Mo_criers 31 = .ok (.ifCond .ne 8, 3) := by decide +kernel
theorem d_Mo_criers_34 : decode b_Mo_criers 34 = .ok (.aload_n 0, 1) := by decide +kernel
theorem d_Mo_criers_35 : decode b_Mo_criers 35 = .ok (.invokevirtual 92, 3) := by decide +kernel
theorem d_Mo_criers_38 : decode b_Mo_criers 38 = .ok (.ireturn, 1) := by decide +kernel
theorem d_Mo_criers_39 : decode b_Mo_criers 39 = .ok (.aload_n 0, 1) := by decide +kernel
theorem d_Mo_criers_40 : decode b_Mo_criers 40 = .ok (.iload_n 3, 1) := by decide +kernel
theorem d_Mo_criers_41 : decode b_Mo_criers 41 = .ok (.invokevirtual 294, 3) := by decide +kernel
theorem d_Mo_criers_44 : decode b_Mo_criers 44 = .ok (.iconst 0, 1) := by decide +kernel
theorem d_Mo_criers_45 : decode b_Mo_criers 45 = .ok (.istore 5, 2) := by decide +kernel
theorem d_Mo_criers_47 : decode b_Mo_criers 47 = .ok (.iload 5, 2) := by decide +kernel
theorem d_Mo_criers_49 : decode b_Mo_criers 49 = .ok (.bipush 6, 2) := by decide +kernel
theorem d_Mo_criers_51 : decode b_Mo_criers 51 = .ok (.if_icmp .ge 28, 3) := by decide +kernel
theorem d_Mo_criers_54 : decode b_Mo_criers 54 = .ok (.aload_n 0, 1) := by decide +kernel
theorem d_Mo_criers_55 : decode b_Mo_criers 55 = .ok (.getfield 41, 3) := by decide +kernel
theorem d_Mo_criers_58 : decode b_Mo_criers 58 = .ok (.iload 5, 2) := by decide +kernel
theorem d_Mo_criers_60 : decode b_Mo_criers 60 = .ok (.iload 5, 2) := by decide +kernel
theorem d_Mo_criers_62 : decode b_Mo_criers 62 = .ok (.iload_n 2, 1) := by decide +kernel
theorem d_Mo_criers_63 : decode b_Mo_criers 63 = .ok (.if_icmp .ne 7, 3) := by decide +kernel
theorem d_Mo_criers_66 : decode b_Mo_criers 66 = .ok (.iconst 1, 1) := by decide +kernel
theorem d_Mo_criers_67 : decode b_Mo_criers 67 = .ok (.goto 5, 3) := by decide +kernel
theorem d_Mo_criers_70 : decode b_Mo_criers 70 = .ok (.bipush 99, 2) := by decide +kernel
theorem d_Mo_criers_72 : decode b_Mo_criers 72 = .ok (.iastore, 1) := by decide +kernel
theorem d_Mo_criers_73 : decode b_Mo_criers 73 = .ok (.iinc 5 1, 3) := by decide +kernel
theorem d_Mo_criers_76 : decode b_Mo_criers 76 = .ok (.goto (-29), 3) := by decide +kernel
theorem d_Mo_criers_79 : decode b_Mo_criers 79 = .ok (.iconst 0, 1) := by decide +kernel
theorem d_Mo_criers_80 : decode b_Mo_criers 80 = .ok (.istore 5, 2) := by decide +kernel
theorem d_Mo_criers_82 : decode b_Mo_criers 82 = .ok (.iload 5, 2) := by decide +kernel
theorem d_Mo_criers_84 : decode b_Mo_criers 84 = .ok (.bipush 6, 2) := by decide +kernel
theorem d_Mo_criers_86 : decode b_Mo_criers 86 = .ok (.if_icmp .ge 112, 3) := by decide +kernel
theorem d_Mo_criers_89 : decode b_Mo_criers 89 = .ok (.iconst 0, 1) := by decide +kernel
theorem d_Mo_criers_90 : decode b_Mo_criers 90 = .ok (.istore 6, 2) := by decide +kernel
theorem d_Mo_criers_92 : decode b_Mo_criers 92 = .ok (.iload 6, 2) := by decide +kernel
theorem d_Mo_criers_94 : decode b_Mo_criers 94 = .ok (.aload_n 0, 1) := by decide +kernel
theorem d_Mo_criers_95 : decode b_Mo_criers 95 = .ok (.getfield 7, 3) := by decide +kernel
theorem d_Mo_criers_98 : decode b_Mo_criers 98 = .ok (.bipush 122, 2) := by decide +kernel
theorem d_Mo_criers_100 : decode b_Mo_criers 100 = .ok (.iaload, 1) := by decide +kernel
theorem d_Mo_criers_101 : decode b_Mo_criers 101 = .ok (.if_icmp .ge 91, 3) := by decide +kernel
theorem d_Mo_criers_104 : decode b_Mo_criers 104 = .ok (.iconst 0, 1) := by decide +kernel
theorem d_Mo_criers_105 : decode b_Mo_criers 105 = .ok (.istore 7, 2) := by decide +kernel
theorem d_Mo_criers_107 : decode b_Mo_criers 107 = .ok (.iload 7, 2) := by decide +kernel
theorem d_Mo_criers_109 : decode b_Mo_criers 109 = .ok (.aload_n 0, 1) := by decide +kernel
theorem d_Mo_criers_110 : decode b_Mo_criers 110 = .ok (.getfield 7, 3) := by decide +kernel
theorem d_Mo_criers_113 : decode b_Mo_criers 113 = .ok (.bipush 122, 2) := by decide +kernel
theorem d_Mo_criers_115 : decode b_Mo_criers 115 = .ok (.iaload, 1) := by decide +kernel
theorem d_Mo_criers_116 : decode b_Mo_criers 116 = .ok (.if_icmp .ge 70, 3) := by decide +kernel
theorem d_Mo_criers_119 : decode b_Mo_criers 119 = .ok (.aload_n 0, 1) := by decide +kernel
theorem d_Mo_criers_120 : decode b_Mo_criers 120 = .ok (.getfield 41, 3) := by decide +kernel
theorem d_Mo_criers_123 : decode b_Mo_criers 123 = .ok (.iload 6, 2) := by decide +kernel
theorem d_Mo_criers_125 : decode b_Mo_criers 125 = .ok (.aload_n 0, 1) := by decide +kernel
theorem d_Mo_criers_126 : decode b_Mo_criers 126 = .ok (.getfield 38, 3) := by decide +kernel
theorem d_Mo_criers_129 : decode b_Mo_criers 129 = .ok (.iload 6, 2) := by decide +kernel
theorem d_Mo_criers_131 : decode b_Mo_criers 131 = .ok (.iaload, 1) := by decide +kernel
theorem d_Mo_criers_132 : decode b_Mo_criers 132 = .ok (.i2l, 1) := by decide +kernel
theorem d_Mo_criers_133 : decode b_Mo_criers 133 = .ok (.iload 7, 2) := by decide +kernel
theorem d_Mo_criers_135 : decode b_Mo_criers 135 = .ok (.invokestatic 196, 3) := by decide +kernel
theorem d_Mo_criers_138 : decode b_Mo_criers 138 = .ok (.ifCond .eq 34, 3) := by decide +kernel
theorem d_Mo_criers_141 : decode b_Mo_criers 141 = .ok (.aload_n 0, 1) := by decide +kernel
theorem d_Mo_criers_142 : decode b_Mo_criers 142 = .ok (.getfield 41, 3) := by decide +kernel
theorem d_Mo_criers_145 : decode b_Mo_criers 145 = .ok (.iload 7, 2) := by decide +kernel
theorem d_Mo_criers_147 : decode b_Mo_criers 147 = .ok (.iaload, 1) := by decide +kernel
theorem d_Mo_criers_148 : decode b_Mo_criers 148 = .ok (.iconst 1, 1) := by decide +kernel
theorem d_Mo_criers_149 : decode b_Mo_criers 149 = .ok (.iadd, 1) := by decide +kernel
theorem d_Mo_criers_150 : decode b_Mo_criers 150 = .ok (.aload_n 0, 1) := by decide +kernel
theorem d_Mo_criers_151 : decode b_Mo_criers 151 = .ok (.getfield 41, 3) := by decide +kernel
theorem d_Mo_criers_154 : decode b_Mo_criers 154 = .ok (.iload 6, 2) := by decide +kernel
theorem d_Mo_criers_156 : decode b_Mo_criers 156 = .ok (.iaload, 1) := by decide +kernel
theorem d_Mo_criers_157 : decode b_Mo_criers 157 = .ok (.if_icmp .ge 15, 3) := by decide +kernel
theorem d_Mo_criers_160 : decode b_Mo_criers 160 = .ok (.aload_n 0, 1) := by decide +kernel
theorem d_Mo_criers_161 : decode b_Mo_criers 161 = .ok (.getfield 41, 3) := by decide +kernel
theorem d_Mo_criers_164 : decode b_Mo_criers 164 = .ok (.iload 7, 2) := by decide +kernel
theorem d_Mo_criers_166 : decode b_Mo_criers 166 = .ok (.iaload, 1) := by decide +kernel
theorem d_Mo_criers_167 : decode b_Mo_criers 167 = .ok (.iconst 1, 1) := by decide +kernel
theorem d_Mo_criers_168 : decode b_Mo_criers 168 = .ok (.iadd, 1) := by decide +kernel
theorem d_Mo_criers_169 : decode b_Mo_criers 169 = .ok (.goto 10, 3) := by decide +kernel
theorem d_Mo_criers_172 : decode b_Mo_criers 172 = .ok (.aload_n 0, 1) := by decide +kernel
theorem d_Mo_criers_173 : decode b_Mo_criers 173 = .ok (.getfield 41, 3) := by decide +kernel
theorem d_Mo_criers_176 : decode b_Mo_criers 176 = .ok (.iload 6, 2) := by decide +kernel
theorem d_Mo_criers_178 : decode b_Mo_criers 178 = .ok (.iaload, 1) := by decide +kernel
theorem d_Mo_criers_179 : decode b_Mo_criers 179 = .ok (.iastore, 1) := by decide +kernel
theorem d_Mo_criers_180 : decode b_Mo_criers 180 = .ok (.iinc 7 1, 3) := by decide +kernel
theorem d_Mo_criers_183 : decode b_Mo_criers 183 = .ok (.goto (-76), 3) := by decide +kernel
theorem d_Mo_criers_186 : decode b_Mo_criers 186 = .ok (.iinc 6 1, 3) := by decide +kernel
theorem d_Mo_criers_189 : decode b_Mo_criers 189 = .ok (.goto (-97), 3) := by decide +kernel
theorem d_Mo_criers_192 : decode b_Mo_criers 192 = .ok (.iinc 5 1, 3) := by decide +kernel
theorem d_Mo_criers_195 : decode b_Mo_criers 195 = .ok (.goto (-113), 3) := by decide +kernel
theorem d_Mo_criers_198 : decode b_Mo_criers 198 = .ok (.aload_n 0, 1) := by decide +kernel
theorem d_Mo_criers_199 : decode b_Mo_criers 199 = .ok (.getfield 41, 3) := by decide +kernel
theorem d_Mo_criers_202 : decode b_Mo_criers 202 = .ok (.iload_n 1, 1) := by decide +kernel
theorem d_Mo_criers_203 : decode b_Mo_criers 203 = .ok (.iaload, 1) := by decide +kernel
theorem d_Mo_criers_204 : decode b_Mo_criers 204 = .ok (.bipush 99, 2) := by decide +kernel
theorem d_Mo_criers_206 : decode b_Mo_criers 206 = .ok (.if_icmp .ne 5, 3) := by decide +kernel
theorem d_Mo_criers_209 : decode b_Mo_criers 209 = .ok (.iconst (-1), 1) := by decide +kernel
theorem d_Mo_criers_210 : decode b_Mo_criers 210 = .ok (.ireturn, 1) := by decide +kernel
theorem d_Mo_criers_211 : decode b_Mo_criers 211 = .ok (.iload 4, 2) := by decide +kernel
theorem d_Mo_criers_213 : decode b_Mo_criers 213 = .ok (.ifCond .ne 10, 3) := by decide +kernel
theorem d_Mo_criers_216 : decode b_Mo_criers 216 = .ok (.aload_n 0, 1) := by decide +kernel
theorem d_Mo_criers_217 : decode b_Mo_criers 217 = .ok (.getfield 41, 3) := by decide +kernel
theorem d_Mo_criers_220 : decode b_Mo_criers 220 = .ok (.iload_n 1, 1) := by decide +kernel
theorem d_Mo_criers_221 : decode b_Mo_criers 221 = .ok (.iaload, 1) := by decide +kernel
theorem d_Mo_criers_222 : decode b_Mo_criers 222 = .ok (.ireturn, 1) := by decide +kernel
theorem d_Mo_criers_223 : decode b_Mo_criers 223 = .ok (.iconst (-1), 1) := by decide +kernel
theorem d_Mo_criers_224 : decode b_Mo_criers 224 = .ok (.istore 5, 2) := by decide +kernel
theorem d_Mo_criers_226 : decode b_Mo_criers 226 = .ok (.aload_n 0, 1) := by decide +kernel
theorem d_Mo_criers_227 : decode b_Mo_criers 227 = .ok (.getfield 7, 3) := by decide +kernel
theorem d_Mo_criers_230 : decode b_Mo_criers 230 = .ok (.bipush 122, 2) := by decide +kernel
theorem d_Mo_criers_232 : decode b_Mo_criers 232 = .ok (.iaload, 1) := by decide +kernel
theorem d_Mo_criers_233 : decode b_Mo_criers 233 = .ok (.iconst 1, 1) := by decide +kernel
theorem d_Mo_criers_234 : decode b_Mo_criers 234 = .ok (.isub, 1) := by decide +kernel
theorem d_Mo_criers_235 : decode b_Mo_criers 235 = .ok (.istore 6, 2) := by decide +kernel
theorem d_Mo_criers_237 : decode b_Mo_criers 237 = .ok (.iload 6, 2) := by decide +kernel
theorem d_Mo_criers_239 : decode b_Mo_criers 239 = .ok (.ifCond .lt 51, 3) := by decide +kernel
theorem d_Mo_criers_242 : decode b_Mo_criers 242 = .ok (.aload_n 0, 1) := by decide +kernel
theorem d_Mo_criers_243 : decode b_Mo_criers 243 = .ok (.getfield 38, 3) := by decide +kernel
theorem d_Mo_criers_246 : decode b_Mo_criers 246 = .ok (.iload_n 1, 1) := by decide +kernel
theorem d_Mo_criers_247 : decode b_Mo_criers 247 = .ok (.iaload, 1) := by decide +kernel
theorem d_Mo_criers_248 : decode b_Mo_criers 248 = .ok (.i2l, 1) := by decide +kernel
theorem d_Mo_criers_249 : decode b_Mo_criers 249 = .ok (.iload 6, 2) := by decide +kernel
theorem d_Mo_criers_251 : decode b_Mo_criers 251 = .ok (.invokestatic 196, 3) := by decide +kernel
theorem d_Mo_criers_254 : decode b_Mo_criers 254 = .ok (.ifCond .eq 26, 3) := by decide +kernel
theorem d_Mo_criers_257 : decode b_Mo_criers 257 = .ok (.aload_n 0, 1) := by decide +kernel
theorem d_Mo_criers_258 : decode b_Mo_criers 258 = .ok (.getfield 41, 3) := by decide +kernel
theorem d_Mo_criers_261 : decode b_Mo_criers 261 = .ok (.iload 6, 2) := by decide +kernel
theorem d_Mo_criers_263 : decode b_Mo_criers 263 = .ok (.iaload, 1) := by decide +kernel
theorem d_Mo_criers_264 : decode b_Mo_criers 264 = .ok (.aload_n 0, 1) := by decide +kernel
theorem d_Mo_criers_265 : decode b_Mo_criers 265 = .ok (.getfield 41, 3) := by decide +kernel
theorem d_Mo_criers_268 : decode b_Mo_criers 268 = .ok (.iload_n 1, 1) := by decide +kernel
theorem d_Mo_criers_269 : decode b_Mo_criers 269 = .ok (.iaload, 1) := by decide +kernel
theorem d_Mo_criers_270 : decode b_Mo_criers 270 = .ok (.iconst 1, 1) := by decide +kernel
theorem d_Mo_criers_271 : decode b_Mo_criers 271 = .ok (.isub, 1) := by decide +kernel
theorem d_Mo_criers_272 : decode b_Mo_criers 272 = .ok (.if_icmp .ne 8, 3) := by decide +kernel
theorem d_Mo_criers_275 : decode b_Mo_criers 275 = .ok (.iload 6, 2) := by decide +kernel
theorem d_Mo_criers_277 : decode b_Mo_criers 277 = .ok (.goto 5, 3) := by decide +kernel
theorem d_Mo_criers_280 : decode b_Mo_criers 280 = .ok (.iload 5, 2) := by decide +kernel
theorem d_Mo_criers_282 : decode b_Mo_criers 282 = .ok (.istore 5, 2) := by decide +kernel
theorem d_Mo_criers_284 : decode b_Mo_criers 284 = .ok (.iinc 6 (-1), 3) := by decide +kernel
theorem d_Mo_criers_287 : decode b_Mo_criers 287 = .ok (.goto (-50), 3) := by decide +kernel
theorem d_Mo_criers_290 : decode b_Mo_criers 290 = .ok (.iload 5, 2) := by decide +kernel
theorem d_Mo_criers_292 : decode b_Mo_criers 292 = .ok (.ireturn, 1) := by decide +kernel
theorem d_Mo_let_0 : decode b_Mo_let 0 = .ok (.iload_n 1, 1) := by decide +kernel
theorem d_Mo_let_1 : decode b_Mo_let 1 = .ok (.invokestatic 100, 3) := by decide +kernel
theorem d_Mo_let_4 : decode b_Mo_let 4 = .ok (.ifCond .eq 20, 3) := by decide +kernel
theorem d_Mo_let_7 : decode b_Mo_let 7 = .ok (.iload_n 2, 1) := by decide +kernel
theorem d_Mo_let_8 : decode b_Mo_let 8 = .ok (.iconst (-1), 1) := by decide +kernel
theorem d_Mo_let_9 : decode b_Mo_let 9 = .ok (.if_icmp .eq 10, 3) := by decide +kernel
theorem d_Mo_let_12 : decode b_Mo_let 12 = .ok (.iload_n 2, 1) := by decide +kernel
theorem d_Mo_let_13 : decode b_Mo_let 13 = .ok (.invokestatic 100, 3) := by decide +kernel
theorem d_Mo_let_16 : decode b_Mo_let 16 = .ok (.ifCond .eq 8, 3) := by decide +kernel
theorem d_Mo_let_19 : decode b_Mo_let 19 = .ok (.iload_n 2, 1) := by decide +kernel
theorem d_Mo_let_20 : decode b_Mo_let 20 = .ok (.iload_n 1, 1) := by decide +kernel
theorem d_Mo_let_21 : decode b_Mo_let 21 = .ok (.if_icmp .ne 8, 3) := by decide +kernel
theorem d_Mo_let_24 : decode b_Mo_let 24 = .ok (.aload_n 0, 1) := by decide +kernel
theorem d_Mo_let_25 : decode b_Mo_let 25 = .ok (.invokevirtual 92, 3) := by decide +kernel
theorem d_Mo_let_28 : decode b_Mo_let 28 = .ok (.ireturn, 1) := by decide +kernel
theorem d_Mo_let_29 : decode b_Mo_let 29 = .ok (.aload_n 0, 1) := by decide +kernel
theorem d_Mo_let_30 : decode b_Mo_let 30 = .ok (.getfield 7, 3) := by decide +kernel
theorem d_Mo_let_33 : decode b_Mo_let 33 = .ok (.bipush 116, 2) := by decide +kernel
theorem d_Mo_let_35 : decode b_Mo_let 35 = .ok (.iload_n 1, 1) := by decide +kernel
theorem d_Mo_let_36 : decode b_Mo_let 36 = .ok (.iadd, 1) := by decide +kernel
theorem d_Mo_let_37 : decode b_Mo_let 37 = .ok (.iaload, 1) := by decide +kernel
theorem d_Mo_let_38 : decode b_Mo_let 38 = .ok (.istore_n 3, 1) := by decide +kernel
theorem d_Mo_let_39 : decode b_Mo_let 39 = .ok (.aload_n 0, 1) := by decide +kernel
theorem d_Mo_let_40 : decode b_Mo_let 40 = .ok (.getfield 7, 3) := by decide +kernel
theorem d_Mo_let_43 : decode b_Mo_let 43 = .ok (.bipush 116, 2) := by decide +kernel
theorem d_Mo_let_45 : decode b_Mo_let 45 = .ok (.iload_n 1, 1) := by decide +kernel
theorem d_Mo_let_46 : decode b_Mo_let 46 = .ok (.iadd, 1) := by decide +kernel
theorem d_Mo_let_47 : decode b_Mo_let 47 = .ok (.iload_n 2, 1) := by decide +kernel
theorem d_Mo_let_48 : decode b_Mo_let 48 = .ok (.iastore, 1) := by decide +kernel
theorem d_Mo_let_49 : decode b_Mo_let 49 = .ok (.iload_n 3, 1) := by decide +kernel
theorem d_Mo_let_50 : decode b_Mo_let 50 = .ok (.ireturn, 1) := by decide +kernel
theorem d_Mo_liable_0 : decode b_Mo_liable 0 = .ok (.iload_n 1, 1) := by decide +kernel
theorem d_Mo_liable_1 : decode b_Mo_liable 1 = .ok (.invokestatic 100, 3) := by decide +kernel
theorem d_Mo_liable_4 : decode b_Mo_liable 4 = .ok (.ifCond .ne 8, 3) := by decide +kernel
theorem d_Mo_liable_7 : decode b_Mo_liable 7 = .ok (.aload_n 0, 1) := by decide +kernel
theorem d_Mo_liable_8 : decode b_Mo_liable 8 = .ok (.invokevirtual 92, 3) := by decide +kernel
theorem d_Mo_liable_11 : decode b_Mo_liable 11 = .ok (.ireturn, 1) := by decide +kernel
theorem d_Mo_liable_12 : decode b_Mo_liable 12 = .ok (.iload_n 1, 1) := by decide +kernel
theorem d_Mo_liable_13 : decode b_Mo_liable 13 = .ok (.istore_n 2, 1) := by decide +kernel
theorem d_Mo_liable_14 : decode b_Mo_liable 14 = .ok (.iconst 0, 1) := by decide +kernel
theorem d_Mo_liable_15 : decode b_Mo_liable 15 = .ok (.istore_n 3, 1) := by decide +kernel
theorem d_Mo_liable_16 : decode b_Mo_liable 16 = .ok (.iload_n 3, 1) := by decide +kernel
theorem d_Mo_liable_17 : decode b_Mo_liable 17 = .ok (.bipush 6, 2) := by decide +kernel
theorem d_Mo_liable_19 : decode b_Mo_liable 19 = .ok (.if_icmp .ge 32, 3) := by decide +kernel
theorem d_Mo_liable_22 : decode b_Mo_liable 22 = .ok (.aload_n 0, 1) := by decide +kernel
theorem d_Mo_liable_23 : decode b_Mo_liable 23 = .ok (.getfield 7, 3) := by decide +kernel
theorem d_Mo_liable_26 : decode b_Mo_liable 26 = .ok (.bipush 116, 2) := by decide +kernel
theorem d_Mo_liable_28 : decode b_Mo_liable 28 = .ok (.iload_n 2, 1) := by decide +kernel
theorem d_Mo_liable_29 : decode b_Mo_liable 29 = .ok (.iadd, 1) := by decide +kernel
theorem d_Mo_liable_30 : decode b_Mo_liable 30 = .ok (.iaload, 1) := by decide +kernel
theorem d_Mo_liable_31 : decode b_Mo_liable 31 = .ok (.iconst (-1), 1) := by decide +kernel
theorem d_Mo_liable_32 : decode b_Mo_liable 32 = .ok (.if_icmp .eq 19, 3) := by decide +kernel
theorem d_Mo_liable_35 : decode b_Mo_liable 35 = .ok (.aload_n 0, 1) := by decide +kernel
theorem d_Mo_liable_36 : decode b_Mo_liable 36 = .ok (.getfield 7, 3) := by decide +kernel
theorem d_Mo_liable_39 : decode b_Mo_liable 39 = .ok (.bipush 116, 2) := by decide +kernel
theorem d_Mo_liable_41 : decode b_Mo_liable 41 = .ok (.iload_n 2, 1) := by decide +kernel
theorem d_Mo_liable_42 : decode b_Mo_liable 42 = .ok (.iadd, 1) := by decide +kernel
theorem d_Mo_liable_43 : decode b_Mo_liable 43 = .ok (.iaload, 1) := by decide +kernel
theorem d_Mo_liable_44 : decode b_Mo_liable 44 = .ok (.istore_n 2, 1) := by decide +kernel
theorem d_Mo_liable_45 : decode b_Mo_liable 45 = .ok (.iinc 3 1, 3) := by decide +kernel
theorem d_Mo_liable_48 : decode b_Mo_liable 48 = .ok (.goto (-32), 3) := by decide +kernel
theorem d_Mo_liable_51 : decode b_Mo_liable 51 = .ok (.aload_n 0, 1) := by decide +kernel
theorem d_Mo_liable_52 : decode b_Mo_liable 52 = .ok (.getfield 7, 3) := by decide +kernel
theorem d_Mo_liable_55 : decode b_Mo_liable 55 = .ok (.bipush 116, 2) := by decide +kernel
theorem d_Mo_liable_57 : decode b_Mo_liable 57 = .ok (.iload_n 2, 1) := by decide +kernel
theorem d_Mo_liable_58 : decode b_Mo_liable 58 = .ok (.iadd, 1) := by decide +kernel
theorem d_Mo_liable_59 : decode b_Mo_liable 59 = .ok (.iaload, 1) := by decide +kernel
theorem d_Mo_liable_60 : decode b_Mo_liable 60 = .ok (.iconst (-1), 1) := by decide +kernel
theorem d_Mo_liable_61 : decode b_Mo_liable 61 = .ok (.if_icmp .ne 7, 3) := by decide +kernel
theorem d_Mo_liable_64 : decode b_Mo_liable 64 = .ok (.iload_n 2, 1) := by decide +kernel
theorem d_Mo_liable_65 : decode b_Mo_liable 65 = .ok (.goto 4, 3) := by decide +kernel
theorem d_Mo_liable_68 : decode b_Mo_liable 68 = .ok (.iconst (-1), 1) := by decide +kernel
theorem d_Mo_liable_69 : decode b_Mo_liable 69 = .ok (.ireturn, 1) := by decide +kernel
theorem d_Mo_rings_0 : decode b_Mo_rings 0 = .ok (.iconst 0, 1) := by decide +kernel
theorem d_Mo_rings_1 : decode b_Mo_rings 1 = .ok (.istore_n 1, 1) := by decide +kernel
theorem d_Mo_rings_2 : decode b_Mo_rings 2 = .ok (.iconst 0, 1) := by decide +kernel
theorem d_Mo_rings_3 : decode b_Mo_rings 3 = .ok (.istore_n 2, 1) := by decide +kernel
theorem d_Mo_rings_4 : decode b_Mo_rings 4 = .ok (.iload_n 2, 1) := by decide +kernel
theorem d_Mo_rings_5 : decode b_Mo_rings 5 = .ok (.bipush 6, 2) := by decide +kernel
theorem d_Mo_rings_7 : decode b_Mo_rings 7 = .ok (.if_icmp .ge 70, 3) := by decide +kernel
theorem d_Mo_rings_10 : decode b_Mo_rings 10 = .ok (.aload_n 0, 1) := by decide +kernel
theorem d_Mo_rings_11 : decode b_Mo_rings 11 = .ok (.getfield 7, 3) := by decide +kernel
theorem d_Mo_rings_14 : decode b_Mo_rings 14 = .ok (.bipush 116, 2) := by decide +kernel
theorem d_Mo_rings_16 : decode b_Mo_rings 16 = .ok (.iload_n 2, 1) := by decide +kernel
theorem d_Mo_rings_17 : decode b_Mo_rings 17 = .ok (.iadd, 1) := by decide +kernel
theorem d_Mo_rings_18 : decode b_Mo_rings 18 = .ok (.iaload, 1) := by decide +kernel
theorem d_Mo_rings_19 : decode b_Mo_rings 19 = .ok (.istore_n 3, 1) := by decide +kernel
theorem d_Mo_rings_20 : decode b_Mo_rings 20 = .ok (.iconst 0, 1) := by decide +kernel
theorem d_Mo_rings_21 : decode b_Mo_rings 21 = .ok (.istore 4, 2) := by decide +kernel
theorem d_Mo_rings_23 : decode b_Mo_rings 23 = .ok (.iload 4, 2) := by decide +kernel
theorem d_Mo_rings_25 : decode b_Mo_rings 25 = .ok (.bipush 6, 2) := by decide +kernel
theorem d_Mo_rings_27 : decode b_Mo_rings 27 = .ok (.if_icmp .ge 29, 3) := by decide +kernel
theorem d_Mo_rings_30 : decode b_Mo_rings 30 = .ok (.iload_n 3, 1) := by decide +kernel
theorem d_Mo_rings_31 : decode b_Mo_rings 31 = .ok (.iconst (-1), 1) := by decide +kernel
theorem d_Mo_rings_32 : decode b_Mo_rings 32 = .ok (.if_icmp .eq 24, 3) := by decide +kernel
theorem d_Mo_rings_35 : decode b_Mo_rings 35 = .ok (.iload_n 3, 1) := by decide +kernel
theorem d_Mo_rings_36 : decode b_Mo_rings 36 = .ok (.iload_n 2, 1) := by decide +kernel
theorem d_Mo_rings_37 : decode b_Mo_rings 37 = .ok (.if_icmp .eq 19, 3) := by decide +kernel
theorem d_Mo_rings_40 : decode b_Mo_rings 40 = .ok (.aload_n 0, 1) := by decide +kernel
theorem d_Mo_rings_41 : decode b_Mo_rings 41 = .ok (.getfield 7, 3) := by decide +kernel
theorem d_Mo_rings_44 : decode b_Mo_rings 44 = .ok (.bipush 116, 2) := by decide +kernel
theorem d_Mo_rings_46 : decode b_Mo_rings 46 = .ok (.iload_n 3, 1) := by decide +kernel
theorem d_Mo_rings_47 : decode b_Mo_rings 47 = .ok (.iadd, 1) := by decide +kernel
theorem d_Mo_rings_48 : decode b_Mo_rings 48 = .ok (.iaload, 1) := by decide +kernel
theorem d_Mo_rings_49 : decode b_Mo_rings 49 = .ok (.istore_n 3, 1) := by decide +kernel
theorem d_Mo_rings_50 : decode b_Mo_rings 50 = .ok (.iinc 4 1, 3) := by decide +kernel
theorem d_Mo_rings_53 : decode b_Mo_rings 53 = .ok (.goto (-30), 3) := by decide +kernel
theorem d_Mo_rings_56 : decode b_Mo_rings 56 = .ok (.iload_n 1, 1) := by decide +kernel
theorem d_Mo_rings_57 : decode b_Mo_rings 57 = .ok (.iload_n 3, 1) := by decide +kernel
theorem d_Mo_rings_58 : decode b_Mo_rings 58 = .ok (.iload_n 2, 1) := by decide +kernel
theorem d_Mo_rings_59 : decode b_Mo_rings 59 = .ok (.if_icmp .ne 9, 3) := by decide +kernel
theorem d_Mo_rings_62 : decode b_Mo_rings 62 = .ok (.iconst 1, 1) := by decide +kernel
theorem d_Mo_rings_63 : decode b_Mo_rings 63 = .ok (.iload_n 2, 1) := by decide +kernel
theorem d_Mo_rings_64 : decode b_Mo_rings 64 = .ok (.ishl, 1) := by decide +kernel
theorem d_Mo_rings_65 : decode b_Mo_rings 65 = .ok (.goto 4, 3) := by decide +kernel
theorem d_Mo_rings_68 : decode b_Mo_rings 68 = .ok (.iconst 0, 1) := by decide +kernel
theorem d_Mo_rings_69 : decode b_Mo_rings 69 = .ok (.ior, 1) := by decide +kernel
theorem d_Mo_rings_70 : decode b_Mo_rings 70 = .ok (.istore_n 1, 1) := by decide +kernel
theorem d_Mo_rings_71 : decode b_Mo_rings 71 = .ok (.iinc 2 1, 3) := by decide +kernel
theorem d_Mo_rings_74 : decode b_Mo_rings 74 = .ok (.goto (-70), 3) := by decide +kernel
theorem d_Mo_rings_77 : decode b_Mo_rings 77 = .ok (.iload_n 1, 1) := by decide +kernel
theorem d_Mo_rings_78 : decode b_Mo_rings 78 = .ok (.ireturn, 1) := by decide +kernel
theorem d_Mo_first_0 : decode b_Mo_first 0 = .ok (.aload_n 0, 1) := by decide +kernel
theorem d_Mo_first_1 : decode b_Mo_first 1 = .ok (.iload_n 1, 1) := by decide +kernel
theorem d_Mo_first_2 : decode b_Mo_first 2 = .ok (.iload_n 2, 1) := by decide +kernel
theorem d_Mo_first_3 : decode b_Mo_first 3 = .ok (.iload_n 3, 1) := by decide +kernel
theorem d_Mo_first_4 : decode b_Mo_first 4 = .ok (.invokevirtual 249, 3) := by decide +kernel
theorem d_Mo_first_7 : decode b_Mo_first 7 = .ok (.ifCond .eq 12, 3) := by decide +kernel
theorem d_Mo_first_10 : decode b_Mo_first 10 = .ok (.aload_n 0, 1) := by decide +kernel
theorem d_Mo_first_11 : decode b_Mo_first 11 = .ok (.iload 4, 2) := by decide +kernel
theorem d_Mo_first_13 : decode b_Mo_first 13 = .ok (.invokevirtual 95, 3) := by decide +kernel
theorem d_Mo_first_16 : decode b_Mo_first 16 = .ok (.ifCond .ne 8, 3) := by decide +kernel
theorem d_Mo_first_19 : decode b_Mo_first 19 = .ok (.aload_n 0, 1) := by decide +kernel
theorem d_Mo_first_20 : decode b_Mo_first 20 = .ok (.invokevirtual 92, 3) := by decide +kernel
theorem d_Mo_first_23 : decode b_Mo_first 23 = .ok (.ireturn, 1) := by decide +kernel
theorem d_Mo_first_24 : decode b_Mo_first 24 = .ok (.iload_n 3, 1) := by decide +kernel
theorem d_Mo_first_25 : decode b_Mo_first 25 = .ok (.istore 5, 2) := by decide +kernel
theorem d_Mo_first_27 : decode b_Mo_first 27 = .ok (.iload 5, 2) := by decide +kernel
theorem d_Mo_first_29 : decode b_Mo_first 29 = .ok (.bipush 24, 2) := by decide +kernel
theorem d_Mo_first_31 : decode b_Mo_first 31 = .ok (.if_icmp .ge 30, 3) := by decide +kernel
theorem d_Mo_first_34 : decode b_Mo_first 34 = .ok (.aload_n 0, 1) := by decide +kernel
theorem d_Mo_first_35 : decode b_Mo_first 35 = .ok (.iload_n 1, 1) := by decide +kernel
theorem d_Mo_first_36 : decode b_Mo_first 36 = .ok (.iload_n 2, 1) := by decide +kernel
theorem d_Mo_first_37 : decode b_Mo_first 37 = .ok (.iload 5, 2) := by decide +kernel
theorem d_Mo_first_39 : decode b_Mo_first 39 = .ok (.invokevirtual 252, 3) := by decide +kernel
theorem d_Mo_first_42 : decode b_Mo_first 42 = .ok (.aload_n 0, 1) := by decide +kernel
theorem d_Mo_first_43 : decode b_Mo_first 43 = .ok (.getfield 29, 3) := by decide +kernel
theorem d_Mo_first_46 : decode b_Mo_first 46 = .ok (.iload 4, 2) := by decide +kernel
theorem d_Mo_first_48 : decode b_Mo_first 48 = .ok (.iaload, 1) := by decide +kernel
theorem d_Mo_first_49 : decode b_Mo_first 49 = .ok (.ifCond .le 6, 3) := by decide +kernel
theorem d_Mo_first_52 : decode b_Mo_first 52 = .ok (.iload 5, 2) := by decide +kernel
theorem d_Mo_first_54 : decode b_Mo_first 54 = .ok (.ireturn, 1) := by decide +kernel
theorem d_Mo_first_55 : decode b_Mo_first 55 = .ok (.iinc 5 1, 3) := by decide +kernel
theorem d_Mo_first_58 : decode b_Mo_first 58 = .ok (.goto (-31), 3) := by decide +kernel
theorem d_Mo_first_61 : decode b_Mo_first 61 = .ok (.iconst (-1), 1) := by decide +kernel
theorem d_Mo_first_62 : decode b_Mo_first 62 = .ok (.ireturn, 1) := by decide +kernel
theorem d_Mo_peal_0 : decode b_Mo_peal 0 = .ok (.aload_n 0, 1) := by decide +kernel
theorem d_Mo_peal_1 : decode b_Mo_peal 1 = .ok (.iload_n 1, 1) := by decide +kernel
theorem d_Mo_peal_2 : decode b_Mo_peal 2 = .ok (.invokevirtual 72, 3) := by decide +kernel
theorem d_Mo_peal_5 : decode b_Mo_peal 5 = .ok (.ifCond .eq 20, 3) := by decide +kernel
theorem d_Mo_peal_8 : decode b_Mo_peal 8 = .ok (.iload_n 2, 1) := by decide +kernel
theorem d_Mo_peal_9 : decode b_Mo_peal 9 = .ok (.invokestatic 79, 3) := by decide +kernel
theorem d_Mo_peal_12 : decode b_Mo_peal 12 = .ok (.ifCond .eq 13, 3) := by decide +kernel
theorem d_Mo_peal_15 : decode b_Mo_peal 15 = .ok (.iload_n 3, 1) := by decide +kernel
theorem d_Mo_peal_16 : decode b_Mo_peal 16 = .ok (.i2l, 1) := by decide +kernel
theorem d_Mo_peal_17 : decode b_Mo_peal 17 = .ok (.lconst 0, 1) := by decide +kernel
theorem d_Mo_peal_18 : decode b_Mo_peal 18 = .ok (.lconst 1, 1) := by decide +kernel
theorem d_Mo_peal_19 : decode b_Mo_peal 19 = .ok (.invokestatic 62, 3) := by decide +kernel
theorem d_Mo_peal_22 : decode b_Mo_peal 22 = .ok (.ifCond .ne 8, 3) := by decide +kernel
theorem d_Mo_peal_25 : decode b_Mo_peal 25 = .ok (.aload_n 0, 1) := by decide +kernel
theorem d_Mo_peal_26 : decode b_Mo_peal 26 = .ok (.invokevirtual 92, 3) := by decide +kernel
theorem d_Mo_peal_29 : decode b_Mo_peal 29 = .ok (.ireturn, 1) := by decide +kernel
theorem d_Mo_peal_30 : decode b_Mo_peal 30 = .ok (.iconst 0, 1) := by decide +kernel
theorem d_Mo_peal_31 : decode b_Mo_peal 31 = .ok (.istore 4, 2) := by decide +kernel
theorem d_Mo_peal_33 : decode b_Mo_peal 33 = .ok (.iconst 0, 1) := by decide +kernel
theorem d_Mo_peal_34 : decode b_Mo_peal 34 = .ok (.istore 5, 2) := by decide +kernel
theorem d_Mo_peal_36 : decode b_Mo_peal 36 = .ok (.iconst 1, 1) := by decide +kernel
theorem d_Mo_peal_37 : decode b_Mo_peal 37 = .ok (.istore 6, 2) := by decide +kernel
theorem d_Mo_peal_39 : decode b_Mo_peal 39 = .ok (.iload 6, 2) := by decide +kernel
theorem d_Mo_peal_41 : decode b_Mo_peal 41 = .ok (.bipush 21, 2) := by decide +kernel
theorem d_Mo_peal_43 : decode b_Mo_peal 43 = .ok (.if_icmp .ge 55, 3) := by decide +kernel
theorem d_Mo_peal_46 : decode b_Mo_peal 46 = .ok (.aload_n 0, 1) := by decide +kernel
theorem d_Mo_peal_47 : decode b_Mo_peal 47 = .ok (.iload_n 1, 1) := by decide +kernel
theorem d_Mo_peal_48 : decode b_Mo_peal 48 = .ok (.iload 6, 2) := by decide +kernel
theorem d_Mo_peal_50 : decode b_Mo_peal 50 = .ok (.iload_n 2, 1) := by decide +kernel
theorem d_Mo_peal_51 : decode b_Mo_peal 51 = .ok (.invokevirtual 252, 3) := by decide +kernel
theorem d_Mo_peal_54 : decode b_Mo_peal 54 = .ok (.aload_n 0, 1) := by decide +kernel
theorem d_Mo_peal_55 : decode b_Mo_peal 55 = .ok (.invokevirtual 255, 3) := by decide +kernel
theorem d_Mo_peal_58 : decode b_Mo_peal 58 = .ok (.iload 5, 2) := by decide +kernel
theorem d_Mo_peal_60 : decode b_Mo_peal 60 = .ok (.if_icmp .le 8, 3) := by decide +kernel
theorem d_Mo_peal_63 : decode b_Mo_peal 63 = .ok (.iload 6, 2) := by decide +kernel
theorem d_Mo_peal_65 : decode b_Mo_peal 65 = .ok (.goto 5, 3) := by decide +kernel
theorem d_Mo_peal_68 : decode b_Mo_peal 68 = .ok (.iload 4, 2) := by decide +kernel
theorem d_Mo_peal_70 : decode b_Mo_peal 70 = .ok (.istore 4, 2) := by decide +kernel
theorem d_Mo_peal_72 : decode b_Mo_peal 72 = .ok (.aload_n 0, 1) := by decide +kernel
theorem d_Mo_peal_73 : decode b_Mo_peal 73 = .ok (.invokevirtual 255, 3) := by decide +kernel
theorem d_Mo_peal_76 : decode b_Mo_peal 76 = .ok (.iload 5, 2) := by decide +kernel
theorem d_Mo_peal_78 : decode b_Mo_peal 78 = .ok (.if_icmp .le 10, 3) := by decide +kernel
theorem d_Mo_peal_81 : decode b_Mo_peal 81 = .ok (.aload_n 0, 1) := by decide +kernel
theorem d_Mo_peal_82 : decode b_Mo_peal 82 = .ok (.invokevirtual 255, 3) := by decide +kernel
theorem d_Mo_peal_85 : decode b_Mo_peal 85 = .ok (.goto 5, 3) := by decide +kernel
theorem d_Mo_peal_88 : decode b_Mo_peal 88 = .ok (.iload 5, 2) := by decide +kernel
theorem d_Mo_peal_90 : decode b_Mo_peal 90 = .ok (.istore 5, 2) := by decide +kernel
theorem d_Mo_peal_92 : decode b_Mo_peal 92 = .ok (.iinc 6 1, 3) := by decide +kernel
theorem d_Mo_peal_95 : decode b_Mo_peal 95 = .ok (.goto (-56), 3) := by decide +kernel
theorem d_Mo_peal_98 : decode b_Mo_peal 98 = .ok (.iload_n 3, 1) := by decide +kernel
theorem d_Mo_peal_99 : decode b_Mo_peal 99 = .ok (.ifCond .ne 8, 3) := by decide +kernel
theorem d_Mo_peal_102 : decode b_Mo_peal 102 = .ok (.iload 4, 2) := by decide +kernel
theorem d_Mo_peal_104 : decode b_Mo_peal 104 = .ok (.goto 5, 3) := by decide +kernel
theorem d_Mo_peal_107 : decode b_Mo_peal 107 = .ok (.iload 5, 2) := by decide +kernel
theorem d_Mo_peal_109 : decode b_Mo_peal 109 = .ok (.ireturn, 1) := by decide +kernel
theorem d_Mo_thunder_0 : decode b_Mo_thunder 0 = .ok (.iload_n 1, 1) := by decide +kernel
theorem d_Mo_thunder_1 : decode b_Mo_thunder 1 = .ok (.i2l, 1) := by decide +kernel
theorem d_Mo_thunder_2 : decode b_Mo_thunder 2 = .ok (.lconst 0, 1) := by decide +kernel
theorem d_Mo_thunder_3 : decode b_Mo_thunder 3 = .ok (.ldc2_w 297, 3) := by decide +kernel
theorem d_Mo_thunder_6 : decode b_Mo_thunder 6 = .ok (.invokestatic 62, 3) := by decide +kernel
theorem d_Mo_thunder_9 : decode b_Mo_thunder 9 = .ok (.ifCond .eq 15, 3) := by decide +kernel
theorem d_Mo_thunder_12 : decode b_Mo_thunder 12 = .ok (.iload_n 2, 1) := by decide +kernel
theorem d_Mo_thunder_13 : decode b_Mo_thunder 13 = .ok (.i2l, 1) := by decide +kernel
theorem d_Mo_thunder_14 : decode b_Mo_thunder 14 = .ok (.lconst 0, 1) := by decide +kernel
theorem d_Mo_thunder_15 : decode b_Mo_thunder 15 = .ok (.ldc2_w 299, 3) := by decide +kernel
theorem d_Mo_thunder_18 : decode b_Mo_thunder 18 = .ok (.invokestatic 62, 3) := by decide +kernel
theorem d_Mo_thunder_21 : decode b_Mo_thunder 21 = .ok (.ifCond .ne 8, 3) := by decide +kernel
theorem d_Mo_thunder_24 : decode b_Mo_thunder 24 = .ok (.aload_n 0, 1) := by decide +kernel
theorem d_Mo_thunder_25 : decode b_Mo_thunder 25 = .ok (.invokevirtual 92, 3) := by decide +kernel
theorem d_Mo_thunder_28 : decode b_Mo_thunder 28 = .ok (.ireturn, 1) := by decide +kernel
theorem d_Mo_thunder_29 : decode b_Mo_thunder 29 = .ok (.iload_n 1, 1) := by decide +kernel
theorem d_Mo_thunder_30 : decode b_Mo_thunder 30 = .ok (.i2l, 1) := by decide +kernel
theorem d_Mo_thunder_31 : decode b_Mo_thunder 31 = .ok (.lstore_n 3, 1) := by decide +kernel
theorem d_Mo_thunder_32 : decode b_Mo_thunder 32 = .ok (.lconst 0, 1) := by decide +kernel
theorem d_Mo_thunder_33 : decode b_Mo_thunder 33 = .ok (.lstore 5, 2) := by decide +kernel
theorem d_Mo_thunder_35 : decode b_Mo_thunder 35 = .ok (.aload_n 0, 1) := by decide +kernel
theorem d_Mo_thunder_36 : decode b_Mo_thunder 36 = .ok (.iconst 5, 1) := by decide +kernel
theorem d_Mo_thunder_37 : decode b_Mo_thunder 37 = .ok (.putfield 206, 3) := by decide +kernel
theorem d_Mo_thunder_40 : decode b_Mo_thunder 40 = .ok (.aload_n 0, 1) := by decide +kernel
theorem d_Mo_thunder_41 : decode b_Mo_thunder 41 = .ok (.iconst (-1), 1) := by decide +kernel
theorem d_Mo_thunder_42 : decode b_Mo_thunder 42 = .ok (.putfield 219, 3) := by decide +kernel
theorem d_Mo_thunder_45 : decode b_Mo_thunder 45 = .ok (.iconst 0, 1) := by decide +kernel
theorem d_Mo_thunder_46 : decode b_Mo_thunder 46 = .ok (.istore 7, 2) := by decide +kernel
theorem d_Mo_thunder_48 : decode b_Mo_thunder 48 = .ok (.iload 7, 2) := by decide +kernel
theorem d_Mo_thunder_50 : decode b_Mo_thunder 50 = .ok (.iload_n 2, 1) := by decide +kernel
theorem d_Mo_thunder_51 : decode b_Mo_thunder 51 = .ok (.if_icmp .ge 92, 3) := by decide +kernel
theorem d_Mo_thunder_54 : decode b_Mo_thunder 54 = .ok (.lload_n 3, 1) := by decide +kernel
theorem d_Mo_thunder_55 : decode b_Mo_thunder 55 = .ok (.ldc2_w 301, 3) := by decide +kernel
theorem d_Mo_thunder_58 : decode b_Mo_thunder 58 = .ok (.lmul, 1) := by decide +kernel
theorem d_Mo_thunder_59 : decode b_Mo_thunder 59 = .ok (.ldc2_w 303, 3) := by decide +kernel
theorem d_Mo_thunder_62 : decode b_Mo_thunder 62 = .ok (.ladd, 1) := by decide +kernel
theorem d_Mo_thunder_63 : decode b_Mo_thunder 63 = .ok (.ldc2_w 305, 3) := by decide +kernel
theorem d_Mo_thunder_66 : decode b_Mo_thunder 66 = .ok (.lrem, 1) := by decide +kernel
theorem d_Mo_thunder_67 : decode b_Mo_thunder 67 = .ok (.lstore_n 3, 1) := by decide +kernel
theorem d_Mo_thunder_68 : decode b_Mo_thunder 68 = .ok (.aload_n 0, 1) := by decide +kernel
theorem d_Mo_thunder_69 : decode b_Mo_thunder 69 = .ok (.lload_n 3, 1) := by decide +kernel
theorem d_Mo_thunder_70 : decode b_Mo_thunder 70 = .ok (.ldc2_w 307, 3) := by decide +kernel
theorem d_Mo_thunder_73 : decode b_Mo_thunder 73 = .ok (.ldiv, 1) := by decide +kernel
theorem d_Mo_thunder_74 : decode b_Mo_thunder 74 = .ok (.aload_n 0, 1) := by decide +kernel
theorem d_Mo_thunder_75 : decode b_Mo_thunder 75 = .ok (.invokevirtual 58, 3) := by decide +kernel
theorem d_Mo_thunder_78 : decode b_Mo_thunder 78 = .ok (.i2l, 1) := by decide +kernel
theorem d_Mo_thunder_79 : decode b_Mo_thunder 79 = .ok (.lrem, 1) := by decide +kernel
theorem d_Mo_thunder_80 : decode b_Mo_thunder 80 = .ok (.l2i, 1) := by decide +kernel
theorem d_Mo_thunder_81 : decode b_Mo_thunder 81 = .ok (.lload_n 3, 1) := by decide +kernel
theorem d_Mo_thunder_82 : decode b_Mo_thunder 82 = .ok (.ldc2_w 309, 3) := by decide +kernel
theorem d_Mo_thunder_85 : decode b_Mo_thunder 85 = .ok (.ldiv, 1) := by decide +kernel
theorem d_Mo_thunder_86 : decode b_Mo_thunder 86 = .ok (.ldc2_w 311, 3) := by decide +kernel
theorem d_Mo_thunder_89 : decode b_Mo_thunder 89 = .ok (.lrem, 1) := by decide +kernel
theorem d_Mo_thunder_90 : decode b_Mo_thunder 90 = .ok (.l2i, 1) := by decide +kernel
theorem d_Mo_thunder_91 : decode b_Mo_thunder 91 = .ok (.iconst 1, 1) := by decide +kernel
theorem d_Mo_thunder_92 : decode b_Mo_thunder 92 = .ok (.iadd, 1) := by decide +kernel
theorem d_Mo_thunder_93 : decode b_Mo_thunder 93 = .ok (.invokevirtual 242, 3) := by decide +kernel
theorem d_Mo_thunder_96 : decode b_Mo_thunder 96 = .ok (.iconst 0, 1) := by decide +kernel
theorem d_Mo_thunder_97 : decode b_Mo_thunder 97 = .ok (.istore 8, 2) := by decide +kernel
theorem d_Mo_thunder_99 : decode b_Mo_thunder 99 = .ok (.iload 8, 2) := by decide +kernel
theorem d_Mo_thunder_101 : decode b_Mo_thunder 101 = .ok (.aload_n 0, 1) := by decide +kernel
theorem d_Mo_thunder_102 : decode b_Mo_thunder 102 = .ok (.invokevirtual 58, 3) := by decide +kernel
theorem d_Mo_thunder_105 : decode b_Mo_thunder 105 = .ok (.if_icmp .ge 32, 3) := by decide +kernel
theorem d_Mo_thunder_108 : decode b_Mo_thunder 108 = .ok (.lload 5, 2) := by decide +kernel
theorem d_Mo_thunder_110 : decode b_Mo_thunder 110 = .ok (.aload_n 0, 1) := by decide +kernel
theorem d_Mo_thunder_111 : decode b_Mo_thunder 111 = .ok (.getfield 32, 3) := by decide +kernel
theorem d_Mo_thunder_114 : decode b_Mo_thunder 114 = .ok (.iload 8, 2) := by decide +kernel
theorem d_Mo_thunder_116 : decode b_Mo_thunder 116 = .ok (.iaload, 1) := by decide +kernel
theorem d_Mo_thunder_117 : decode b_Mo_thunder 117 = .ok (.ifCond .le 10, 3) := by decide +kernel
theorem d_Mo_thunder_120 : decode b_Mo_thunder 120 = .ok (.lconst 1, 1) := by decide +kernel
theorem d_Mo_thunder_121 : decode b_Mo_thunder 121 = .ok (.iload 8, 2) := by decide +kernel
theorem d_Mo_thunder_123 : decode b_Mo_thunder 123 = .ok (.lshl, 1) := by decide +kernel
theorem d_Mo_thunder_124 : decode b_Mo_thunder 124 = .ok (.goto 4, 3) := by decide +kernel
theorem d_Mo_thunder_127 : decode b_Mo_thunder 127 = .ok (.lconst 0, 1) := by decide +kernel
theorem d_Mo_thunder_128 : decode b_Mo_thunder 128 = .ok (.lor, 1) := by decide +kernel
theorem d_Mo_thunder_129 : decode b_Mo_thunder 129 = .ok (.lstore 5, 2) := by decide +kernel
theorem d_Mo_thunder_131 : decode b_Mo_thunder 131 = .ok (.iinc 8 1, 3) := by decide +kernel
theorem d_Mo_thunder_134 : decode b_Mo_thunder 134 = .ok (.goto (-35), 3) := by decide +kernel
theorem d_Mo_thunder_137 : decode b_Mo_thunder 137 = .ok (.iinc 7 1, 3) := by decide +kernel
theorem d_Mo_thunder_140 : decode b_Mo_thunder 140 = .ok (.goto (-92), 3) := by decide +kernel
theorem d_Mo_thunder_143 : decode b_Mo_thunder 143 = .ok (.aload_n 0, 1) := by decide +kernel
theorem d_Mo_thunder_144 : decode b_Mo_thunder 144 = .ok (.lload 5, 2) := by decide +kernel
theorem d_Mo_thunder_146 : decode b_Mo_thunder 146 = .ok (.iconst (-1), 1) := by decide +kernel
theorem d_Mo_thunder_147 : decode b_Mo_thunder 147 = .ok (.invokevirtual 266, 3) := by decide +kernel
theorem d_Mo_thunder_150 : decode b_Mo_thunder 150 = .ok (.ireturn, 1) := by decide +kernel
theorem d_Mo_copy_0 : decode b_Mo_copy 0 = .ok (.iconst 0, 1) := by decide +kernel
theorem d_Mo_copy_1 : decode b_Mo_copy 1 = .ok (.istore_n 3, 1) := by decide +kernel
theorem d_Mo_copy_2 : decode b_Mo_copy 2 = .ok (.iload_n 3, 1) := by decide +kernel
theorem d_Mo_copy_3 : decode b_Mo_copy 3 = .ok (.sipush 517, 3) := by decide +kernel
theorem d_Mo_copy_6 : decode b_Mo_copy 6 = .ok (.if_icmp .ge 25, 3) := by decide +kernel
theorem d_Mo_copy_9 : decode b_Mo_copy 9 = .ok (.aload_n 0, 1) := by decide +kernel
theorem d_Mo_copy_10 : decode b_Mo_copy 10 = .ok (.getfield 7, 3) := by decide +kernel
theorem d_Mo_copy_13 : decode b_Mo_copy 13 = .ok (.iload_n 2, 1) := by decide +kernel
theorem d_Mo_copy_14 : decode b_Mo_copy 14 = .ok (.iload_n 3, 1) := by decide +kernel
theorem d_Mo_copy_15 : decode b_Mo_copy 15 = .ok (.iadd, 1) := by decide +kernel
theorem d_Mo_copy_16 : decode b_Mo_copy 16 = .ok (.aload_n 0, 1) := by decide +kernel
theorem d_Mo_copy_17 : decode b_Mo_copy 17 = .ok (.getfield 7, 3) := by decide +kernel
theorem d_Mo_copy_20 : decode b_Mo_copy 20 = .ok (.iload_n 1, 1) := by decide +kernel
theorem d_Mo_copy_21 : decode b_Mo_copy 21 = .ok (.iload_n 3, 1) := by decide +kernel
theorem d_Mo_copy_22 : decode b_Mo_copy 22 = .ok (.iadd, 1) := by decide +kernel
theorem d_Mo_copy_23 : decode b_Mo_copy 23 = .ok (.iaload, 1) := by decide +kernel
theorem d_Mo_copy_24 : decode b_Mo_copy 24 = .ok (.iastore, 1) := by decide +kernel
theorem d_Mo_copy_25 : decode b_Mo_copy 25 = .ok (.iinc 3 1, 3) := by decide +kernel
theorem d_Mo_copy_28 : decode b_Mo_copy 28 = .ok (.goto (-26), 3) := by decide +kernel
theorem d_Mo_copy_31 : decode b_Mo_copy 31 = .ok (.return_, 1) := by decide +kernel
theorem d_Mo_image_0 : decode b_Mo_image 0 = .ok (.iload_n 1, 1) := by decide +kernel
theorem d_Mo_image_1 : decode b_Mo_image 1 = .ok (.i2l, 1) := by decide +kernel
theorem d_Mo_image_2 : decode b_Mo_image 2 = .ok (.lconst 0, 1) := by decide +kernel
theorem d_Mo_image_3 : decode b_Mo_image 3 = .ok (.lconst 1, 1) := by decide +kernel
theorem d_Mo_image_4 : decode b_Mo_image 4 = .ok (.invokestatic 62, 3) := by decide +kernel
theorem d_Mo_image_7 : decode b_Mo_image 7 = .ok (.ifCond .ne 8, 3) := by decide +kernel
theorem d_Mo_image_10 : decode b_Mo_image 10 = .ok (.aload_n 0, 1) := by decide +kernel
theorem d_Mo_image_11 : decode b_Mo_image 11 = .ok (.invokevirtual 92, 3) := by decide +kernel
theorem d_Mo_image_14 : decode b_Mo_image 14 = .ok (.ireturn, 1) := by decide +kernel
theorem d_Mo_image_15 : decode b_Mo_image 15 = .ok (.aload_n 0, 1) := by decide +kernel
theorem d_Mo_image_16 : decode b_Mo_image 16 = .ok (.iconst 0, 1) := by decide +kernel
theorem d_Mo_image_17 : decode b_Mo_image 17 = .ok (.sipush 517, 3) := by decide +kernel
theorem d_Mo_image_20 : decode b_Mo_image 20 = .ok (.iconst 1, 1) := by decide +kernel
theorem d_Mo_image_21 : decode b_Mo_image 21 = .ok (.iload_n 1, 1) := by decide +kernel
theorem d_Mo_image_22 : decode b_Mo_image 22 = .ok (.iadd, 1) := by decide +kernel
theorem d_Mo_image_23 : decode b_Mo_image 23 = .ok (.imul, 1) := by decide +kernel
theorem d_Mo_image_24 : decode b_Mo_image 24 = .ok (.invokevirtual 313, 3) := by decide +kernel
theorem d_Mo_image_27 : decode b_Mo_image 27 = .ok (.aload_n 0, 1) := by decide +kernel
theorem d_Mo_image_28 : decode b_Mo_image 28 = .ok (.getfield 16, 3) := by decide +kernel
theorem d_Mo_image_31 : decode b_Mo_image 31 = .ok (.iload_n 1, 1) := by decide +kernel
theorem d_Mo_image_32 : decode b_Mo_image 32 = .ok (.iconst 1, 1) := by decide +kernel
theorem d_Mo_image_33 : decode b_Mo_image 33 = .ok (.bastore, 1) := by decide +kernel
theorem d_Mo_image_34 : decode b_Mo_image 34 = .ok (.iconst 1, 1) := by decide +kernel
theorem d_Mo_image_35 : decode b_Mo_image 35 = .ok (.ireturn, 1) := by decide +kernel
theorem d_Mo_from_0 : decode b_Mo_from 0 = .ok (.iload_n 1, 1) := by decide +kernel
theorem d_Mo_from_1 : decode b_Mo_from 1 = .ok (.i2l, 1) := by decide +kernel
theorem d_Mo_from_2 : decode b_Mo_from 2 = .ok (.lconst 0, 1) := by decide +kernel
theorem d_Mo_from_3 : decode b_Mo_from 3 = .ok (.lconst 1, 1) := by decide +kernel
theorem d_Mo_from_4 : decode b_Mo_from 4 = .ok (.invokestatic 62, 3) := by decide +kernel
theorem d_Mo_from_7 : decode b_Mo_from 7 = .ok (.ifCond .ne 8, 3) := by decide +kernel
theorem d_Mo_from_10 : decode b_Mo_from 10 = .ok (.aload_n 0, 1) := by decide +kernel
theorem d_Mo_from_11 : decode b_Mo_from 11 = .ok (.invokevirtual 92, 3) := by decide +kernel
theorem d_Mo_from_14 : decode b_Mo_from 14 = .ok (.ireturn, 1) := by decide +kernel
theorem d_Mo_from_15 : decode b_Mo_from 15 = .ok (.aload_n 0, 1) := by decide +kernel
theorem d_Mo_from_16 : decode b_Mo_from 16 = .ok (.getfield 16, 3) := by decide +kernel
theorem d_Mo_from_19 : decode b_Mo_from 19 = .ok (.iload_n 1, 1) := by decide +kernel
theorem d_Mo_from_20 : decode b_Mo_from 20 = .ok (.baload, 1) := by decide +kernel
theorem d_Mo_from_21 : decode b_Mo_from 21 = .ok (.ifCond .ne 10, 3) := by decide +kernel
theorem d_Mo_from_24 : decode b_Mo_from 24 = .ok (.aload_n 0, 1) := by decide +kernel
theorem d_Mo_from_25 : decode b_Mo_from 25 = .ok (.bipush (-3), 2) := by decide +kernel
theorem d_Mo_from_27 : decode b_Mo_from 27 = .ok (.invokevirtual 122, 3) := by decide +kernel
theorem d_Mo_from_30 : decode b_Mo_from 30 = .ok (.ireturn, 1) := by decide +kernel
theorem d_Mo_from_31 : decode b_Mo_from 31 = .ok (.aload_n 0, 1) := by decide +kernel
theorem d_Mo_from_32 : decode b_Mo_from 32 = .ok (.sipush 517, 3) := by decide +kernel
theorem d_Mo_from_35 : decode b_Mo_from 35 = .ok (.iconst 1, 1) := by decide +kernel
theorem d_Mo_from_36 : decode b_Mo_from 36 = .ok (.iload_n 1, 1) := by decide +kernel
theorem d_Mo_from_37 : decode b_Mo_from 37 = .ok (.iadd, 1) := by decide +kernel
theorem d_Mo_from_38 : decode b_Mo_from 38 = .ok (.imul, 1) := by decide +kernel
theorem d_Mo_from_39 : decode b_Mo_from 39 = .ok (.iconst 0, 1) := by decide +kernel
theorem d_Mo_from_40 : decode b_Mo_from 40 = .ok (.invokevirtual 313, 3) := by decide +kernel
theorem d_Mo_from_43 : decode b_Mo_from 43 = .ok (.iconst 1, 1) := by decide +kernel
theorem d_Mo_from_44 : decode b_Mo_from 44 = .ok (.ireturn, 1) := by decide +kernel
theorem d_Mo_status_0 : decode b_Mo_status 0 = .ok (.iload_n 1, 1) := by decide +kernel
theorem d_Mo_status_1 : decode b_Mo_status 1 = .ok (.i2l, 1) := by decide +kernel
theorem d_Mo_status_2 : decode b_Mo_status 2 = .ok (.lconst 0, 1) := by decide +kernel
theorem d_Mo_status_3 : decode b_Mo_status 3 = .ok (.ldc2_w 98, 3) := by decide +kernel
theorem d_Mo_status_6 : decode b_Mo_status 6 = .ok (.invokestatic 62, 3) := by decide +kernel
theorem d_Mo_status_9 : decode b_Mo_status 9 = .ok (.ifCond .ne 15, 3) := by decide +kernel
theorem d_Mo_status_12 : decode b_Mo_status 12 = .ok (.aload_n 0, 1) := by decide +kernel
theorem d_Mo_status_13 : decode b_Mo_status 13 = .ok (.dup, 1) := by decide +kernel
theorem d_Mo_status_14 : decode b_Mo_status 14 = .ok (.getfield 48, 3) := by decide +kernel
theorem d_Mo_status_17 : decode b_Mo_status 17 = .ok (.iconst 1, 1) := by decide +kernel
theorem d_Mo_status_18 : decode b_Mo_status 18 = .ok (.iadd, 1) := by decide +kernel
theorem d_Mo_status_19 : decode b_Mo_status 19 = .ok (.putfield 48, 3) := by decide +kernel
theorem d_Mo_status_22 : decode b_Mo_status 22 = .ok (.iconst (-1), 1) := by decide +kernel
theorem d_Mo_status_23 : decode b_Mo_status 23 = .ok (.ireturn, 1) := by decide +kernel
theorem d_Mo_status_24 : decode b_Mo_status 24 = .ok (.iload_n 1, 1) := by decide +kernel
theorem d_Mo_status_25 : decode b_Mo_status 25 = .ok (.ifCond .ne 10, 3) := by decide +kernel
theorem d_Mo_status_28 : decode b_Mo_status 28 = .ok (.aload_n 0, 1) := by decide +kernel
theorem d_Mo_status_29 : decode b_Mo_status 29 = .ok (.getfield 48, 3) := by decide +kernel
theorem d_Mo_status_32 : decode b_Mo_status 32 = .ok (.goto 19, 3) := by decide +kernel
theorem d_Mo_status_35 : decode b_Mo_status 35 = .ok (.iload_n 1, 1) := by decide +kernel
theorem d_Mo_status_36 : decode b_Mo_status 36 = .ok (.iconst 1, 1) := by decide +kernel
theorem d_Mo_status_37 : decode b_Mo_status 37 = .ok (.if_icmp .ne 10, 3) := by decide +kernel
theorem d_Mo_status_40 : decode b_Mo_status 40 = .ok (.aload_n 0, 1) := by decide +kernel
theorem d_Mo_status_41 : decode b_Mo_status 41 = .ok (.getfield 52, 3) := by decide +kernel
theorem d_Mo_status_44 : decode b_Mo_status 44 = .ok (.goto 7, 3) := by decide +kernel
theorem d_Mo_status_47 : decode b_Mo_status 47 = .ok (.aload_n 0, 1) := by decide +kernel
theorem d_Mo_status_48 : decode b_Mo_status 48 = .ok (.getfield 55, 3) := by decide +kernel
theorem d_Mo_status_51 : decode b_Mo_status 51 = .ok (.ireturn, 1) := by decide +kernel
theorem d_Mo_countOf_0 : decode b_Mo_countOf 0 = .ok (.iload_n 1, 1) := by decide +kernel
theorem d_Mo_countOf_1 : decode b_Mo_countOf 1 = .ok (.tableswitch 75 0 4 #[35, 42, 49, 57, 66], 35) := by decide +kernel
theorem d_Mo_countOf_36 : decode b_Mo_countOf 36 = .ok (.aload_n 0, 1) := by decide +kernel
theorem d_Mo_countOf_37 : decode b_Mo_countOf 37 = .ok (.getfield 7, 3) := by decide +kernel
theorem d_Mo_countOf_40 : decode b_Mo_countOf 40 = .ok (.iconst 0, 1) := by decide +kernel
theorem d_Mo_countOf_41 : decode b_Mo_countOf 41 = .ok (.iaload, 1) := by decide +kernel
theorem d_Mo_countOf_42 : decode b_Mo_countOf 42 = .ok (.ireturn, 1) := by decide +kernel
theorem d_Mo_countOf_43 : decode b_Mo_countOf 43 = .ok (.aload_n 0, 1) := by decide +kernel
theorem d_Mo_countOf_44 : decode b_Mo_countOf 44 = .ok (.getfield 7, 3) := by decide +kernel
theorem d_Mo_countOf_47 : decode b_Mo_countOf 47 = .ok (.iconst 1, 1) := by decide +kernel
theorem d_Mo_countOf_48 : decode b_Mo_countOf 48 = .ok (.iaload, 1) := by decide +kernel
theorem d_Mo_countOf_49 : decode b_Mo_countOf 49 = .ok (.ireturn, 1) := by decide +kernel
theorem d_Mo_countOf_50 : decode b_Mo_countOf 50 = .ok (.aload_n 0, 1) := by decide +kernel
theorem d_Mo_countOf_51 : decode b_Mo_countOf 51 = .ok (.getfield 7, 3) := by decide +kernel
theorem d_Mo_countOf_54 : decode b_Mo_countOf 54 = .ok (.bipush 122, 2) := by decide +kernel
theorem d_Mo_countOf_56 : decode b_Mo_countOf 56 = .ok (.iaload, 1) := by decide +kernel
theorem d_Mo_countOf_57 : decode b_Mo_countOf 57 = .ok (.ireturn, 1) := by decide +kernel
theorem d_Mo_countOf_58 : decode b_Mo_countOf 58 = .ok (.aload_n 0, 1) := by decide +kernel
theorem d_Mo_countOf_59 : decode b_Mo_countOf 59 = .ok (.getfield 7, 3) := by decide +kernel
theorem d_Mo_countOf_62 : decode b_Mo_countOf 62 = .ok (.sipush 147, 3) := by decide +kernel
theorem d_Mo_countOf_65 : decode b_Mo_countOf 65 = .ok (.iaload, 1) := by decide +kernel
theorem d_Mo_countOf_66 : decode b_Mo_countOf 66 = .ok (.ireturn, 1) := by decide +kernel
theorem d_Mo_countOf_67 : decode b_Mo_countOf 67 = .ok (.aload_n 0, 1) := by decide +kernel
theorem d_Mo_countOf_68 : decode b_Mo_countOf 68 = .ok (.getfield 7, 3) := by decide +kernel
theorem d_Mo_countOf_71 : decode b_Mo_countOf 71 = .ok (.sipush 188, 3) := by decide +kernel
theorem d_Mo_countOf_74 : decode b_Mo_countOf 74 = .ok (.iaload, 1) := by decide +kernel
theorem d_Mo_countOf_75 : decode b_Mo_countOf 75 = .ok (.ireturn, 1) := by decide +kernel
theorem d_Mo_countOf_76 : decode b_Mo_countOf 76 = .ok (.aload_n 0, 1) := by decide +kernel
theorem d_Mo_countOf_77 : decode b_Mo_countOf 77 = .ok (.getfield 130, 3) := by decide +kernel
theorem d_Mo_countOf_80 : decode b_Mo_countOf 80 = .ok (.ireturn, 1) := by decide +kernel
theorem d_Mo_count_0 : decode b_Mo_count 0 = .ok (.iload_n 1, 1) := by decide +kernel
theorem d_Mo_count_1 : decode b_Mo_count 1 = .ok (.i2l, 1) := by decide +kernel
theorem d_Mo_count_2 : decode b_Mo_count 2 = .ok (.lconst 0, 1) := by decide +kernel
theorem d_Mo_count_3 : decode b_Mo_count 3 = .ok (.ldc2_w 66, 3) := by decide +kernel
theorem d_Mo_count_6 : decode b_Mo_count 6 = .ok (.invokestatic 62, 3) := by decide +kernel
theorem d_Mo_count_9 : decode b_Mo_count 9 = .ok (.ifCond .eq 11, 3) := by decide +kernel
theorem d_Mo_count_12 : decode b_Mo_count 12 = .ok (.aload_n 0, 1) := by decide +kernel
theorem d_Mo_count_13 : decode b_Mo_count 13 = .ok (.iload_n 1, 1) := by decide +kernel
theorem d_Mo_count_14 : decode b_Mo_count 14 = .ok (.invokevirtual 316, 3) := by decide +kernel
theorem d_Mo_count_17 : decode b_Mo_count 17 = .ok (.goto 7, 3) := by decide +kernel
theorem d_Mo_count_20 : decode b_Mo_count 20 = .ok (.aload_n 0, 1) := by decide +kernel
theorem d_Mo_count_21 : decode b_Mo_count 21 = .ok (.invokevirtual 92, 3) := by decide +kernel
theorem d_Mo_count_24 : decode b_Mo_count 24 = .ok (.ireturn, 1) := by decide +kernel
theorem d_Mo_digest_0 : decode b_Mo_digest 0 = .ok (.ldc2_w 319, 3) := by decide +kernel
theorem d_Mo_digest_3 : decode b_Mo_digest 3 = .ok (.lstore_n 1, 1) := by decide +kernel
theorem d_Mo_digest_4 : decode b_Mo_digest 4 = .ok (.iconst 0, 1) := by decide +kernel
theorem d_Mo_digest_5 : decode b_Mo_digest 5 = .ok (.istore_n 3, 1) := by decide +kernel
theorem d_Mo_digest_6 : decode b_Mo_digest 6 = .ok (.iload_n 3, 1) := by decide +kernel
theorem d_Mo_digest_7 : decode b_Mo_digest 7 = .ok (.bipush 6, 2) := by decide +kernel
theorem d_Mo_digest_9 : decode b_Mo_digest 9 = .ok (.if_icmp .ge 22, 3) := by decide +kernel
theorem d_Mo_digest_12 : decode b_Mo_digest 12 = .ok (.ldc2_w 321, 3) := by decide +kernel
theorem d_Mo_digest_15 : decode b_Mo_digest 15 = .ok (.lload_n 1, 1) := by decide +kernel
theorem d_Mo_digest_16 : decode b_Mo_digest 16 = .ok (.lmul, 1) := by decide +kernel
theorem d_Mo_digest_17 : decode b_Mo_digest 17 = .ok (.aload_n 0, 1) := by decide +kernel
theorem d_Mo_digest_18 : decode b_Mo_digest 18 = .ok (.iload_n 3, 1) := by decide +kernel
theorem d_Mo_digest_19 : decode b_Mo_digest 19 = .ok (.invokevirtual 316, 3) := by decide +kernel
theorem d_Mo_digest_22 : decode b_Mo_digest 22 = .ok (.i2l, 1) := by decide +kernel
theorem d_Mo_digest_23 : decode b_Mo_digest 23 = .ok (.ladd, 1) := by decide +kernel
theorem d_Mo_digest_24 : decode b_Mo_digest 24 = .ok (.lstore_n 1, 1) := by decide +kernel
theorem d_Mo_digest_25 : decode b_Mo_digest 25 = .ok (.iinc 3 1, 3) := by decide +kernel
theorem d_Mo_digest_28 : decode b_Mo_digest 28 = .ok (.goto (-22), 3) := by decide +kernel
theorem d_Mo_digest_31 : decode b_Mo_digest 31 = .ok (.iconst 0, 1) := by decide +kernel
theorem d_Mo_digest_32 : decode b_Mo_digest 32 = .ok (.istore_n 3, 1) := by decide +kernel
theorem d_Mo_digest_33 : decode b_Mo_digest 33 = .ok (.iload_n 3, 1) := by decide +kernel
theorem d_Mo_digest_34 : decode b_Mo_digest 34 = .ok (.aload_n 0, 1) := by decide +kernel
theorem d_Mo_digest_35 : decode b_Mo_digest 35 = .ok (.invokevirtual 58, 3) := by decide +kernel
theorem d_Mo_digest_38 : decode b_Mo_digest 38 = .ok (.if_icmp .ge 55, 3) := by decide +kernel
theorem d_Mo_digest_41 : decode b_Mo_digest 41 = .ok (.ldc2_w 321, 3) := by decide +kernel
theorem d_Mo_digest_44 : decode b_Mo_digest 44 = .ok (.ldc2_w 321, 3) := by decide +kernel
theorem d_Mo_digest_47 : decode b_Mo_digest 47 = .ok (.ldc2_w 321, 3) := by decide +kernel
theorem d_Mo_digest_50 : decode b_Mo_digest 50 = .ok (.lload_n 1, 1) := by decide +kernel
theorem d_Mo_digest_51 : decode b_Mo_digest 51 = .ok (.lmul, 1) := by decide +kernel
theorem d_Mo_digest_52 : decode b_Mo_digest 52 = .ok (.aload_n 0, 1) := by decide +kernel
theorem d_Mo_digest_53 : decode b_Mo_digest 53 = .ok (.getfield 7, 3) := by decide +kernel
theorem d_Mo_digest_56 : decode b_Mo_digest 56 = .ok (.iconst 2, 1) := by decide +kernel
theorem d_Mo_digest_57 : decode b_Mo_digest 57 = .ok (.iload_n 3, 1) := by decide +kernel
theorem d_Mo_digest_58 : decode b_Mo_digest 58 = .ok (.iadd, 1) := by decide +kernel
theorem d_Mo_digest_59 : decode b_Mo_digest 59 = .ok (.iaload, 1) := by decide +kernel
theorem d_Mo_digest_60 : decode b_Mo_digest 60 = .ok (.i2l, 1) := by decide +kernel
theorem d_Mo_digest_61 : decode b_Mo_digest 61 = .ok (.ladd, 1) := by decide +kernel
theorem d_Mo_digest_62 : decode b_Mo_digest 62 = .ok (.lmul, 1) := by decide +kernel
theorem d_Mo_digest_63 : decode b_Mo_digest 63 = .ok (.aload_n 0, 1) := by decide +kernel
theorem d_Mo_digest_64 : decode b_Mo_digest 64 = .ok (.getfield 7, 3) := by decide +kernel
theorem d_Mo_digest_67 : decode b_Mo_digest 67 = .ok (.bipush 38, 2) := by decide +kernel
theorem d_Mo_digest_69 : decode b_Mo_digest 69 = .ok (.iload_n 3, 1) := by decide +kernel
theorem d_Mo_digest_70 : decode b_Mo_digest 70 = .ok (.iadd, 1) := by decide +kernel
theorem d_Mo_digest_71 : decode b_Mo_digest 71 = .ok (.iaload, 1) := by decide +kernel
theorem d_Mo_digest_72 : decode b_Mo_digest 72 = .ok (.i2l, 1) := by decide +kernel
theorem d_Mo_digest_73 : decode b_Mo_digest 73 = .ok (.ladd, 1) := by decide +kernel
theorem d_Mo_digest_74 : decode b_Mo_digest 74 = .ok (.lmul, 1) := by decide +kernel
theorem d_Mo_digest_75 : decode b_Mo_digest 75 = .ok (.aload_n 0, 1) := by decide +kernel
theorem d_Mo_digest_76 : decode b_Mo_digest 76 = .ok (.getfield 7, 3) := by decide +kernel
theorem d_Mo_digest_79 : decode b_Mo_digest 79 = .ok (.bipush 74, 2) := by decide +kernel
theorem d_Mo_digest_81 : decode b_Mo_digest 81 = .ok (.iload_n 3, 1) := by decide +kernel
theorem d_Mo_digest_82 : decode b_Mo_digest 82 = .ok (.iadd, 1) := by decide +kernel
theorem d_Mo_digest_83 : decode b_Mo_digest 83 = .ok (.iaload, 1) := by decide +kernel
theorem d_Mo_digest_84 : decode b_Mo_digest 84 = .ok (.i2l, 1) := by decide +kernel
theorem d_Mo_digest_85 : decode b_Mo_digest 85 = .ok (.ladd, 1) := by decide +kernel
theorem d_Mo_digest_86 : decode b_Mo_digest 86 = .ok (.lstore_n 1, 1) := by decide +kernel
theorem d_Mo_digest_87 : decode b_Mo_digest 87 = .ok (.iinc 3 1, 3) := by decide +kernel
theorem d_Mo_digest_90 : decode b_Mo_digest 90 = .ok (.goto (-57), 3) := by decide +kernel
theorem d_Mo_digest_93 : decode b_Mo_digest 93 = .ok (.iconst 0, 1) := by decide +kernel
theorem d_Mo_digest_94 : decode b_Mo_digest 94 = .ok (.istore_n 3, 1) := by decide +kernel
theorem d_Mo_digest_95 : decode b_Mo_digest 95 = .ok (.iload_n 3, 1) := by decide +kernel
theorem d_Mo_digest_96 : decode b_Mo_digest 96 = .ok (.bipush 12, 2) := by decide +kernel
theorem d_Mo_digest_98 : decode b_Mo_digest 98 = .ok (.if_icmp .ge 26, 3) := by decide +kernel
theorem d_Mo_digest_101 : decode b_Mo_digest 101 = .ok (.ldc2_w 321, 3) := by decide +kernel
theorem d_Mo_digest_104 : decode b_Mo_digest 104 = .ok (.lload_n 1, 1) := by decide +kernel
theorem d_Mo_digest_105 : decode b_Mo_digest 105 = .ok (.lmul, 1) := by decide +kernel
theorem d_Mo_digest_106 : decode b_Mo_digest 106 = .ok (.aload_n 0, 1) := by decide +kernel
theorem d_Mo_digest_107 : decode b_Mo_digest 107 = .ok (.getfield 7, 3) := by decide +kernel
theorem d_Mo_digest_110 : decode b_Mo_digest 110 = .ok (.bipush 110, 2) := by decide +kernel
theorem d_Mo_digest_112 : decode b_Mo_digest 112 = .ok (.iload_n 3, 1) := by decide +kernel
theorem d_Mo_digest_113 : decode b_Mo_digest 113 = .ok (.iadd, 1) := by decide +kernel
theorem d_Mo_digest_114 : decode b_Mo_digest 114 = .ok (.iaload, 1) := by decide +kernel
theorem d_Mo_digest_115 : decode b_Mo_digest 115 = .ok (.i2l, 1) := by decide +kernel
theorem d_Mo_digest_116 : decode b_Mo_digest 116 = .ok (.ladd, 1) := by decide +kernel
theorem d_Mo_digest_117 : decode b_Mo_digest 117 = .ok (.lstore_n 1, 1) := by decide +kernel
theorem d_Mo_digest_118 : decode b_Mo_digest 118 = .ok (.iinc 3 1, 3) := by decide +kernel
theorem d_Mo_digest_121 : decode b_Mo_digest 121 = .ok (.goto (-26), 3) := by decide +kernel
theorem d_Mo_digest_124 : decode b_Mo_digest 124 = .ok (.iconst 0, 1) := by decide +kernel
theorem d_Mo_digest_125 : decode b_Mo_digest 125 = .ok (.istore_n 3, 1) := by decide +kernel
theorem d_Mo_digest_126 : decode b_Mo_digest 126 = .ok (.iload_n 3, 1) := by decide +kernel
theorem d_Mo_digest_127 : decode b_Mo_digest 127 = .ok (.iconst 4, 1) := by decide +kernel
theorem d_Mo_digest_128 : decode b_Mo_digest 128 = .ok (.aload_n 0, 1) := by decide +kernel
theorem d_Mo_digest_129 : decode b_Mo_digest 129 = .ok (.getfield 7, 3) := by decide +kernel
theorem d_Mo_digest_132 : decode b_Mo_digest 132 = .ok (.bipush 122, 2) := by decide +kernel
theorem d_Mo_digest_134 : decode b_Mo_digest 134 = .ok (.iaload, 1) := by decide +kernel
theorem d_Mo_digest_135 : decode b_Mo_digest 135 = .ok (.imul, 1) := by decide +kernel
theorem d_Mo_digest_136 : decode b_Mo_digest 136 = .ok (.if_icmp .ge 26, 3) := by decide +kernel
theorem d_Mo_digest_139 : decode b_Mo_digest 139 = .ok (.ldc2_w 321, 3) := by decide +kernel
theorem d_Mo_digest_142 : decode b_Mo_digest 142 = .ok (.lload_n 1, 1) := by decide +kernel
theorem d_Mo_digest_143 : decode b_Mo_digest 143 = .ok (.lmul, 1) := by decide +kernel
theorem d_Mo_digest_144 : decode b_Mo_digest 144 = .ok (.aload_n 0, 1) := by decide +kernel
theorem d_Mo_digest_145 : decode b_Mo_digest 145 = .ok (.getfield 7, 3) := by decide +kernel
theorem d_Mo_digest_148 : decode b_Mo_digest 148 = .ok (.bipush 123, 2) := by decide +kernel
theorem d_Mo_digest_150 : decode b_Mo_digest 150 = .ok (.iload_n 3, 1) := by decide +kernel
theorem d_Mo_digest_151 : decode b_Mo_digest 151 = .ok (.iadd, 1) := by decide +kernel
theorem d_Mo_digest_152 : decode b_Mo_digest 152 = .ok (.iaload, 1) := by decide +kernel
theorem d_Mo_digest_153 : decode b_Mo_digest 153 = .ok (.i2l, 1) := by decide +kernel
theorem d_Mo_digest_154 : decode b_Mo_digest 154 = .ok (.ladd, 1) := by decide +kernel
theorem d_Mo_digest_155 : decode b_Mo_digest 155 = .ok (.lstore_n 1, 1) := by decide +kernel
theorem d_Mo_digest_156 : decode b_Mo_digest 156 = .ok (.iinc 3 1, 3) := by decide +kernel
theorem d_Mo_digest_159 : decode b_Mo_digest 159 = .ok (.goto (-33), 3) := by decide +kernel
theorem d_Mo_digest_162 : decode b_Mo_digest 162 = .ok (.iconst 0, 1) := by decide +kernel
theorem d_Mo_digest_163 : decode b_Mo_digest 163 = .ok (.istore_n 3, 1) := by decide +kernel
theorem d_Mo_digest_164 : decode b_Mo_digest 164 = .ok (.iload_n 3, 1) := by decide +kernel
theorem d_Mo_digest_165 : decode b_Mo_digest 165 = .ok (.iconst 5, 1) := by decide +kernel
theorem d_Mo_digest_166 : decode b_Mo_digest 166 = .ok (.aload_n 0, 1) := by decide +kernel
theorem d_Mo_digest_167 : decode b_Mo_digest 167 = .ok (.getfield 7, 3) := by decide +kernel
theorem d_Mo_digest_170 : decode b_Mo_digest 170 = .ok (.sipush 147, 3) := by decide +kernel
theorem d_Mo_digest_173 : decode b_Mo_digest 173 = .ok (.iaload, 1) := by decide +kernel
theorem d_Mo_digest_174 : decode b_Mo_digest 174 = .ok (.imul, 1) := by decide +kernel
theorem d_Mo_digest_175 : decode b_Mo_digest 175 = .ok (.if_icmp .ge 27, 3) := by decide +kernel
theorem d_Mo_digest_178 : decode b_Mo_digest 178 = .ok (.ldc2_w 321, 3) := by decide +kernel
theorem d_Mo_digest_181 : decode b_Mo_digest 181 = .ok (.lload_n 1, 1) := by decide +kernel
theorem d_Mo_digest_182 : decode b_Mo_digest 182 = .ok (.lmul, 1) := by decide +kernel
theorem d_Mo_digest_183 : decode b_Mo_digest 183 = .ok (.aload_n 0, 1) := by decide +kernel
theorem d_Mo_digest_184 : decode b_Mo_digest 184 = .ok (.getfield 7, 3) := by decide +kernel
theorem d_Mo_digest_187 : decode b_Mo_digest 187 = .ok (.sipush 148, 3) := by decide +kernel
theorem d_Mo_digest_190 : decode b_Mo_digest 190 = .ok (.iload_n 3, 1) := by decide +kernel
theorem d_Mo_digest_191 : decode b_Mo_digest 191 = .ok (.iadd, 1) := by decide +kernel
theorem d_Mo_digest_192 : decode b_Mo_digest 192 = .ok (.iaload, 1) := by decide +kernel
theorem d_Mo_digest_193 : decode b_Mo_digest 193 = .ok (.i2l, 1) := by decide +kernel
theorem d_Mo_digest_194 : decode b_Mo_digest 194 = .ok (.ladd, 1) := by decide +kernel
theorem d_Mo_digest_195 : decode b_Mo_digest 195 = .ok (.lstore_n 1, 1) := by decide +kernel
theorem d_Mo_digest_196 : decode b_Mo_digest 196 = .ok (.iinc 3 1, 3) := by decide +kernel
theorem d_Mo_digest_199 : decode b_Mo_digest 199 = .ok (.goto (-35), 3) := by decide +kernel
theorem d_Mo_digest_202 : decode b_Mo_digest 202 = .ok (.lload_n 1, 1) := by decide +kernel
theorem d_Mo_digest_203 : decode b_Mo_digest 203 = .ok (.lreturn, 1) := by decide +kernel
