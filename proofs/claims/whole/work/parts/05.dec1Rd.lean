theorem d_Rd_init_0 : decode b_Rd_init 0 = .ok (.aload_n 0, 1) := by decide +kernel
theorem d_Rd_init_1 : decode b_Rd_init 1 = .ok (.invokespecial 3, 3) := by decide +kernel
theorem d_Rd_init_4 : decode b_Rd_init 4 = .ok (.aload_n 0, 1) := by decide +kernel
theorem d_Rd_init_5 : decode b_Rd_init 5 = .ok (.sipush 150, 3) := by decide +kernel
theorem d_Rd_init_8 : decode b_Rd_init 8 = .ok (.newarray .byte, 2) := by decide +kernel
theorem d_Rd_init_10 : decode b_Rd_init 10 = .ok (.putfield 9, 3) := by decide +kernel
theorem d_Rd_init_13 : decode b_Rd_init 13 = .ok (.aload_n 0, 1) := by decide +kernel
theorem d_Rd_init_14 : decode b_Rd_init 14 = .ok (.iconst 5, 1) := by decide +kernel
theorem d_Rd_init_15 : decode b_Rd_init 15 = .ok (.newarray .int, 2) := by decide +kernel
theorem d_Rd_init_17 : decode b_Rd_init 17 = .ok (.putfield 15, 3) := by decide +kernel
theorem d_Rd_init_20 : decode b_Rd_init 20 = .ok (.aload_n 0, 1) := by decide +kernel
theorem d_Rd_init_21 : decode b_Rd_init 21 = .ok (.aload_n 1, 1) := by decide +kernel
theorem d_Rd_init_22 : decode b_Rd_init 22 = .ok (.putfield 19, 3) := by decide +kernel
theorem d_Rd_init_25 : decode b_Rd_init 25 = .ok (.return_, 1) := by decide +kernel
theorem d_Rd_append_0 : decode b_Rd_append 0 = .ok (.aload_n 0, 1) := by decide +kernel
theorem d_Rd_append_1 : decode b_Rd_append 1 = .ok (.getfield 23, 3) := by decide +kernel
theorem d_Rd_append_4 : decode b_Rd_append 4 = .ok (.ifCond .lt 13, 3) := by decide +kernel
theorem d_Rd_append_7 : decode b_Rd_append 7 = .ok (.aload_n 0, 1) := by decide +kernel
theorem d_Rd_append_8 : decode b_Rd_append 8 = .ok (.getfield 23, 3) := by decide +kernel
theorem d_Rd_append_11 : decode b_Rd_append 11 = .ok (.sipush 150, 3) := by decide +kernel
theorem d_Rd_append_14 : decode b_Rd_append 14 = .ok (.if_icmp .lt 5, 3) := by decide +kernel
theorem d_Rd_append_17 : decode b_Rd_append 17 = .ok (.iconst 0, 1) := by decide +kernel
theorem d_Rd_append_18 : decode b_Rd_append 18 = .ok (.ireturn, 1) := by decide +kernel
theorem d_Rd_append_19 : decode b_Rd_append 19 = .ok (.aload_n 0, 1) := by decide +kernel
theorem d_Rd_append_20 : decode b_Rd_append 20 = .ok (.getfield 9, 3) := by decide +kernel
theorem d_Rd_append_23 : decode b_Rd_append 23 = .ok (.aload_n 0, 1) := by decide +kernel
theorem d_Rd_append_24 : decode b_Rd_append 24 = .ok (.getfield 23, 3) := by decide +kernel
theorem d_Rd_append_27 : decode b_Rd_append 27 = .ok (.iload_n 1, 1) := by decide +kernel
theorem d_Rd_append_28 : decode b_Rd_append 28 = .ok (.i2b, 1) := by decide +kernel
theorem d_Rd_append_29 : decode b_Rd_append 29 = .ok (.bastore, 1) := by decide +kernel
theorem d_Rd_append_30 : decode b_Rd_append 30 = .ok (.aload_n 0, 1) := by decide +kernel
theorem d_Rd_append_31 : decode b_Rd_append 31 = .ok (.dup, 1) := by decide +kernel
theorem d_Rd_append_32 : decode b_Rd_append 32 = .ok (.getfield 23, 3) := by decide +kernel
theorem d_Rd_append_35 : decode b_Rd_append 35 = .ok (.iconst 1, 1) := by decide +kernel
theorem d_Rd_append_36 : decode b_Rd_append 36 = .ok (.iadd, 1) := by decide +kernel
theorem d_Rd_append_37 : decode b_Rd_append 37 = .ok (.putfield 23, 3) := by decide +kernel
theorem d_Rd_append_40 : decode b_Rd_append 40 = .ok (.iconst 1, 1) := by decide +kernel
theorem d_Rd_append_41 : decode b_Rd_append 41 = .ok (.ireturn, 1) := by decide +kernel
theorem d_Rd_empty_0 : decode b_Rd_empty 0 = .ok (.aload_n 0, 1) := by decide +kernel
theorem d_Rd_empty_1 : decode b_Rd_empty 1 = .ok (.getfield 23, 3) := by decide +kernel
theorem d_Rd_empty_4 : decode b_Rd_empty 4 = .ok (.istore_n 1, 1) := by decide +kernel
theorem d_Rd_empty_5 : decode b_Rd_empty 5 = .ok (.aload_n 0, 1) := by decide +kernel
theorem d_Rd_empty_6 : decode b_Rd_empty 6 = .ok (.iconst 0, 1) := by decide +kernel
theorem d_Rd_empty_7 : decode b_Rd_empty 7 = .ok (.putfield 23, 3) := by decide +kernel
theorem d_Rd_empty_10 : decode b_Rd_empty 10 = .ok (.iload_n 1, 1) := by decide +kernel
theorem d_Rd_empty_11 : decode b_Rd_empty 11 = .ok (.ireturn, 1) := by decide +kernel
theorem d_Rd_readInto_0 : decode b_Rd_readInto 0 = .ok (.aload_n 0, 1) := by decide +kernel
theorem d_Rd_readInto_1 : decode b_Rd_readInto 1 = .ok (.aload_n 1, 1) := by decide +kernel
theorem d_Rd_readInto_2 : decode b_Rd_readInto 2 = .ok (.putfield 19, 3) := by decide +kernel
theorem d_Rd_readInto_5 : decode b_Rd_readInto 5 = .ok (.aload_n 0, 1) := by decide +kernel
theorem d_Rd_readInto_6 : decode b_Rd_readInto 6 = .ok (.iconst 0, 1) := by decide +kernel
theorem d_Rd_readInto_7 : decode b_Rd_readInto 7 = .ok (.putfield 27, 3) := by decide +kernel
theorem d_Rd_readInto_10 : decode b_Rd_readInto 10 = .ok (.iconst 0, 1) := by decide +kernel
theorem d_Rd_readInto_11 : decode b_Rd_readInto 11 = .ok (.istore_n 2, 1) := by decide +kernel
theorem d_Rd_readInto_12 : decode b_Rd_readInto 12 = .ok (.aload_n 0, 1) := by decide +kernel
theorem d_Rd_readInto_13 : decode b_Rd_readInto 13 = .ok (.invokevirtual 30, 3) := by decide +kernel
theorem d_Rd_readInto_16 : decode b_Rd_readInto 16 = .ok (.iconst 0, 1) := by decide +kernel
theorem d_Rd_readInto_17 : decode b_Rd_readInto 17 = .ok (.istore_n 3, 1) := by decide +kernel
theorem d_Rd_readInto_18 : decode b_Rd_readInto 18 = .ok (.iload_n 3, 1) := by decide +kernel
theorem d_Rd_readInto_19 : decode b_Rd_readInto 19 = .ok (.sipush 150, 3) := by decide +kernel
theorem d_Rd_readInto_22 : decode b_Rd_readInto 22 = .ok (.if_icmp .ge 51, 3) := by decide +kernel
theorem d_Rd_readInto_25 : decode b_Rd_readInto 25 = .ok (.aload_n 0, 1) := by decide +kernel
theorem d_Rd_readInto_26 : decode b_Rd_readInto 26 = .ok (.getfield 33, 3) := by decide +kernel
theorem d_Rd_readInto_29 : decode b_Rd_readInto 29 = .ok (.ifCond .ne 7, 3) := by decide +kernel
theorem d_Rd_readInto_32 : decode b_Rd_readInto 32 = .ok (.iload_n 2, 1) := by decide +kernel
theorem d_Rd_readInto_33 : decode b_Rd_readInto 33 = .ok (.ifCond .ne 40, 3) := by decide +kernel
theorem d_Rd_readInto_36 : decode b_Rd_readInto 36 = .ok (.aload_n 0, 1) := by decide +kernel
theorem d_Rd_readInto_37 : decode b_Rd_readInto 37 = .ok (.iload_n 2, 1) := by decide +kernel
theorem d_Rd_readInto_38 : decode b_Rd_readInto 38 = .ok (.ifCond .ne 7, 3) := by decide +kernel
theorem d_Rd_readInto_41 : decode b_Rd_readInto 41 = .ok (.iconst 1, 1) := by decide +kernel
theorem d_Rd_readInto_42 : decode b_Rd_readInto 42 = .ok (.goto 4, 3) := by decide +kernel
theorem d_Rd_readInto_45 : decode b_Rd_readInto 45 = .ok (.iconst 0, 1) := by decide +kernel
theorem d_Rd_readInto_46 : decode b_Rd_readInto 46 = .ok (.invokevirtual 36, 3) := by decide +kernel
theorem d_Rd_readInto_49 : decode b_Rd_readInto 49 = .ok (.ifCond .ne 11, 3) := by decide +kernel
theorem d_Rd_readInto_52 : decode b_Rd_readInto 52 = .ok (.bipush (-10), 2) := by decide +kernel
theorem d_Rd_readInto_54 : decode b_Rd_readInto 54 = .ok (.aload_n 0, 1) := by decide +kernel
theorem d_Rd_readInto_55 : decode b_Rd_readInto 55 = .ok (.getfield 40, 3) := by decide +kernel
theorem d_Rd_readInto_58 : decode b_Rd_readInto 58 = .ok (.isub, 1) := by decide +kernel
theorem d_Rd_readInto_59 : decode b_Rd_readInto 59 = .ok (.ireturn, 1) := by decide +kernel
theorem d_Rd_readInto_60 : decode b_Rd_readInto 60 = .ok (.iinc 2 1, 3) := by decide +kernel
theorem d_Rd_readInto_63 : decode b_Rd_readInto 63 = .ok (.aload_n 0, 1) := by decide +kernel
theorem d_Rd_readInto_64 : decode b_Rd_readInto 64 = .ok (.invokevirtual 30, 3) := by decide +kernel
theorem d_Rd_readInto_67 : decode b_Rd_readInto 67 = .ok (.iinc 3 1, 3) := by decide +kernel
theorem d_Rd_readInto_70 : decode b_Rd_readInto 70 = .ok (.goto (-52), 3) := by decide +kernel
theorem d_Rd_readInto_73 : decode b_Rd_readInto 73 = .ok (.iload_n 2, 1) := by decide +kernel
theorem d_Rd_readInto_74 : decode b_Rd_readInto 74 = .ok (.ireturn, 1) := by decide +kernel
theorem d_Rd_readItem_0 : decode b_Rd_readItem 0 = .ok (.aload_n 0, 1) := by decide +kernel
theorem d_Rd_readItem_1 : decode b_Rd_readItem 1 = .ok (.getfield 33, 3) := by decide +kernel
theorem d_Rd_readItem_4 : decode b_Rd_readItem 4 = .ok (.iconst 1, 1) := by decide +kernel
theorem d_Rd_readItem_5 : decode b_Rd_readItem 5 = .ok (.if_icmp .ne 10, 3) := by decide +kernel
theorem d_Rd_readItem_8 : decode b_Rd_readItem 8 = .ok (.aload_n 0, 1) := by decide +kernel
theorem d_Rd_readItem_9 : decode b_Rd_readItem 9 = .ok (.invokevirtual 43, 3) := by decide +kernel
theorem d_Rd_readItem_12 : decode b_Rd_readItem 12 = .ok (.goto 5, 3) := by decide +kernel
theorem d_Rd_readItem_15 : decode b_Rd_readItem 15 = .ok (.bipush 6, 2) := by decide +kernel
theorem d_Rd_readItem_17 : decode b_Rd_readItem 17 = .ok (.istore_n 2, 1) := by decide +kernel
theorem d_Rd_readItem_18 : decode b_Rd_readItem 18 = .ok (.iload_n 2, 1) := by decide +kernel
theorem d_Rd_readItem_19 : decode b_Rd_readItem 19 = .ok (.bipush 6, 2) := by decide +kernel
theorem d_Rd_readItem_21 : decode b_Rd_readItem 21 = .ok (.if_icmp .eq 24, 3) := by decide +kernel
theorem d_Rd_readItem_24 : decode b_Rd_readItem 24 = .ok (.iload_n 1, 1) := by decide +kernel
theorem d_Rd_readItem_25 : decode b_Rd_readItem 25 = .ok (.iload_n 2, 1) := by decide +kernel
theorem d_Rd_readItem_26 : decode b_Rd_readItem 26 = .ok (.ifCond .ne 7, 3) := by decide +kernel
theorem d_Rd_readItem_29 : decode b_Rd_readItem 29 = .ok (.iconst 1, 1) := by decide +kernel
theorem d_Rd_readItem_30 : decode b_Rd_readItem 30 = .ok (.goto 4, 3) := by decide +kernel
theorem d_Rd_readItem_33 : decode b_Rd_readItem 33 = .ok (.iconst 0, 1) := by decide +kernel
theorem d_Rd_readItem_34 : decode b_Rd_readItem 34 = .ok (.if_icmp .ne 11, 3) := by decide +kernel
theorem d_Rd_readItem_37 : decode b_Rd_readItem 37 = .ok (.aload_n 0, 1) := by decide +kernel
theorem d_Rd_readItem_38 : decode b_Rd_readItem 38 = .ok (.iload_n 2, 1) := by decide +kernel
theorem d_Rd_readItem_39 : decode b_Rd_readItem 39 = .ok (.invokevirtual 47, 3) := by decide +kernel
theorem d_Rd_readItem_42 : decode b_Rd_readItem 42 = .ok (.ifCond .eq 5, 3) := by decide +kernel
theorem d_Rd_readItem_45 : decode b_Rd_readItem 45 = .ok (.iconst 0, 1) := by decide +kernel
theorem d_Rd_readItem_46 : decode b_Rd_readItem 46 = .ok (.ireturn, 1) := by decide +kernel
theorem d_Rd_readItem_47 : decode b_Rd_readItem 47 = .ok (.iconst 0, 1) := by decide +kernel
theorem d_Rd_readItem_48 : decode b_Rd_readItem 48 = .ok (.istore_n 3, 1) := by decide +kernel
theorem d_Rd_readItem_49 : decode b_Rd_readItem 49 = .ok (.iload_n 3, 1) := by decide +kernel
theorem d_Rd_readItem_50 : decode b_Rd_readItem 50 = .ok (.iload_n 2, 1) := by decide +kernel
theorem d_Rd_readItem_51 : decode b_Rd_readItem 51 = .ok (.invokestatic 51, 3) := by decide +kernel
theorem d_Rd_readItem_54 : decode b_Rd_readItem 54 = .ok (.if_icmp .ge 72, 3) := by decide +kernel
theorem d_Rd_readItem_57 : decode b_Rd_readItem 57 = .ok (.iload_n 3, 1) := by decide +kernel
theorem d_Rd_readItem_58 : decode b_Rd_readItem 58 = .ok (.aload_n 0, 1) := by decide +kernel
theorem d_Rd_readItem_59 : decode b_Rd_readItem 59 = .ok (.getfield 15, 3) := by decide +kernel
theorem d_Rd_readItem_62 : decode b_Rd_readItem 62 = .ok (.arraylength, 1) := by decide +kernel
theorem d_Rd_readItem_63 : decode b_Rd_readItem 63 = .ok (.if_icmp .ge 63, 3) := by decide +kernel
theorem d_Rd_readItem_66 : decode b_Rd_readItem 66 = .ok (.aload_n 0, 1) := by decide +kernel
theorem d_Rd_readItem_67 : decode b_Rd_readItem 67 = .ok (.invokevirtual 30, 3) := by decide +kernel
theorem d_Rd_readItem_70 : decode b_Rd_readItem 70 = .ok (.aload_n 0, 1) := by decide +kernel
theorem d_Rd_readItem_71 : decode b_Rd_readItem 71 = .ok (.getfield 33, 3) := by decide +kernel
theorem d_Rd_readItem_74 : decode b_Rd_readItem 74 = .ok (.iconst 2, 1) := by decide +kernel
theorem d_Rd_readItem_75 : decode b_Rd_readItem 75 = .ok (.if_icmp .ne 10, 3) := by decide +kernel
theorem d_Rd_readItem_78 : decode b_Rd_readItem 78 = .ok (.aload_n 0, 1) := by decide +kernel
theorem d_Rd_readItem_79 : decode b_Rd_readItem 79 = .ok (.invokevirtual 55, 3) := by decide +kernel
theorem d_Rd_readItem_82 : decode b_Rd_readItem 82 = .ok (.goto 4, 3) := by decide +kernel
theorem d_Rd_readItem_85 : decode b_Rd_readItem 85 = .ok (.iconst (-1), 1) := by decide +kernel
theorem d_Rd_readItem_86 : decode b_Rd_readItem 86 = .ok (.istore 4, 2) := by decide +kernel
theorem d_Rd_readItem_88 : decode b_Rd_readItem 88 = .ok (.iload 4, 2) := by decide +kernel
theorem d_Rd_readItem_90 : decode b_Rd_readItem 90 = .ok (.aload_n 0, 1) := by decide +kernel
theorem d_Rd_readItem_91 : decode b_Rd_readItem 91 = .ok (.iload_n 2, 1) := by decide +kernel
theorem d_Rd_readItem_92 : decode b_Rd_readItem 92 = .ok (.iload_n 3, 1) := by decide +kernel
theorem d_Rd_readItem_93 : decode b_Rd_readItem 93 = .ok (.invokevirtual 58, 3) := by decide +kernel
theorem d_Rd_readItem_96 : decode b_Rd_readItem 96 = .ok (.if_icmp .lt 14, 3) := by decide +kernel
theorem d_Rd_readItem_99 : decode b_Rd_readItem 99 = .ok (.iload 4, 2) := by decide +kernel
theorem d_Rd_readItem_101 : decode b_Rd_readItem 101 = .ok (.aload_n 0, 1) := by decide +kernel
theorem d_Rd_readItem_102 : decode b_Rd_readItem 102 = .ok (.iload_n 2, 1) := by decide +kernel
theorem d_Rd_readItem_103 : decode b_Rd_readItem 103 = .ok (.iload_n 3, 1) := by decide +kernel
theorem d_Rd_readItem_104 : decode b_Rd_readItem 104 = .ok (.invokevirtual 62, 3) := by decide +kernel
theorem d_Rd_readItem_107 : decode b_Rd_readItem 107 = .ok (.if_icmp .le 5, 3) := by decide +kernel
theorem d_Rd_readItem_110 : decode b_Rd_readItem 110 = .ok (.iconst 0, 1) := by decide +kernel
theorem d_Rd_readItem_111 : decode b_Rd_readItem 111 = .ok (.ireturn, 1) := by decide +kernel
theorem d_Rd_readItem_112 : decode b_Rd_readItem 112 = .ok (.aload_n 0, 1) := by decide +kernel
theorem d_Rd_readItem_113 : decode b_Rd_readItem 113 = .ok (.getfield 15, 3) := by decide +kernel
theorem d_Rd_readItem_116 : decode b_Rd_readItem 116 = .ok (.iload_n 3, 1) := by decide +kernel
theorem d_Rd_readItem_117 : decode b_Rd_readItem 117 = .ok (.iload 4, 2) := by decide +kernel
theorem d_Rd_readItem_119 : decode b_Rd_readItem 119 = .ok (.iastore, 1) := by decide +kernel
theorem d_Rd_readItem_120 : decode b_Rd_readItem 120 = .ok (.iinc 3 1, 3) := by decide +kernel
theorem d_Rd_readItem_123 : decode b_Rd_readItem 123 = .ok (.goto (-74), 3) := by decide +kernel
theorem d_Rd_readItem_126 : decode b_Rd_readItem 126 = .ok (.aload_n 0, 1) := by decide +kernel
theorem d_Rd_readItem_127 : decode b_Rd_readItem 127 = .ok (.invokevirtual 30, 3) := by decide +kernel
theorem d_Rd_readItem_130 : decode b_Rd_readItem 130 = .ok (.aload_n 0, 1) := by decide +kernel
theorem d_Rd_readItem_131 : decode b_Rd_readItem 131 = .ok (.getfield 33, 3) := by decide +kernel
theorem d_Rd_readItem_134 : decode b_Rd_readItem 134 = .ok (.iconst 3, 1) := by decide +kernel
theorem d_Rd_readItem_135 : decode b_Rd_readItem 135 = .ok (.if_icmp .eq 5, 3) := by decide +kernel
theorem d_Rd_readItem_138 : decode b_Rd_readItem 138 = .ok (.iconst 0, 1) := by decide +kernel
theorem d_Rd_readItem_139 : decode b_Rd_readItem 139 = .ok (.ireturn, 1) := by decide +kernel
theorem d_Rd_readItem_140 : decode b_Rd_readItem 140 = .ok (.aload_n 0, 1) := by decide +kernel
theorem d_Rd_readItem_141 : decode b_Rd_readItem 141 = .ok (.iload_n 2, 1) := by decide +kernel
theorem d_Rd_readItem_142 : decode b_Rd_readItem 142 = .ok (.invokevirtual 65, 3) := by decide +kernel
theorem d_Rd_readItem_145 : decode b_Rd_readItem 145 = .ok (.iconst 1, 1) := by decide +kernel
theorem d_Rd_readItem_146 : decode b_Rd_readItem 146 = .ok (.ireturn, 1) := by decide +kernel
theorem d_Rd_isTooMany_0 : decode b_Rd_isTooMany 0 = .ok (.iload_n 1, 1) := by decide +kernel
theorem d_Rd_isTooMany_1 : decode b_Rd_isTooMany 1 = .ok (.iconst 4, 1) := by decide +kernel
theorem d_Rd_isTooMany_2 : decode b_Rd_isTooMany 2 = .ok (.if_icmp .ne 15, 3) := by decide +kernel
theorem d_Rd_isTooMany_5 : decode b_Rd_isTooMany 5 = .ok (.aload_n 0, 1) := by decide +kernel
theorem d_Rd_isTooMany_6 : decode b_Rd_isTooMany 6 = .ok (.getfield 19, 3) := by decide +kernel
theorem d_Rd_isTooMany_9 : decode b_Rd_isTooMany 9 = .ok (.getfield 69, 3) := by decide +kernel
theorem d_Rd_isTooMany_12 : decode b_Rd_isTooMany 12 = .ok (.bipush 6, 2) := by decide +kernel
theorem d_Rd_isTooMany_14 : decode b_Rd_isTooMany 14 = .ok (.if_icmp .ge 20, 3) := by decide +kernel
theorem d_Rd_isTooMany_17 : decode b_Rd_isTooMany 17 = .ok (.iload_n 1, 1) := by decide +kernel
theorem d_Rd_isTooMany_18 : decode b_Rd_isTooMany 18 = .ok (.iconst 5, 1) := by decide +kernel
theorem d_Rd_isTooMany_19 : decode b_Rd_isTooMany 19 = .ok (.if_icmp .ne 19, 3) := by decide +kernel
theorem d_Rd_isTooMany_22 : decode b_Rd_isTooMany 22 = .ok (.aload_n 0, 1) := by decide +kernel
theorem d_Rd_isTooMany_23 : decode b_Rd_isTooMany 23 = .ok (.getfield 19, 3) := by decide +kernel
theorem d_Rd_isTooMany_26 : decode b_Rd_isTooMany 26 = .ok (.getfield 74, 3) := by decide +kernel
theorem d_Rd_isTooMany_29 : decode b_Rd_isTooMany 29 = .ok (.bipush 8, 2) := by decide +kernel
theorem d_Rd_isTooMany_31 : decode b_Rd_isTooMany 31 = .ok (.if_icmp .lt 7, 3) := by decide +kernel
theorem d_Rd_isTooMany_34 : decode b_Rd_isTooMany 34 = .ok (.iconst 1, 1) := by decide +kernel
theorem d_Rd_isTooMany_35 : decode b_Rd_isTooMany 35 = .ok (.goto 4, 3) := by decide +kernel
theorem d_Rd_isTooMany_38 : decode b_Rd_isTooMany 38 = .ok (.iconst 0, 1) := by decide +kernel
theorem d_Rd_isTooMany_39 : decode b_Rd_isTooMany 39 = .ok (.ireturn, 1) := by decide +kernel
theorem d_Rd_numbersOf_0 : decode b_Rd_numbersOf 0 = .ok (.iload_n 0, 1) := by decide +kernel
theorem d_Rd_numbersOf_1 : decode b_Rd_numbersOf 1 = .ok (.iconst 5, 1) := by decide +kernel
theorem d_Rd_numbersOf_2 : decode b_Rd_numbersOf 2 = .ok (.if_icmp .ne 7, 3) := by decide +kernel
theorem d_Rd_numbersOf_5 : decode b_Rd_numbersOf 5 = .ok (.iconst 5, 1) := by decide +kernel
theorem d_Rd_numbersOf_6 : decode b_Rd_numbersOf 6 = .ok (.goto 13, 3) := by decide +kernel
theorem d_Rd_numbersOf_9 : decode b_Rd_numbersOf 9 = .ok (.iload_n 0, 1) := by decide +kernel
theorem d_Rd_numbersOf_10 : decode b_Rd_numbersOf 10 = .ok (.iconst 4, 1) := by decide +kernel
theorem d_Rd_numbersOf_11 : decode b_Rd_numbersOf 11 = .ok (.if_icmp .ne 7, 3) := by decide +kernel
theorem d_Rd_numbersOf_14 : decode b_Rd_numbersOf 14 = .ok (.iconst 3, 1) := by decide +kernel
theorem d_Rd_numbersOf_15 : decode b_Rd_numbersOf 15 = .ok (.goto 4, 3) := by decide +kernel
theorem d_Rd_numbersOf_18 : decode b_Rd_numbersOf 18 = .ok (.iconst 2, 1) := by decide +kernel
theorem d_Rd_numbersOf_19 : decode b_Rd_numbersOf 19 = .ok (.ireturn, 1) := by decide +kernel
theorem d_Rd_least_0 : decode b_Rd_least 0 = .ok (.iload_n 1, 1) := by decide +kernel
theorem d_Rd_least_1 : decode b_Rd_least 1 = .ok (.iconst 5, 1) := by decide +kernel
theorem d_Rd_least_2 : decode b_Rd_least 2 = .ok (.if_icmp .ne 15, 3) := by decide +kernel
theorem d_Rd_least_5 : decode b_Rd_least 5 = .ok (.iload_n 2, 1) := by decide +kernel
theorem d_Rd_least_6 : decode b_Rd_least 6 = .ok (.iconst 3, 1) := by decide +kernel
theorem d_Rd_least_7 : decode b_Rd_least 7 = .ok (.if_icmp .ne 10, 3) := by decide +kernel
theorem d_Rd_least_10 : decode b_Rd_least 10 = .ok (.aload_n 0, 1) := by decide +kernel
theorem d_Rd_least_11 : decode b_Rd_least 11 = .ok (.getfield 15, 3) := by decide +kernel
theorem d_Rd_least_14 : decode b_Rd_least 14 = .ok (.iconst 2, 1) := by decide +kernel
theorem d_Rd_least_15 : decode b_Rd_least 15 = .ok (.iaload, 1) := by decide +kernel
theorem d_Rd_least_16 : decode b_Rd_least 16 = .ok (.ireturn, 1) := by decide +kernel
theorem d_Rd_least_17 : decode b_Rd_least 17 = .ok (.iload_n 1, 1) := by decide +kernel
theorem d_Rd_least_18 : decode b_Rd_least 18 = .ok (.ifCond .eq 13, 3) := by decide +kernel
theorem d_Rd_least_21 : decode b_Rd_least 21 = .ok (.iload_n 1, 1) := by decide +kernel
theorem d_Rd_least_22 : decode b_Rd_least 22 = .ok (.iconst 5, 1) := by decide +kernel
theorem d_Rd_least_23 : decode b_Rd_least 23 = .ok (.if_icmp .ne 12, 3) := by decide +kernel
theorem d_Rd_least_26 : decode b_Rd_least 26 = .ok (.iload_n 2, 1) := by decide +kernel
theorem d_Rd_least_27 : decode b_Rd_least 27 = .ok (.iconst 4, 1) := by decide +kernel
theorem d_Rd_least_28 : decode b_Rd_least 28 = .ok (.if_icmp .ne 7, 3) := by decide +kernel
theorem d_Rd_least_31 : decode b_Rd_least 31 = .ok (.iconst 1, 1) := by decide +kernel
theorem d_Rd_least_32 : decode b_Rd_least 32 = .ok (.goto 4, 3) := by decide +kernel
theorem d_Rd_least_35 : decode b_Rd_least 35 = .ok (.iconst 0, 1) := by decide +kernel
theorem d_Rd_least_36 : decode b_Rd_least 36 = .ok (.ireturn, 1) := by decide +kernel
theorem d_Rd_most_0 : decode b_Rd_most 0 = .ok (.iload_n 1, 1) := by decide +kernel
theorem d_Rd_most_1 : decode b_Rd_most 1 = .ok (.tableswitch 97 0 4 #[35, 38, 51, 64, 75], 35) := by decide +kernel
theorem d_Rd_most_36 : decode b_Rd_most 36 = .ok (.bipush 6, 2) := by decide +kernel
theorem d_Rd_most_38 : decode b_Rd_most 38 = .ok (.ireturn, 1) := by decide +kernel
theorem d_Rd_most_39 : decode b_Rd_most 39 = .ok (.iload_n 2, 1) := by decide +kernel
theorem d_Rd_most_40 : decode b_Rd_most 40 = .ok (.ifCond .ne 10, 3) := by decide +kernel
theorem d_Rd_most_43 : decode b_Rd_most 43 = .ok (.aload_n 0, 1) := by decide +kernel
theorem d_Rd_most_44 : decode b_Rd_most 44 = .ok (.invokevirtual 77, 3) := by decide +kernel
theorem d_Rd_most_47 : decode b_Rd_most 47 = .ok (.goto 4, 3) := by decide +kernel
theorem d_Rd_most_50 : decode b_Rd_most 50 = .ok (.iconst 2, 1) := by decide +kernel
theorem d_Rd_most_51 : decode b_Rd_most 51 = .ok (.ireturn, 1) := by decide +kernel
theorem d_Rd_most_52 : decode b_Rd_most 52 = .ok (.iload_n 2, 1) := by decide +kernel
theorem d_Rd_most_53 : decode b_Rd_most 53 = .ok (.ifCond .ne 10, 3) := by decide +kernel
theorem d_Rd_most_56 : decode b_Rd_most 56 = .ok (.aload_n 0, 1) := by decide +kernel
theorem d_Rd_most_57 : decode b_Rd_most 57 = .ok (.invokevirtual 77, 3) := by decide +kernel
theorem d_Rd_most_60 : decode b_Rd_most 60 = .ok (.goto 4, 3) := by decide +kernel
theorem d_Rd_most_63 : decode b_Rd_most 63 = .ok (.iconst 5, 1) := by decide +kernel
theorem d_Rd_most_64 : decode b_Rd_most 64 = .ok (.ireturn, 1) := by decide +kernel
theorem d_Rd_most_65 : decode b_Rd_most 65 = .ok (.iload_n 2, 1) := by decide +kernel
theorem d_Rd_most_66 : decode b_Rd_most 66 = .ok (.ifCond .ne 7, 3) := by decide +kernel
theorem d_Rd_most_69 : decode b_Rd_most 69 = .ok (.iconst 5, 1) := by decide +kernel
theorem d_Rd_most_70 : decode b_Rd_most 70 = .ok (.goto 5, 3) := by decide +kernel
theorem d_Rd_most_73 : decode b_Rd_most 73 = .ok (.bipush 99, 2) := by decide +kernel
theorem d_Rd_most_75 : decode b_Rd_most 75 = .ok (.ireturn, 1) := by decide +kernel
theorem d_Rd_most_76 : decode b_Rd_most 76 = .ok (.iload_n 2, 1) := by decide +kernel
theorem d_Rd_most_77 : decode b_Rd_most 77 = .ok (.ifCond .ne 7, 3) := by decide +kernel
theorem d_Rd_most_80 : decode b_Rd_most 80 = .ok (.iconst 5, 1) := by decide +kernel
theorem d_Rd_most_81 : decode b_Rd_most 81 = .ok (.goto 16, 3) := by decide +kernel
theorem d_Rd_most_84 : decode b_Rd_most 84 = .ok (.iload_n 2, 1) := by decide +kernel
theorem d_Rd_most_85 : decode b_Rd_most 85 = .ok (.iconst 1, 1) := by decide +kernel
theorem d_Rd_most_86 : decode b_Rd_most 86 = .ok (.if_icmp .ne 10, 3) := by decide +kernel
theorem d_Rd_most_89 : decode b_Rd_most 89 = .ok (.aload_n 0, 1) := by decide +kernel
theorem d_Rd_most_90 : decode b_Rd_most 90 = .ok (.invokevirtual 77, 3) := by decide +kernel
theorem d_Rd_most_93 : decode b_Rd_most 93 = .ok (.goto 4, 3) := by decide +kernel
theorem d_Rd_most_96 : decode b_Rd_most 96 = .ok (.iconst 5, 1) := by decide +kernel
theorem d_Rd_most_97 : decode b_Rd_most 97 = .ok (.ireturn, 1) := by decide +kernel
theorem d_Rd_most_98 : decode b_Rd_most 98 = .ok (.aload_n 0, 1) := by decide +kernel
theorem d_Rd_most_99 : decode b_Rd_most 99 = .ok (.iload_n 2, 1) := by decide +kernel
theorem d_Rd_most_100 : decode b_Rd_most 100 = .ok (.invokevirtual 80, 3) := by decide +kernel
theorem d_Rd_most_103 : decode b_Rd_most 103 = .ok (.ireturn, 1) := by decide +kernel
theorem d_Rd_mostOfLeave_0 : decode b_Rd_mostOfLeave 0 = .ok (.iload_n 1, 1) := by decide +kernel
theorem d_Rd_mostOfLeave_1 : decode b_Rd_mostOfLeave 1 = .ok (.tableswitch 50 0 4 #[35, 45, 50, 50, 47], 35) := by decide +kernel
theorem d_Rd_mostOfLeave_36 : decode b_Rd_mostOfLeave 36 = .ok (.aload_n 0, 1) := by decide +kernel
theorem d_Rd_mostOfLeave_37 : decode b_Rd_mostOfLeave 37 = .ok (.getfield 19, 3) := by decide +kernel
theorem d_Rd_mostOfLeave_40 : decode b_Rd_mostOfLeave 40 = .ok (.getfield 69, 3) := by decide +kernel
theorem d_Rd_mostOfLeave_43 : decode b_Rd_mostOfLeave 43 = .ok (.iconst 1, 1) := by decide +kernel
theorem d_Rd_mostOfLeave_44 : decode b_Rd_mostOfLeave 44 = .ok (.isub, 1) := by decide +kernel
theorem d_Rd_mostOfLeave_45 : decode b_Rd_mostOfLeave 45 = .ok (.ireturn, 1) := by decide +kernel
theorem d_Rd_mostOfLeave_46 : decode b_Rd_mostOfLeave 46 = .ok (.iconst 5, 1) := by decide +kernel
theorem d_Rd_mostOfLeave_47 : decode b_Rd_mostOfLeave 47 = .ok (.ireturn, 1) := by decide +kernel
theorem d_Rd_mostOfLeave_48 : decode b_Rd_mostOfLeave 48 = .ok (.bipush 20, 2) := by decide +kernel
theorem d_Rd_mostOfLeave_50 : decode b_Rd_mostOfLeave 50 = .ok (.ireturn, 1) := by decide +kernel
theorem d_Rd_mostOfLeave_51 : decode b_Rd_mostOfLeave 51 = .ok (.bipush 23, 2) := by decide +kernel
theorem d_Rd_mostOfLeave_53 : decode b_Rd_mostOfLeave 53 = .ok (.ireturn, 1) := by decide +kernel
theorem d_Rd_lastCell_0 : decode b_Rd_lastCell 0 = .ok (.aload_n 0, 1) := by decide +kernel
theorem d_Rd_lastCell_1 : decode b_Rd_lastCell 1 = .ok (.getfield 19, 3) := by decide +kernel
theorem d_Rd_lastCell_4 : decode b_Rd_lastCell 4 = .ok (.getfield 83, 3) := by decide +kernel
theorem d_Rd_lastCell_7 : decode b_Rd_lastCell 7 = .ok (.aload_n 0, 1) := by decide +kernel
theorem d_Rd_lastCell_8 : decode b_Rd_lastCell 8 = .ok (.getfield 19, 3) := by decide +kernel
theorem d_Rd_lastCell_11 : decode b_Rd_lastCell 11 = .ok (.getfield 86, 3) := by decide +kernel
theorem d_Rd_lastCell_14 : decode b_Rd_lastCell 14 = .ok (.imul, 1) := by decide +kernel
theorem d_Rd_lastCell_15 : decode b_Rd_lastCell 15 = .ok (.iconst 1, 1) := by decide +kernel
theorem d_Rd_lastCell_16 : decode b_Rd_lastCell 16 = .ok (.isub, 1) := by decide +kernel
theorem d_Rd_lastCell_17 : decode b_Rd_lastCell 17 = .ok (.ireturn, 1) := by decide +kernel
theorem d_Rd_tell_0 : decode b_Rd_tell 0 = .ok (.iload_n 1, 1) := by decide +kernel
theorem d_Rd_tell_1 : decode b_Rd_tell 1 = .ok (.tableswitch 160 0 4 #[35, 57, 83, 109, 132], 35) := by decide +kernel
theorem d_Rd_tell_36 : decode b_Rd_tell 36 = .ok (.aload_n 0, 1) := by decide +kernel
theorem d_Rd_tell_37 : decode b_Rd_tell 37 = .ok (.getfield 19, 3) := by decide +kernel
theorem d_Rd_tell_40 : decode b_Rd_tell 40 = .ok (.aload_n 0, 1) := by decide +kernel
theorem d_Rd_tell_41 : decode b_Rd_tell 41 = .ok (.getfield 15, 3) := by decide +kernel
theorem d_Rd_tell_44 : decode b_Rd_tell 44 = .ok (.iconst 0, 1) := by decide +kernel
theorem d_Rd_tell_45 : decode b_Rd_tell 45 = .ok (.iaload, 1) := by decide +kernel
theorem d_Rd_tell_46 : decode b_Rd_tell 46 = .ok (.aload_n 0, 1) := by decide +kernel
theorem d_Rd_tell_47 : decode b_Rd_tell 47 = .ok (.getfield 15, 3) := by decide +kernel
theorem d_Rd_tell_50 : decode b_Rd_tell 50 = .ok (.iconst 1, 1) := by decide +kernel
theorem d_Rd_tell_51 : decode b_Rd_tell 51 = .ok (.iaload, 1) := by decide +kernel
theorem d_Rd_tell_52 : decode b_Rd_tell 52 = .ok (.invokevirtual 89, 3) := by decide +kernel
theorem d_Rd_tell_55 : decode b_Rd_tell 55 = .ok (.goto 143, 3) := by decide +kernel
theorem d_Rd_tell_58 : decode b_Rd_tell 58 = .ok (.aload_n 0, 1) := by decide +kernel
theorem d_Rd_tell_59 : decode b_Rd_tell 59 = .ok (.getfield 19, 3) := by decide +kernel
theorem d_Rd_tell_62 : decode b_Rd_tell 62 = .ok (.getfield 93, 3) := by decide +kernel
theorem d_Rd_tell_65 : decode b_Rd_tell 65 = .ok (.aload_n 0, 1) := by decide +kernel
theorem d_Rd_tell_66 : decode b_Rd_tell 66 = .ok (.getfield 15, 3) := by decide +kernel
theorem d_Rd_tell_69 : decode b_Rd_tell 69 = .ok (.iconst 0, 1) := by decide +kernel
theorem d_Rd_tell_70 : decode b_Rd_tell 70 = .ok (.iaload, 1) := by decide +kernel
theorem d_Rd_tell_71 : decode b_Rd_tell 71 = .ok (.aload_n 0, 1) := by decide +kernel
theorem d_Rd_tell_72 : decode b_Rd_tell 72 = .ok (.getfield 15, 3) := by decide +kernel
theorem d_Rd_tell_75 : decode b_Rd_tell 75 = .ok (.iconst 1, 1) := by decide +kernel
theorem d_Rd_tell_76 : decode b_Rd_tell 76 = .ok (.iaload, 1) := by decide +kernel
theorem d_Rd_tell_77 : decode b_Rd_tell 77 = .ok (.invokestatic 97, 3) := by decide +kernel
theorem d_Rd_tell_80 : decode b_Rd_tell 80 = .ok (.pop, 1) := by decide +kernel
theorem d_Rd_tell_81 : decode b_Rd_tell 81 = .ok (.goto 117, 3) := by decide +kernel
theorem d_Rd_tell_84 : decode b_Rd_tell 84 = .ok (.aload_n 0, 1) := by decide +kernel
theorem d_Rd_tell_85 : decode b_Rd_tell 85 = .ok (.getfield 19, 3) := by decide +kernel
theorem d_Rd_tell_88 : decode b_Rd_tell 88 = .ok (.getfield 101, 3) := by decide +kernel
theorem d_Rd_tell_91 : decode b_Rd_tell 91 = .ok (.aload_n 0, 1) := by decide +kernel
theorem d_Rd_tell_92 : decode b_Rd_tell 92 = .ok (.getfield 15, 3) := by decide +kernel
theorem d_Rd_tell_95 : decode b_Rd_tell 95 = .ok (.iconst 0, 1) := by decide +kernel
theorem d_Rd_tell_96 : decode b_Rd_tell 96 = .ok (.iaload, 1) := by decide +kernel
theorem d_Rd_tell_97 : decode b_Rd_tell 97 = .ok (.aload_n 0, 1) := by decide +kernel
theorem d_Rd_tell_98 : decode b_Rd_tell 98 = .ok (.getfield 15, 3) := by decide +kernel
theorem d_Rd_tell_101 : decode b_Rd_tell 101 = .ok (.iconst 1, 1) := by decide +kernel
theorem d_Rd_tell_102 : decode b_Rd_tell 102 = .ok (.iaload, 1) := by decide +kernel
theorem d_Rd_tell_103 : decode b_Rd_tell 103 = .ok (.invokestatic 97, 3) := by decide +kernel
theorem d_Rd_tell_106 : decode b_Rd_tell 106 = .ok (.pop, 1) := by decide +kernel
theorem d_Rd_tell_107 : decode b_Rd_tell 107 = .ok (.goto 91, 3) := by decide +kernel
theorem d_Rd_tell_110 : decode b_Rd_tell 110 = .ok (.aload_n 0, 1) := by decide +kernel
theorem d_Rd_tell_111 : decode b_Rd_tell 111 = .ok (.getfield 19, 3) := by decide +kernel
theorem d_Rd_tell_114 : decode b_Rd_tell 114 = .ok (.aload_n 0, 1) := by decide +kernel
theorem d_Rd_tell_115 : decode b_Rd_tell 115 = .ok (.getfield 15, 3) := by decide +kernel
theorem d_Rd_tell_118 : decode b_Rd_tell 118 = .ok (.iconst 0, 1) := by decide +kernel
theorem d_Rd_tell_119 : decode b_Rd_tell 119 = .ok (.iaload, 1) := by decide +kernel
theorem d_Rd_tell_120 : decode b_Rd_tell 120 = .ok (.aload_n 0, 1) := by decide +kernel
theorem d_Rd_tell_121 : decode b_Rd_tell 121 = .ok (.getfield 15, 3) := by decide +kernel
theorem d_Rd_tell_124 : decode b_Rd_tell 124 = .ok (.iconst 1, 1) := by decide +kernel
theorem d_Rd_tell_125 : decode b_Rd_tell 125 = .ok (.iaload, 1) := by decide +kernel
theorem d_Rd_tell_126 : decode b_Rd_tell 126 = .ok (.invokevirtual 104, 3) := by decide +kernel
theorem d_Rd_tell_129 : decode b_Rd_tell 129 = .ok (.pop, 1) := by decide +kernel
theorem d_Rd_tell_130 : decode b_Rd_tell 130 = .ok (.goto 68, 3) := by decide +kernel
theorem d_Rd_tell_133 : decode b_Rd_tell 133 = .ok (.aload_n 0, 1) := by decide +kernel
theorem d_Rd_tell_134 : decode b_Rd_tell 134 = .ok (.getfield 19, 3) := by decide +kernel
theorem d_Rd_tell_137 : decode b_Rd_tell 137 = .ok (.aload_n 0, 1) := by decide +kernel
theorem d_Rd_tell_138 : decode b_Rd_tell 138 = .ok (.getfield 15, 3) := by decide +kernel
theorem d_Rd_tell_141 : decode b_Rd_tell 141 = .ok (.iconst 0, 1) := by decide +kernel
theorem d_Rd_tell_142 : decode b_Rd_tell 142 = .ok (.iaload, 1) := by decide +kernel
theorem d_Rd_tell_143 : decode b_Rd_tell 143 = .ok (.aload_n 0, 1) := by decide +kernel
theorem d_Rd_tell_144 : decode b_Rd_tell 144 = .ok (.getfield 15, 3) := by decide +kernel
theorem d_Rd_tell_147 : decode b_Rd_tell 147 = .ok (.iconst 1, 1) := by decide +kernel
theorem d_Rd_tell_148 : decode b_Rd_tell 148 = .ok (.iaload, 1) := by decide +kernel
theorem d_Rd_tell_149 : decode b_Rd_tell 149 = .ok (.aload_n 0, 1) := by decide +kernel
theorem d_Rd_tell_150 : decode b_Rd_tell 150 = .ok (.getfield 15, 3) := by decide +kernel
theorem d_Rd_tell_153 : decode b_Rd_tell 153 = .ok (.iconst 2, 1) := by decide +kernel
theorem d_Rd_tell_154 : decode b_Rd_tell 154 = .ok (.iaload, 1) := by decide +kernel
theorem d_Rd_tell_155 : decode b_Rd_tell 155 = .ok (.invokevirtual 107, 3) := by decide +kernel
theorem d_Rd_tell_158 : decode b_Rd_tell 158 = .ok (.goto 40, 3) := by decide +kernel
theorem d_Rd_tell_161 : decode b_Rd_tell 161 = .ok (.aload_n 0, 1) := by decide +kernel
theorem d_Rd_tell_162 : decode b_Rd_tell 162 = .ok (.getfield 19, 3) := by decide +kernel
theorem d_Rd_tell_165 : decode b_Rd_tell 165 = .ok (.aload_n 0, 1) := by decide +kernel
theorem d_Rd_tell_166 : decode b_Rd_tell 166 = .ok (.getfield 15, 3) := by decide +kernel
theorem d_Rd_tell_169 : decode b_Rd_tell 169 = .ok (.iconst 0, 1) := by decide +kernel
theorem d_Rd_tell_170 : decode b_Rd_tell 170 = .ok (.iaload, 1) := by decide +kernel
theorem d_Rd_tell_171 : decode b_Rd_tell 171 = .ok (.aload_n 0, 1) := by decide +kernel
theorem d_Rd_tell_172 : decode b_Rd_tell 172 = .ok (.getfield 15, 3) := by decide +kernel
theorem d_Rd_tell_175 : decode b_Rd_tell 175 = .ok (.iconst 1, 1) := by decide +kernel
theorem d_Rd_tell_176 : decode b_Rd_tell 176 = .ok (.iaload, 1) := by decide +kernel
theorem d_Rd_tell_177 : decode b_Rd_tell 177 = .ok (.aload_n 0, 1) := by decide +kernel
theorem d_Rd_tell_178 : decode b_Rd_tell 178 = .ok (.getfield 15, 3) := by decide +kernel
theorem d_Rd_tell_181 : decode b_Rd_tell 181 = .ok (.iconst 2, 1) := by decide +kernel
theorem d_Rd_tell_182 : decode b_Rd_tell 182 = .ok (.iaload, 1) := by decide +kernel
theorem d_Rd_tell_183 : decode b_Rd_tell 183 = .ok (.aload_n 0, 1) := by decide +kernel
theorem d_Rd_tell_184 : decode b_Rd_tell 184 = .ok (.getfield 15, 3) := by decide +kernel
theorem d_Rd_tell_187 : decode b_Rd_tell 187 = .ok (.iconst 3, 1) := by decide +kernel
theorem d_Rd_tell_188 : decode b_Rd_tell 188 = .ok (.iaload, 1) := by decide +kernel
theorem d_Rd_tell_189 : decode b_Rd_tell 189 = .ok (.aload_n 0, 1) := by decide +kernel
theorem d_Rd_tell_190 : decode b_Rd_tell 190 = .ok (.getfield 15, 3) := by decide +kernel
theorem d_Rd_tell_193 : decode b_Rd_tell 193 = .ok (.iconst 4, 1) := by decide +kernel
theorem d_Rd_tell_194 : decode b_Rd_tell 194 = .ok (.iaload, 1) := by decide +kernel
theorem d_Rd_tell_195 : decode b_Rd_tell 195 = .ok (.invokevirtual 111, 3) := by decide +kernel
theorem d_Rd_tell_198 : decode b_Rd_tell 198 = .ok (.return_, 1) := by decide +kernel
theorem d_Rd_nextToken_0 : decode b_Rd_nextToken 0 = .ok (.aload_n 0, 1) := by decide +kernel
theorem d_Rd_nextToken_1 : decode b_Rd_nextToken 1 = .ok (.aload_n 0, 1) := by decide +kernel
theorem d_Rd_nextToken_2 : decode b_Rd_nextToken 2 = .ok (.getfield 27, 3) := by decide +kernel
theorem d_Rd_nextToken_5 : decode b_Rd_nextToken 5 = .ok (.putfield 40, 3) := by decide +kernel
theorem d_Rd_nextToken_8 : decode b_Rd_nextToken 8 = .ok (.aload_n 0, 1) := by decide +kernel
theorem d_Rd_nextToken_9 : decode b_Rd_nextToken 9 = .ok (.getfield 40, 3) := by decide +kernel
theorem d_Rd_nextToken_12 : decode b_Rd_nextToken 12 = .ok (.aload_n 0, 1) := by decide +kernel
theorem d_Rd_nextToken_13 : decode b_Rd_nextToken 13 = .ok (.getfield 23, 3) := by decide +kernel
theorem d_Rd_nextToken_16 : decode b_Rd_nextToken 16 = .ok (.if_icmp .ge 29, 3) := by decide +kernel
theorem d_Rd_nextToken_19 : decode b_Rd_nextToken 19 = .ok (.aload_n 0, 1) := by decide +kernel
theorem d_Rd_nextToken_20 : decode b_Rd_nextToken 20 = .ok (.aload_n 0, 1) := by decide +kernel
theorem d_Rd_nextToken_21 : decode b_Rd_nextToken 21 = .ok (.getfield 40, 3) := by decide +kernel
theorem d_Rd_nextToken_24 : decode b_Rd_nextToken 24 = .ok (.invokevirtual 115, 3) := by decide +kernel
theorem d_Rd_nextToken_27 : decode b_Rd_nextToken 27 = .ok (.bipush 32, 2) := by decide +kernel
theorem d_Rd_nextToken_29 : decode b_Rd_nextToken 29 = .ok (.if_icmp .ne 16, 3) := by decide +kernel
theorem d_Rd_nextToken_32 : decode b_Rd_nextToken 32 = .ok (.aload_n 0, 1) := by decide +kernel
theorem d_Rd_nextToken_33 : decode b_Rd_nextToken 33 = .ok (.dup, 1) := by decide +kernel
theorem d_Rd_nextToken_34 : decode b_Rd_nextToken 34 = .ok (.getfield 40, 3) := by decide +kernel
theorem d_Rd_nextToken_37 : decode b_Rd_nextToken 37 = .ok (.iconst 1, 1) := by decide +kernel
theorem d_Rd_nextToken_38 : decode b_Rd_nextToken 38 = .ok (.iadd, 1) := by decide +kernel
theorem d_Rd_nextToken_39 : decode b_Rd_nextToken 39 = .ok (.putfield 40, 3) := by decide +kernel
theorem d_Rd_nextToken_42 : decode b_Rd_nextToken 42 = .ok (.goto (-34), 3) := by decide +kernel
theorem d_Rd_nextToken_45 : decode b_Rd_nextToken 45 = .ok (.aload_n 0, 1) := by decide +kernel
theorem d_Rd_nextToken_46 : decode b_Rd_nextToken 46 = .ok (.aload_n 0, 1) := by decide +kernel
theorem d_Rd_nextToken_47 : decode b_Rd_nextToken 47 = .ok (.getfield 40, 3) := by decide +kernel
theorem d_Rd_nextToken_50 : decode b_Rd_nextToken 50 = .ok (.putfield 27, 3) := by decide +kernel
theorem d_Rd_nextToken_53 : decode b_Rd_nextToken 53 = .ok (.aload_n 0, 1) := by decide +kernel
theorem d_Rd_nextToken_54 : decode b_Rd_nextToken 54 = .ok (.getfield 40, 3) := by decide +kernel
theorem d_Rd_nextToken_57 : decode b_Rd_nextToken 57 = .ok (.aload_n 0, 1) := by decide +kernel
theorem d_Rd_nextToken_58 : decode b_Rd_nextToken 58 = .ok (.getfield 23, 3) := by decide +kernel
theorem d_Rd_nextToken_61 : decode b_Rd_nextToken 61 = .ok (.if_icmp .lt 11, 3) := by decide +kernel
theorem d_Rd_nextToken_64 : decode b_Rd_nextToken 64 = .ok (.aload_n 0, 1) := by decide +kernel
theorem d_Rd_nextToken_65 : decode b_Rd_nextToken 65 = .ok (.iconst 0, 1) := by decide +kernel
theorem d_Rd_nextToken_66 : decode b_Rd_nextToken 66 = .ok (.putfield 33, 3) := by decide +kernel
theorem d_Rd_nextToken_69 : decode b_Rd_nextToken 69 = .ok (.goto 172, 3) := by decide +kernel
theorem d_Rd_nextToken_72 : decode b_Rd_nextToken 72 = .ok (.aload_n 0, 1) := by decide +kernel
theorem d_Rd_nextToken_73 : decode b_Rd_nextToken 73 = .ok (.aload_n 0, 1) := by decide +kernel
theorem d_Rd_nextToken_74 : decode b_Rd_nextToken 74 = .ok (.getfield 40, 3) := by decide +kernel
theorem d_Rd_nextToken_77 : decode b_Rd_nextToken 77 = .ok (.invokevirtual 115, 3) := by decide +kernel
theorem d_Rd_nextToken_80 : decode b_Rd_nextToken 80 = .ok (.invokestatic 118, 3) := by decide +kernel
theorem d_Rd_nextToken_83 : decode b_Rd_nextToken 83 = .ok (.ifCond .eq 49, 3) := by decide +kernel
theorem d_Rd_nextToken_86 : decode b_Rd_nextToken 86 = .ok (.aload_n 0, 1) := by decide +kernel
theorem d_Rd_nextToken_87 : decode b_Rd_nextToken 87 = .ok (.getfield 27, 3) := by decide +kernel
theorem d_Rd_nextToken_90 : decode b_Rd_nextToken 90 = .ok (.aload_n 0, 1) := by decide +kernel
theorem d_Rd_nextToken_91 : decode b_Rd_nextToken 91 = .ok (.getfield 23, 3) := by decide +kernel
theorem d_Rd_nextToken_94 : decode b_Rd_nextToken 94 = .ok (.if_icmp .ge 30, 3) := by decide +kernel
theorem d_Rd_nextToken_97 : decode b_Rd_nextToken 97 = .ok (.aload_n 0, 1) := by decide +kernel
theorem d_Rd_nextToken_98 : decode b_Rd_nextToken 98 = .ok (.aload_n 0, 1) := by decide +kernel
theorem d_Rd_nextToken_99 : decode b_Rd_nextToken 99 = .ok (.getfield 27, 3) := by decide +kernel
theorem d_Rd_nextToken_102 : decode b_Rd_nextToken 102 = .ok (.invokevirtual 115, 3) := by decide +kernel
theorem d_Rd_nextToken_105 : decode b_Rd_nextToken 105 = .ok (.invokestatic 118, 3) := by decide +kernel
theorem d_Rd_nextToken_108 : decode b_Rd_nextToken 108 = .ok (.ifCond .eq 16, 3) := by decide +kernel
theorem d_Rd_nextToken_111 : decode b_Rd_nextToken 111 = .ok (.aload_n 0, 1) := by decide +kernel
theorem d_Rd_nextToken_112 : decode b_Rd_nextToken 112 = .ok (.dup, 1) := by decide +kernel
theorem d_Rd_nextToken_113 : decode b_Rd_nextToken 113 = .ok (.getfield 27, 3) := by decide +kernel
theorem d_Rd_nextToken_116 : decode b_Rd_nextToken 116 = .ok (.iconst 1, 1) := by decide +kernel
theorem d_Rd_nextToken_117 : decode b_Rd_nextToken 117 = .ok (.iadd, 1) := by decide +kernel
theorem d_Rd_nextToken_118 : decode b_Rd_nextToken 118 = .ok (.putfield 27, 3) := by decide +kernel
theorem d_Rd_nextToken_121 : decode b_Rd_nextToken 121 = .ok (.goto (-35), 3) := by decide +kernel
theorem d_Rd_nextToken_124 : decode b_Rd_nextToken 124 = .ok (.aload_n 0, 1) := by decide +kernel
theorem d_Rd_nextToken_125 : decode b_Rd_nextToken 125 = .ok (.iconst 1, 1) := by decide +kernel
theorem d_Rd_nextToken_126 : decode b_Rd_nextToken 126 = .ok (.putfield 33, 3) := by decide +kernel
theorem d_Rd_nextToken_129 : decode b_Rd_nextToken 129 = .ok (.goto 112, 3) := by decide +kernel
theorem d_Rd_nextToken_132 : decode b_Rd_nextToken 132 = .ok (.aload_n 0, 1) := by decide +kernel
theorem d_Rd_nextToken_133 : decode b_Rd_nextToken 133 = .ok (.aload_n 0, 1) := by decide +kernel
theorem d_Rd_nextToken_134 : decode b_Rd_nextToken 134 = .ok (.getfield 40, 3) := by decide +kernel
theorem d_Rd_nextToken_137 : decode b_Rd_nextToken 137 = .ok (.invokevirtual 115, 3) := by decide +kernel
theorem d_Rd_nextToken_140 : decode b_Rd_nextToken 140 = .ok (.invokestatic 121, 3) := by decide +kernel
theorem d_Rd_nextToken_143 : decode b_Rd_nextToken 143 = .ok (.ifCond .eq 66, 3) := by decide +kernel
theorem d_Rd_nextToken_146 : decode b_Rd_nextToken 146 = .ok (.aload_n 0, 1) := by decide +kernel
theorem d_Rd_nextToken_147 : decode b_Rd_nextToken 147 = .ok (.getfield 27, 3) := by decide +kernel
theorem d_Rd_nextToken_150 : decode b_Rd_nextToken 150 = .ok (.aload_n 0, 1) := by decide +kernel
theorem d_Rd_nextToken_151 : decode b_Rd_nextToken 151 = .ok (.getfield 23, 3) := by decide +kernel
theorem d_Rd_nextToken_154 : decode b_Rd_nextToken 154 = .ok (.if_icmp .ge 30, 3) := by decide +kernel
theorem d_Rd_nextToken_157 : decode b_Rd_nextToken 157 = .ok (.aload_n 0, 1) := by decide +kernel
theorem d_Rd_nextToken_158 : decode b_Rd_nextToken 158 = .ok (.aload_n 0, 1) := by decide +kernel
theorem d_Rd_nextToken_159 : decode b_Rd_nextToken 159 = .ok (.getfield 27, 3) := by decide +kernel
theorem d_Rd_nextToken_162 : decode b_Rd_nextToken 162 = .ok (.invokevirtual 115, 3) := by decide +kernel
theorem d_Rd_nextToken_165 : decode b_Rd_nextToken 165 = .ok (.invokestatic 121, 3) := by decide +kernel
theorem d_Rd_nextToken_168 : decode b_Rd_nextToken 168 = .ok (.ifCond .eq 16, 3) := by decide +kernel
theorem d_Rd_nextToken_171 : decode b_Rd_nextToken 171 = .ok (.aload_n 0, 1) := by decide +kernel
theorem d_Rd_nextToken_172 : decode b_Rd_nextToken 172 = .ok (.dup, 1) := by decide +kernel
theorem d_Rd_nextToken_173 : decode b_Rd_nextToken 173 = .ok (.getfield 27, 3) := by decide +kernel
theorem d_Rd_nextToken_176 : decode b_Rd_nextToken 176 = .ok (.iconst 1, 1) := by decide +kernel
theorem d_Rd_nextToken_177 : decode b_Rd_nextToken 177 = .ok (.iadd, 1) := by decide +kernel
theorem d_Rd_nextToken_178 : decode b_Rd_nextToken 178 = .ok (.putfield 27, 3) := by decide +kernel
theorem d_Rd_nextToken_181 : decode b_Rd_nextToken 181 = .ok (.goto (-35), 3) := by decide +kernel
theorem d_Rd_nextToken_184 : decode b_Rd_nextToken 184 = .ok (.aload_n 0, 1) := by decide +kernel
theorem d_Rd_nextToken_185 : decode b_Rd_nextToken 185 = .ok (.aload_n 0, 1) := by decide +kernel
theorem d_Rd_nextToken_186 : decode b_Rd_nextToken 186 = .ok (.getfield 27, 3) := by decide +kernel
theorem d_Rd_nextToken_189 : decode b_Rd_nextToken 189 = .ok (.aload_n 0, 1) := by decide +kernel
theorem d_Rd_nextToken_190 : decode b_Rd_nextToken 190 = .ok (.getfield 40, 3) := by decide +kernel
theorem d_Rd_nextToken_193 : decode b_Rd_nextToken 193 = .ok (.isub, 1) := by decide +kernel
theorem d_Rd_nextToken_194 : decode b_Rd_nextToken 194 = .ok (.iconst 2, 1) := by decide +kernel
theorem d_Rd_nextToken_195 : decode b_Rd_nextToken 195 = .ok (.if_icmp .le 7, 3) := by decide +kernel
theorem d_Rd_nextToken_198 : decode b_Rd_nextToken 198 = .ok (.iconst 4, 1) := by decide +kernel
theorem d_Rd_nextToken_199 : decode b_Rd_nextToken 199 = .ok (.goto 4, 3) := by decide +kernel
theorem d_Rd_nextToken_202 : decode b_Rd_nextToken 202 = .ok (.iconst 2, 1) := by decide +kernel
theorem d_Rd_nextToken_203 : decode b_Rd_nextToken 203 = .ok (.putfield 33, 3) := by decide +kernel
theorem d_Rd_nextToken_206 : decode b_Rd_nextToken 206 = .ok (.goto 35, 3) := by decide +kernel
theorem d_Rd_nextToken_209 : decode b_Rd_nextToken 209 = .ok (.aload_n 0, 1) := by decide +kernel
theorem d_Rd_nextToken_210 : decode b_Rd_nextToken 210 = .ok (.dup, 1) := by decide +kernel
theorem d_Rd_nextToken_211 : decode b_Rd_nextToken 211 = .ok (.getfield 27, 3) := by decide +kernel
theorem d_Rd_nextToken_214 : decode b_Rd_nextToken 214 = .ok (.iconst 1, 1) := by decide +kernel
theorem d_Rd_nextToken_215 : decode b_Rd_nextToken 215 = .ok (.iadd, 1) := by decide +kernel
theorem d_Rd_nextToken_216 : decode b_Rd_nextToken 216 = .ok (.putfield 27, 3) := by decide +kernel
theorem d_Rd_nextToken_219 : decode b_Rd_nextToken 219 = .ok (.aload_n 0, 1) := by decide +kernel
theorem d_Rd_nextToken_220 : decode b_Rd_nextToken 220 = .ok (.aload_n 0, 1) := by decide +kernel
theorem d_Rd_nextToken_221 : decode b_Rd_nextToken 221 = .ok (.aload_n 0, 1) := by decide +kernel
theorem d_Rd_nextToken_222 : decode b_Rd_nextToken 222 = .ok (.getfield 40, 3) := by decide +kernel
theorem d_Rd_nextToken_225 : decode b_Rd_nextToken 225 = .ok (.invokevirtual 115, 3) := by decide +kernel
theorem d_Rd_nextToken_228 : decode b_Rd_nextToken 228 = .ok (.bipush 59, 2) := by decide +kernel
theorem d_Rd_nextToken_230 : decode b_Rd_nextToken 230 = .ok (.if_icmp .ne 7, 3) := by decide +kernel
theorem d_Rd_nextToken_233 : decode b_Rd_nextToken 233 = .ok (.iconst 3, 1) := by decide +kernel
theorem d_Rd_nextToken_234 : decode b_Rd_nextToken 234 = .ok (.goto 4, 3) := by decide +kernel
theorem d_Rd_nextToken_237 : decode b_Rd_nextToken 237 = .ok (.iconst 4, 1) := by decide +kernel
theorem d_Rd_nextToken_238 : decode b_Rd_nextToken 238 = .ok (.putfield 33, 3) := by decide +kernel
theorem d_Rd_nextToken_241 : decode b_Rd_nextToken 241 = .ok (.return_, 1) := by decide +kernel
theorem d_Rd_wordAtPlace_0 : decode b_Rd_wordAtPlace 0 = .ok (.iconst 0, 1) := by decide +kernel
theorem d_Rd_wordAtPlace_1 : decode b_Rd_wordAtPlace 1 = .ok (.istore_n 1, 1) := by decide +kernel
theorem d_Rd_wordAtPlace_2 : decode b_Rd_wordAtPlace 2 = .ok (.iload_n 1, 1) := by decide +kernel
theorem d_Rd_wordAtPlace_3 : decode b_Rd_wordAtPlace 3 = .ok (.bipush 6, 2) := by decide +kernel
theorem d_Rd_wordAtPlace_5 : decode b_Rd_wordAtPlace 5 = .ok (.if_icmp .ge 22, 3) := by decide +kernel
theorem d_Rd_wordAtPlace_8 : decode b_Rd_wordAtPlace 8 = .ok (.aload_n 0, 1) := by decide +kernel
theorem d_Rd_wordAtPlace_9 : decode b_Rd_wordAtPlace 9 = .ok (.iload_n 1, 1) := by decide +kernel
theorem d_Rd_wordAtPlace_10 : decode b_Rd_wordAtPlace 10 = .ok (.invokestatic 124, 3) := by decide +kernel
theorem d_Rd_wordAtPlace_13 : decode b_Rd_wordAtPlace 13 = .ok (.invokevirtual 128, 3) := by decide +kernel
theorem d_Rd_wordAtPlace_16 : decode b_Rd_wordAtPlace 16 = .ok (.ifCond .eq 5, 3) := by decide +kernel
theorem d_Rd_wordAtPlace_19 : decode b_Rd_wordAtPlace 19 = .ok (.iload_n 1, 1) := by decide +kernel
theorem d_Rd_wordAtPlace_20 : decode b_Rd_wordAtPlace 20 = .ok (.ireturn, 1) := by decide +kernel
theorem d_Rd_wordAtPlace_21 : decode b_Rd_wordAtPlace 21 = .ok (.iinc 1 1, 3) := by decide +kernel
theorem d_Rd_wordAtPlace_24 : decode b_Rd_wordAtPlace 24 = .ok (.goto (-22), 3) := by decide +kernel
theorem d_Rd_wordAtPlace_27 : decode b_Rd_wordAtPlace 27 = .ok (.bipush 6, 2) := by decide +kernel
theorem d_Rd_wordAtPlace_29 : decode b_Rd_wordAtPlace 29 = .ok (.ireturn, 1) := by decide +kernel
theorem d_Rd_spelling_0 : decode b_Rd_spelling 0 = .ok (.iload_n 0, 1) := by decide +kernel
theorem d_Rd_spelling_1 : decode b_Rd_spelling 1 = .ok (.tableswitch 50 0 4 #[35, 38, 41, 44, 47], 35) := by decide +kernel
theorem d_Rd_spelling_36 : decode b_Rd_spelling 36 = .ok (.ldc 132, 2) := by decide +kernel
theorem d_Rd_spelling_38 : decode b_Rd_spelling 38 = .ok (.areturn, 1) := by decide +kernel
theorem d_Rd_spelling_39 : decode b_Rd_spelling 39 = .ok (.ldc 134, 2) := by decide +kernel
theorem d_Rd_spelling_41 : decode b_Rd_spelling 41 = .ok (.areturn, 1) := by decide +kernel
theorem d_Rd_spelling_42 : decode b_Rd_spelling 42 = .ok (.ldc 136, 2) := by decide +kernel
theorem d_Rd_spelling_44 : decode b_Rd_spelling 44 = .ok (.areturn, 1) := by decide +kernel
theorem d_Rd_spelling_45 : decode b_Rd_spelling 45 = .ok (.ldc 138, 2) := by decide +kernel
theorem d_Rd_spelling_47 : decode b_Rd_spelling 47 = .ok (.areturn, 1) := by decide +kernel
theorem d_Rd_spelling_48 : decode b_Rd_spelling 48 = .ok (.ldc 140, 2) := by decide +kernel
theorem d_Rd_spelling_50 : decode b_Rd_spelling 50 = .ok (.areturn, 1) := by decide +kernel
theorem d_Rd_spelling_51 : decode b_Rd_spelling 51 = .ok (.ldc 142, 2) := by decide +kernel
theorem d_Rd_spelling_53 : decode b_Rd_spelling 53 = .ok (.areturn, 1) := by decide +kernel
theorem d_Rd_isAtPlace_0 : decode b_Rd_isAtPlace 0 = .ok (.aload_n 0, 1) := by decide +kernel
theorem d_Rd_isAtPlace_1 : decode b_Rd_isAtPlace 1 = .ok (.getfield 27, 3) := by decide +kernel
theorem d_Rd_isAtPlace_4 : decode b_Rd_isAtPlace 4 = .ok (.aload_n 0, 1) := by decide +kernel
theorem d_Rd_isAtPlace_5 : decode b_Rd_isAtPlace 5 = .ok (.getfield 40, 3) := by decide +kernel
theorem d_Rd_isAtPlace_8 : decode b_Rd_isAtPlace 8 = .ok (.isub, 1) := by decide +kernel
theorem d_Rd_isAtPlace_9 : decode b_Rd_isAtPlace 9 = .ok (.aload_n 1, 1) := by decide +kernel
theorem d_Rd_isAtPlace_10 : decode b_Rd_isAtPlace 10 = .ok (.invokevirtual 144, 3) := by decide +kernel
theorem d_Rd_isAtPlace_13 : decode b_Rd_isAtPlace 13 = .ok (.if_icmp .eq 5, 3) := by decide +kernel
theorem d_Rd_isAtPlace_16 : decode b_Rd_isAtPlace 16 = .ok (.iconst 0, 1) := by decide +kernel
theorem d_Rd_isAtPlace_17 : decode b_Rd_isAtPlace 17 = .ok (.ireturn, 1) := by decide +kernel
theorem d_Rd_isAtPlace_18 : decode b_Rd_isAtPlace 18 = .ok (.iconst 0, 1) := by decide +kernel
theorem d_Rd_isAtPlace_19 : decode b_Rd_isAtPlace 19 = .ok (.istore_n 2, 1) := by decide +kernel
theorem d_Rd_isAtPlace_20 : decode b_Rd_isAtPlace 20 = .ok (.iload_n 2, 1) := by decide +kernel
theorem d_Rd_isAtPlace_21 : decode b_Rd_isAtPlace 21 = .ok (.aload_n 1, 1) := by decide +kernel
theorem d_Rd_isAtPlace_22 : decode b_Rd_isAtPlace 22 = .ok (.invokevirtual 144, 3) := by decide +kernel
theorem d_Rd_isAtPlace_25 : decode b_Rd_isAtPlace 25 = .ok (.if_icmp .ge 29, 3) := by decide +kernel
theorem d_Rd_isAtPlace_28 : decode b_Rd_isAtPlace 28 = .ok (.aload_n 0, 1) := by decide +kernel
theorem d_Rd_isAtPlace_29 : decode b_Rd_isAtPlace 29 = .ok (.aload_n 0, 1) := by decide +kernel
theorem d_Rd_isAtPlace_30 : decode b_Rd_isAtPlace 30 = .ok (.getfield 40, 3) := by decide +kernel
theorem d_Rd_isAtPlace_33 : decode b_Rd_isAtPlace 33 = .ok (.iload_n 2, 1) := by decide +kernel
theorem d_Rd_isAtPlace_34 : decode b_Rd_isAtPlace 34 = .ok (.iadd, 1) := by decide +kernel
theorem d_Rd_isAtPlace_35 : decode b_Rd_isAtPlace 35 = .ok (.invokevirtual 115, 3) := by decide +kernel
theorem d_Rd_isAtPlace_38 : decode b_Rd_isAtPlace 38 = .ok (.aload_n 1, 1) := by decide +kernel
theorem d_Rd_isAtPlace_39 : decode b_Rd_isAtPlace 39 = .ok (.iload_n 2, 1) := by decide +kernel
theorem d_Rd_isAtPlace_40 : decode b_Rd_isAtPlace 40 = .ok (.invokevirtual 148, 3) := by decide +kernel
theorem d_Rd_isAtPlace_43 : decode b_Rd_isAtPlace 43 = .ok (.if_icmp .eq 5, 3) := by decide +kernel
theorem d_Rd_isAtPlace_46 : decode b_Rd_isAtPlace 46 = .ok (.iconst 0, 1) := by decide +kernel
theorem d_Rd_isAtPlace_47 : decode b_Rd_isAtPlace 47 = .ok (.ireturn, 1) := by decide +kernel
theorem d_Rd_isAtPlace_48 : decode b_Rd_isAtPlace 48 = .ok (.iinc 2 1, 3) := by decide +kernel
theorem d_Rd_isAtPlace_51 : decode b_Rd_isAtPlace 51 = .ok (.goto (-31), 3) := by decide +kernel
theorem d_Rd_isAtPlace_54 : decode b_Rd_isAtPlace 54 = .ok (.iconst 1, 1) := by decide +kernel
theorem d_Rd_isAtPlace_55 : decode b_Rd_isAtPlace 55 = .ok (.ireturn, 1) := by decide +kernel
theorem d_Rd_numberAtPlace_0 : decode b_Rd_numberAtPlace 0 = .ok (.iconst 0, 1) := by decide +kernel
theorem d_Rd_numberAtPlace_1 : decode b_Rd_numberAtPlace 1 = .ok (.istore_n 1, 1) := by decide +kernel
theorem d_Rd_numberAtPlace_2 : decode b_Rd_numberAtPlace 2 = .ok (.aload_n 0, 1) := by decide +kernel
theorem d_Rd_numberAtPlace_3 : decode b_Rd_numberAtPlace 3 = .ok (.getfield 40, 3) := by decide +kernel
theorem d_Rd_numberAtPlace_6 : decode b_Rd_numberAtPlace 6 = .ok (.istore_n 2, 1) := by decide +kernel
theorem d_Rd_numberAtPlace_7 : decode b_Rd_numberAtPlace 7 = .ok (.iload_n 2, 1) := by decide +kernel
theorem d_Rd_numberAtPlace_8 : decode b_Rd_numberAtPlace 8 = .ok (.aload_n 0, 1) := by decide +kernel
theorem d_Rd_numberAtPlace_9 : decode b_Rd_numberAtPlace 9 = .ok (.getfield 27, 3) := by decide +kernel
theorem d_Rd_numberAtPlace_12 : decode b_Rd_numberAtPlace 12 = .ok (.if_icmp .ge 23, 3) := by decide +kernel
theorem d_Rd_numberAtPlace_15 : decode b_Rd_numberAtPlace 15 = .ok (.bipush 10, 2) := by decide +kernel
theorem d_Rd_numberAtPlace_17 : decode b_Rd_numberAtPlace 17 = .ok (.iload_n 1, 1) := by decide +kernel
theorem d_Rd_numberAtPlace_18 : decode b_Rd_numberAtPlace 18 = .ok (.imul, 1) := by decide +kernel
theorem d_Rd_numberAtPlace_19 : decode b_Rd_numberAtPlace 19 = .ok (.aload_n 0, 1) := by decide +kernel
theorem d_Rd_numberAtPlace_20 : decode b_Rd_numberAtPlace 20 = .ok (.iload_n 2, 1) := by decide +kernel
theorem d_Rd_numberAtPlace_21 : decode b_Rd_numberAtPlace 21 = .ok (.invokevirtual 115, 3) := by decide +kernel
theorem d_Rd_numberAtPlace_24 : decode b_Rd_numberAtPlace 24 = .ok (.iadd, 1) := by decide +kernel
theorem d_Rd_numberAtPlace_25 : decode b_Rd_numberAtPlace 25 = .ok (.bipush 48, 2) := by decide +kernel
theorem d_Rd_numberAtPlace_27 : decode b_Rd_numberAtPlace 27 = .ok (.isub, 1) := by decide +kernel
theorem d_Rd_numberAtPlace_28 : decode b_Rd_numberAtPlace 28 = .ok (.istore_n 1, 1) := by decide +kernel
theorem d_Rd_numberAtPlace_29 : decode b_Rd_numberAtPlace 29 = .ok (.iinc 2 1, 3) := by decide +kernel
theorem d_Rd_numberAtPlace_32 : decode b_Rd_numberAtPlace 32 = .ok (.goto (-25), 3) := by decide +kernel
theorem d_Rd_numberAtPlace_35 : decode b_Rd_numberAtPlace 35 = .ok (.iload_n 1, 1) := by decide +kernel
theorem d_Rd_numberAtPlace_36 : decode b_Rd_numberAtPlace 36 = .ok (.ireturn, 1) := by decide +kernel
theorem d_Rd_at_0 : decode b_Rd_at 0 = .ok (.iload_n 1, 1) := by decide +kernel
theorem d_Rd_at_1 : decode b_Rd_at 1 = .ok (.ifCond .lt 27, 3) := by decide +kernel
theorem d_Rd_at_4 : decode b_Rd_at 4 = .ok (.iload_n 1, 1) := by decide +kernel
theorem d_Rd_at_5 : decode b_Rd_at 5 = .ok (.aload_n 0, 1) := by decide +kernel
theorem d_Rd_at_6 : decode b_Rd_at 6 = .ok (.getfield 23, 3) := by decide +kernel
theorem d_Rd_at_9 : decode b_Rd_at 9 = .ok (.if_icmp .ge 19, 3) := by decide +kernel
theorem d_Rd_at_12 : decode b_Rd_at 12 = .ok (.iload_n 1, 1) := by decide +kernel
theorem d_Rd_at_13 : decode b_Rd_at 13 = .ok (.sipush 150, 3) := by decide +kernel
theorem d_Rd_at_16 : decode b_Rd_at 16 = .ok (.if_icmp .ge 12, 3) := by decide +kernel
theorem d_Rd_at_19 : decode b_Rd_at 19 = .ok (.aload_n 0, 1) := by decide +kernel
theorem d_Rd_at_20 : decode b_Rd_at 20 = .ok (.getfield 9, 3) := by decide +kernel
theorem d_Rd_at_23 : decode b_Rd_at 23 = .ok (.iload_n 1, 1) := by decide +kernel
theorem d_Rd_at_24 : decode b_Rd_at 24 = .ok (.baload, 1) := by decide +kernel
theorem d_Rd_at_25 : decode b_Rd_at 25 = .ok (.goto 4, 3) := by decide +kernel
theorem d_Rd_at_28 : decode b_Rd_at 28 = .ok (.iconst (-1), 1) := by decide +kernel
theorem d_Rd_at_29 : decode b_Rd_at 29 = .ok (.ireturn, 1) := by decide +kernel
theorem d_Rd_isLetter_0 : decode b_Rd_isLetter 0 = .ok (.iload_n 0, 1) := by decide +kernel
theorem d_Rd_isLetter_1 : decode b_Rd_isLetter 1 = .ok (.bipush 97, 2) := by decide +kernel
theorem d_Rd_isLetter_3 : decode b_Rd_isLetter 3 = .ok (.if_icmp .lt 13, 3) := by decide +kernel
theorem d_Rd_isLetter_6 : decode b_Rd_isLetter 6 = .ok (.iload_n 0, 1) := by decide +kernel
theorem d_Rd_isLetter_7 : decode b_Rd_isLetter 7 = .ok (.bipush 122, 2) := by decide +kernel
theorem d_Rd_isLetter_9 : decode b_Rd_isLetter 9 = .ok (.if_icmp .gt 7, 3) := by decide +kernel
theorem d_Rd_isLetter_12 : decode b_Rd_isLetter 12 = .ok (.iconst 1, 1) := by decide +kernel
theorem d_Rd_isLetter_13 : decode b_Rd_isLetter 13 = .ok (.goto 4, 3) := by decide +kernel
theorem d_Rd_isLetter_16 : decode b_Rd_isLetter 16 = .ok (.iconst 0, 1) := by decide +kernel
theorem d_Rd_isLetter_17 : decode b_Rd_isLetter 17 = .ok (.ireturn, 1) := by decide +kernel
theorem d_Rd_isFigure_0 : decode b_Rd_isFigure 0 = .ok (.iload_n 0, 1) := by decide +kernel
theorem d_Rd_isFigure_1 : decode b_Rd_isFigure 1 = .ok (.bipush 48, 2) := by decide +kernel
theorem d_Rd_isFigure_3 : decode b_Rd_isFigure 3 = .ok (.if_icmp .lt 13, 3) := by decide +kernel
theorem d_Rd_isFigure_6 : decode b_Rd_isFigure 6 = .ok (.iload_n 0, 1) := by decide +kernel
theorem d_Rd_isFigure_7 : decode b_Rd_isFigure 7 = .ok (.bipush 57, 2) := by decide +kernel
theorem d_Rd_isFigure_9 : decode b_Rd_isFigure 9 = .ok (.if_icmp .gt 7, 3) := by decide +kernel
theorem d_Rd_isFigure_12 : decode b_Rd_isFigure 12 = .ok (.iconst 1, 1) := by decide +kernel
theorem d_Rd_isFigure_13 : decode b_Rd_isFigure 13 = .ok (.goto 4, 3) := by decide +kernel
theorem d_Rd_isFigure_16 : decode b_Rd_isFigure 16 = .ok (.iconst 0, 1) := by decide +kernel
theorem d_Rd_isFigure_17 : decode b_Rd_isFigure 17 = .ok (.ireturn, 1) := by decide +kernel
