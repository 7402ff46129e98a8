theorem d_Ai_init_0 : decode b_Ai_init 0 = .ok (.aload_n 0, 1) := by decide +kernel
theorem d_Ai_init_1 : decode b_Ai_init 1 = .ok (.invokespecial 3, 3) := by decide +kernel
theorem d_Ai_init_4 : decode b_Ai_init 4 = .ok (.aload_n 0, 1) := by decide +kernel
theorem d_Ai_init_5 : decode b_Ai_init 5 = .ok (.new 9, 3) := by decide +kernel
theorem d_Ai_init_8 : decode b_Ai_init 8 = .ok (.dup, 1) := by decide +kernel
theorem d_Ai_init_9 : decode b_Ai_init 9 = .ok (.invokespecial 11, 3) := by decide +kernel
theorem d_Ai_init_12 : decode b_Ai_init 12 = .ok (.putfield 12, 3) := by decide +kernel
theorem d_Ai_init_15 : decode b_Ai_init 15 = .ok (.aload_n 0, 1) := by decide +kernel
theorem d_Ai_init_16 : decode b_Ai_init 16 = .ok (.new 9, 3) := by decide +kernel
theorem d_Ai_init_19 : decode b_Ai_init 19 = .ok (.dup, 1) := by decide +kernel
theorem d_Ai_init_20 : decode b_Ai_init 20 = .ok (.invokespecial 11, 3) := by decide +kernel
theorem d_Ai_init_23 : decode b_Ai_init 23 = .ok (.putfield 16, 3) := by decide +kernel
theorem d_Ai_init_26 : decode b_Ai_init 26 = .ok (.aload_n 0, 1) := by decide +kernel
theorem d_Ai_init_27 : decode b_Ai_init 27 = .ok (.iconst 2, 1) := by decide +kernel
theorem d_Ai_init_28 : decode b_Ai_init 28 = .ok (.anewarray 9, 3) := by decide +kernel
theorem d_Ai_init_31 : decode b_Ai_init 31 = .ok (.dup, 1) := by decide +kernel
theorem d_Ai_init_32 : decode b_Ai_init 32 = .ok (.iconst 0, 1) := by decide +kernel
theorem d_Ai_init_33 : decode b_Ai_init 33 = .ok (.new 9, 3) := by decide +kernel
theorem d_Ai_init_36 : decode b_Ai_init 36 = .ok (.dup, 1) := by decide +kernel
theorem d_Ai_init_37 : decode b_Ai_init 37 = .ok (.invokespecial 11, 3) := by decide +kernel
theorem d_Ai_init_40 : decode b_Ai_init 40 = .ok (.aastore, 1) := by decide +kernel
theorem d_Ai_init_41 : decode b_Ai_init 41 = .ok (.dup, 1) := by decide +kernel
theorem d_Ai_init_42 : decode b_Ai_init 42 = .ok (.iconst 1, 1) := by decide +kernel
theorem d_Ai_init_43 : decode b_Ai_init 43 = .ok (.new 9, 3) := by decide +kernel
theorem d_Ai_init_46 : decode b_Ai_init 46 = .ok (.dup, 1) := by decide +kernel
theorem d_Ai_init_47 : decode b_Ai_init 47 = .ok (.invokespecial 11, 3) := by decide +kernel
theorem d_Ai_init_50 : decode b_Ai_init 50 = .ok (.aastore, 1) := by decide +kernel
theorem d_Ai_init_51 : decode b_Ai_init 51 = .ok (.putfield 19, 3) := by decide +kernel
theorem d_Ai_init_54 : decode b_Ai_init 54 = .ok (.aload_n 0, 1) := by decide +kernel
theorem d_Ai_init_55 : decode b_Ai_init 55 = .ok (.iconst 2, 1) := by decide +kernel
theorem d_Ai_init_56 : decode b_Ai_init 56 = .ok (.newarray .boolean, 2) := by decide +kernel
theorem d_Ai_init_58 : decode b_Ai_init 58 = .ok (.putfield 23, 3) := by decide +kernel
theorem d_Ai_init_61 : decode b_Ai_init 61 = .ok (.aload_n 0, 1) := by decide +kernel
theorem d_Ai_init_62 : decode b_Ai_init 62 = .ok (.new 27, 3) := by decide +kernel
theorem d_Ai_init_65 : decode b_Ai_init 65 = .ok (.dup, 1) := by decide +kernel
theorem d_Ai_init_66 : decode b_Ai_init 66 = .ok (.aload_n 0, 1) := by decide +kernel
theorem d_Ai_init_67 : decode b_Ai_init 67 = .ok (.getfield 12, 3) := by decide +kernel
theorem d_Ai_init_70 : decode b_Ai_init 70 = .ok (.invokespecial 29, 3) := by decide +kernel
theorem d_Ai_init_73 : decode b_Ai_init 73 = .ok (.putfield 32, 3) := by decide +kernel
theorem d_Ai_init_76 : decode b_Ai_init 76 = .ok (.aload_n 0, 1) := by decide +kernel
theorem d_Ai_init_77 : decode b_Ai_init 77 = .ok (.new 36, 3) := by decide +kernel
theorem d_Ai_init_80 : decode b_Ai_init 80 = .ok (.dup, 1) := by decide +kernel
theorem d_Ai_init_81 : decode b_Ai_init 81 = .ok (.aload_n 0, 1) := by decide +kernel
theorem d_Ai_init_82 : decode b_Ai_init 82 = .ok (.getfield 16, 3) := by decide +kernel
theorem d_Ai_init_85 : decode b_Ai_init 85 = .ok (.invokespecial 38, 3) := by decide +kernel
theorem d_Ai_init_88 : decode b_Ai_init 88 = .ok (.putfield 39, 3) := by decide +kernel
theorem d_Ai_init_91 : decode b_Ai_init 91 = .ok (.aload_n 0, 1) := by decide +kernel
theorem d_Ai_init_92 : decode b_Ai_init 92 = .ok (.iconst 3, 1) := by decide +kernel
theorem d_Ai_init_93 : decode b_Ai_init 93 = .ok (.newarray .int, 2) := by decide +kernel
theorem d_Ai_init_95 : decode b_Ai_init 95 = .ok (.putfield 43, 3) := by decide +kernel
theorem d_Ai_init_98 : decode b_Ai_init 98 = .ok (.aload_n 0, 1) := by decide +kernel
theorem d_Ai_init_99 : decode b_Ai_init 99 = .ok (.bipush 6, 2) := by decide +kernel
theorem d_Ai_init_101 : decode b_Ai_init 101 = .ok (.newarray .int, 2) := by decide +kernel
theorem d_Ai_init_103 : decode b_Ai_init 103 = .ok (.putfield 47, 3) := by decide +kernel
theorem d_Ai_init_106 : decode b_Ai_init 106 = .ok (.return_, 1) := by decide +kernel
theorem d_Ai_valley_0 : decode b_Ai_valley 0 = .ok (.iload_n 1, 1) := by decide +kernel
theorem d_Ai_valley_1 : decode b_Ai_valley 1 = .ok (.iconst 1, 1) := by decide +kernel
theorem d_Ai_valley_2 : decode b_Ai_valley 2 = .ok (.if_icmp .lt 20, 3) := by decide +kernel
theorem d_Ai_valley_5 : decode b_Ai_valley 5 = .ok (.iload_n 1, 1) := by decide +kernel
theorem d_Ai_valley_6 : decode b_Ai_valley 6 = .ok (.bipush 6, 2) := by decide +kernel
theorem d_Ai_valley_8 : decode b_Ai_valley 8 = .ok (.if_icmp .gt 14, 3) := by decide +kernel
theorem d_Ai_valley_11 : decode b_Ai_valley 11 = .ok (.iload_n 2, 1) := by decide +kernel
theorem d_Ai_valley_12 : decode b_Ai_valley 12 = .ok (.iconst 1, 1) := by decide +kernel
theorem d_Ai_valley_13 : decode b_Ai_valley 13 = .ok (.if_icmp .lt 9, 3) := by decide +kernel
theorem d_Ai_valley_16 : decode b_Ai_valley 16 = .ok (.iload_n 2, 1) := by decide +kernel
theorem d_Ai_valley_17 : decode b_Ai_valley 17 = .ok (.bipush 6, 2) := by decide +kernel
theorem d_Ai_valley_19 : decode b_Ai_valley 19 = .ok (.if_icmp .le 10, 3) := by decide +kernel
theorem d_Ai_valley_22 : decode b_Ai_valley 22 = .ok (.aload_n 0, 1) := by decide +kernel
theorem d_Ai_valley_23 : decode b_Ai_valley 23 = .ok (.bipush (-2), 2) := by decide +kernel
theorem d_Ai_valley_25 : decode b_Ai_valley 25 = .ok (.invokevirtual 50, 3) := by decide +kernel
theorem d_Ai_valley_28 : decode b_Ai_valley 28 = .ok (.ireturn, 1) := by decide +kernel
theorem d_Ai_valley_29 : decode b_Ai_valley 29 = .ok (.aload_n 0, 1) := by decide +kernel
theorem d_Ai_valley_30 : decode b_Ai_valley 30 = .ok (.getfield 12, 3) := by decide +kernel
theorem d_Ai_valley_33 : decode b_Ai_valley 33 = .ok (.iload_n 1, 1) := by decide +kernel
theorem d_Ai_valley_34 : decode b_Ai_valley 34 = .ok (.iload_n 2, 1) := by decide +kernel
theorem d_Ai_valley_35 : decode b_Ai_valley 35 = .ok (.invokevirtual 54, 3) := by decide +kernel
theorem d_Ai_valley_38 : decode b_Ai_valley 38 = .ok (.iconst 1, 1) := by decide +kernel
theorem d_Ai_valley_39 : decode b_Ai_valley 39 = .ok (.ireturn, 1) := by decide +kernel
theorem d_Ai_put_0 : decode b_Ai_put 0 = .ok (.aload_n 0, 1) := by decide +kernel
theorem d_Ai_put_1 : decode b_Ai_put 1 = .ok (.iload_n 2, 1) := by decide +kernel
theorem d_Ai_put_2 : decode b_Ai_put 2 = .ok (.invokevirtual 58, 3) := by decide +kernel
theorem d_Ai_put_5 : decode b_Ai_put 5 = .ok (.ifCond .eq 7, 3) := by decide +kernel
theorem d_Ai_put_8 : decode b_Ai_put 8 = .ok (.iload_n 3, 1) := by decide +kernel
theorem d_Ai_put_9 : decode b_Ai_put 9 = .ok (.ifCond .ge 10, 3) := by decide +kernel
theorem d_Ai_put_12 : decode b_Ai_put 12 = .ok (.aload_n 0, 1) := by decide +kernel
theorem d_Ai_put_13 : decode b_Ai_put 13 = .ok (.bipush (-2), 2) := by decide +kernel
theorem d_Ai_put_15 : decode b_Ai_put 15 = .ok (.invokevirtual 50, 3) := by decide +kernel
theorem d_Ai_put_18 : decode b_Ai_put 18 = .ok (.ireturn, 1) := by decide +kernel
theorem d_Ai_put_19 : decode b_Ai_put 19 = .ok (.iload_n 1, 1) := by decide +kernel
theorem d_Ai_put_20 : decode b_Ai_put 20 = .ok (.ifCond .ne 21, 3) := by decide +kernel
theorem d_Ai_put_23 : decode b_Ai_put 23 = .ok (.iload_n 3, 1) := by decide +kernel
theorem d_Ai_put_24 : decode b_Ai_put 24 = .ok (.iconst 3, 1) := by decide +kernel
theorem d_Ai_put_25 : decode b_Ai_put 25 = .ok (.if_icmp .ge 16, 3) := by decide +kernel
theorem d_Ai_put_28 : decode b_Ai_put 28 = .ok (.aload_n 0, 1) := by decide +kernel
theorem d_Ai_put_29 : decode b_Ai_put 29 = .ok (.getfield 12, 3) := by decide +kernel
theorem d_Ai_put_32 : decode b_Ai_put 32 = .ok (.getfield 62, 3) := by decide +kernel
theorem d_Ai_put_35 : decode b_Ai_put 35 = .ok (.iload_n 2, 1) := by decide +kernel
theorem d_Ai_put_36 : decode b_Ai_put 36 = .ok (.iload_n 3, 1) := by decide +kernel
theorem d_Ai_put_37 : decode b_Ai_put 37 = .ok (.invokestatic 66, 3) := by decide +kernel
theorem d_Ai_put_40 : decode b_Ai_put 40 = .ok (.ireturn, 1) := by decide +kernel
theorem d_Ai_put_41 : decode b_Ai_put 41 = .ok (.iload_n 1, 1) := by decide +kernel
theorem d_Ai_put_42 : decode b_Ai_put 42 = .ok (.iconst 1, 1) := by decide +kernel
theorem d_Ai_put_43 : decode b_Ai_put 43 = .ok (.if_icmp .ne 22, 3) := by decide +kernel
theorem d_Ai_put_46 : decode b_Ai_put 46 = .ok (.iload_n 3, 1) := by decide +kernel
theorem d_Ai_put_47 : decode b_Ai_put 47 = .ok (.bipush 6, 2) := by decide +kernel
theorem d_Ai_put_49 : decode b_Ai_put 49 = .ok (.if_icmp .ge 16, 3) := by decide +kernel
theorem d_Ai_put_52 : decode b_Ai_put 52 = .ok (.aload_n 0, 1) := by decide +kernel
theorem d_Ai_put_53 : decode b_Ai_put 53 = .ok (.getfield 12, 3) := by decide +kernel
theorem d_Ai_put_56 : decode b_Ai_put 56 = .ok (.getfield 70, 3) := by decide +kernel
theorem d_Ai_put_59 : decode b_Ai_put 59 = .ok (.iload_n 2, 1) := by decide +kernel
theorem d_Ai_put_60 : decode b_Ai_put 60 = .ok (.iload_n 3, 1) := by decide +kernel
theorem d_Ai_put_61 : decode b_Ai_put 61 = .ok (.invokestatic 66, 3) := by decide +kernel
theorem d_Ai_put_64 : decode b_Ai_put 64 = .ok (.ireturn, 1) := by decide +kernel
theorem d_Ai_put_65 : decode b_Ai_put 65 = .ok (.aload_n 0, 1) := by decide +kernel
theorem d_Ai_put_66 : decode b_Ai_put 66 = .ok (.bipush (-2), 2) := by decide +kernel
theorem d_Ai_put_68 : decode b_Ai_put 68 = .ok (.invokevirtual 50, 3) := by decide +kernel
theorem d_Ai_put_71 : decode b_Ai_put 71 = .ok (.ireturn, 1) := by decide +kernel
theorem d_Ai_fee_0 : decode b_Ai_fee 0 = .ok (.iload_n 1, 1) := by decide +kernel
theorem d_Ai_fee_1 : decode b_Ai_fee 1 = .ok (.invokestatic 73, 3) := by decide +kernel
theorem d_Ai_fee_4 : decode b_Ai_fee 4 = .ok (.ifCond .eq 13, 3) := by decide +kernel
theorem d_Ai_fee_7 : decode b_Ai_fee 7 = .ok (.iload_n 2, 1) := by decide +kernel
theorem d_Ai_fee_8 : decode b_Ai_fee 8 = .ok (.ifCond .lt 9, 3) := by decide +kernel
theorem d_Ai_fee_11 : decode b_Ai_fee 11 = .ok (.iload_n 2, 1) := by decide +kernel
theorem d_Ai_fee_12 : decode b_Ai_fee 12 = .ok (.bipush 99, 2) := by decide +kernel
theorem d_Ai_fee_14 : decode b_Ai_fee 14 = .ok (.if_icmp .le 10, 3) := by decide +kernel
theorem d_Ai_fee_17 : decode b_Ai_fee 17 = .ok (.aload_n 0, 1) := by decide +kernel
theorem d_Ai_fee_18 : decode b_Ai_fee 18 = .ok (.bipush (-2), 2) := by decide +kernel
theorem d_Ai_fee_20 : decode b_Ai_fee 20 = .ok (.invokevirtual 50, 3) := by decide +kernel
theorem d_Ai_fee_23 : decode b_Ai_fee 23 = .ok (.ireturn, 1) := by decide +kernel
theorem d_Ai_fee_24 : decode b_Ai_fee 24 = .ok (.aload_n 0, 1) := by decide +kernel
theorem d_Ai_fee_25 : decode b_Ai_fee 25 = .ok (.getfield 12, 3) := by decide +kernel
theorem d_Ai_fee_28 : decode b_Ai_fee 28 = .ok (.iload_n 1, 1) := by decide +kernel
theorem d_Ai_fee_29 : decode b_Ai_fee 29 = .ok (.iload_n 2, 1) := by decide +kernel
theorem d_Ai_fee_30 : decode b_Ai_fee 30 = .ok (.invokevirtual 76, 3) := by decide +kernel
theorem d_Ai_fee_33 : decode b_Ai_fee 33 = .ok (.ireturn, 1) := by decide +kernel
theorem d_Ai_maker_0 : decode b_Ai_maker 0 = .ok (.iload_n 1, 1) := by decide +kernel
theorem d_Ai_maker_1 : decode b_Ai_maker 1 = .ok (.ifCond .lt 24, 3) := by decide +kernel
theorem d_Ai_maker_4 : decode b_Ai_maker 4 = .ok (.iload_n 1, 1) := by decide +kernel
theorem d_Ai_maker_5 : decode b_Ai_maker 5 = .ok (.bipush 6, 2) := by decide +kernel
theorem d_Ai_maker_7 : decode b_Ai_maker 7 = .ok (.if_icmp .ge 18, 3) := by decide +kernel
theorem d_Ai_maker_10 : decode b_Ai_maker 10 = .ok (.aload_n 0, 1) := by decide +kernel
theorem d_Ai_maker_11 : decode b_Ai_maker 11 = .ok (.iload_n 2, 1) := by decide +kernel
theorem d_Ai_maker_12 : decode b_Ai_maker 12 = .ok (.invokevirtual 58, 3) := by decide +kernel
theorem d_Ai_maker_15 : decode b_Ai_maker 15 = .ok (.ifCond .eq 10, 3) := by decide +kernel
theorem d_Ai_maker_18 : decode b_Ai_maker 18 = .ok (.iload_n 3, 1) := by decide +kernel
theorem d_Ai_maker_19 : decode b_Ai_maker 19 = .ok (.invokestatic 73, 3) := by decide +kernel
theorem d_Ai_maker_22 : decode b_Ai_maker 22 = .ok (.ifCond .ne 10, 3) := by decide +kernel
theorem d_Ai_maker_25 : decode b_Ai_maker 25 = .ok (.aload_n 0, 1) := by decide +kernel
theorem d_Ai_maker_26 : decode b_Ai_maker 26 = .ok (.bipush (-2), 2) := by decide +kernel
theorem d_Ai_maker_28 : decode b_Ai_maker 28 = .ok (.invokevirtual 50, 3) := by decide +kernel
theorem d_Ai_maker_31 : decode b_Ai_maker 31 = .ok (.ireturn, 1) := by decide +kernel
theorem d_Ai_maker_32 : decode b_Ai_maker 32 = .ok (.aload_n 0, 1) := by decide +kernel
theorem d_Ai_maker_33 : decode b_Ai_maker 33 = .ok (.getfield 12, 3) := by decide +kernel
theorem d_Ai_maker_36 : decode b_Ai_maker 36 = .ok (.getfield 80, 3) := by decide +kernel
theorem d_Ai_maker_39 : decode b_Ai_maker 39 = .ok (.bipush 6, 2) := by decide +kernel
theorem d_Ai_maker_41 : decode b_Ai_maker 41 = .ok (.if_icmp .lt 10, 3) := by decide +kernel
theorem d_Ai_maker_44 : decode b_Ai_maker 44 = .ok (.aload_n 0, 1) := by decide +kernel
theorem d_Ai_maker_45 : decode b_Ai_maker 45 = .ok (.bipush (-4), 2) := by decide +kernel
theorem d_Ai_maker_47 : decode b_Ai_maker 47 = .ok (.invokevirtual 50, 3) := by decide +kernel
theorem d_Ai_maker_50 : decode b_Ai_maker 50 = .ok (.ireturn, 1) := by decide +kernel
theorem d_Ai_maker_51 : decode b_Ai_maker 51 = .ok (.aload_n 0, 1) := by decide +kernel
theorem d_Ai_maker_52 : decode b_Ai_maker 52 = .ok (.getfield 12, 3) := by decide +kernel
theorem d_Ai_maker_55 : decode b_Ai_maker 55 = .ok (.iload_n 1, 1) := by decide +kernel
theorem d_Ai_maker_56 : decode b_Ai_maker 56 = .ok (.iload_n 2, 1) := by decide +kernel
theorem d_Ai_maker_57 : decode b_Ai_maker 57 = .ok (.iload_n 3, 1) := by decide +kernel
theorem d_Ai_maker_58 : decode b_Ai_maker 58 = .ok (.invokevirtual 84, 3) := by decide +kernel
theorem d_Ai_maker_61 : decode b_Ai_maker 61 = .ok (.aload_n 0, 1) := by decide +kernel
theorem d_Ai_maker_62 : decode b_Ai_maker 62 = .ok (.getfield 12, 3) := by decide +kernel
theorem d_Ai_maker_65 : decode b_Ai_maker 65 = .ok (.getfield 80, 3) := by decide +kernel
theorem d_Ai_maker_68 : decode b_Ai_maker 68 = .ok (.iconst 1, 1) := by decide +kernel
theorem d_Ai_maker_69 : decode b_Ai_maker 69 = .ok (.isub, 1) := by decide +kernel
theorem d_Ai_maker_70 : decode b_Ai_maker 70 = .ok (.ireturn, 1) := by decide +kernel
theorem d_Ai_leave_0 : decode b_Ai_leave 0 = .ok (.aload_n 0, 1) := by decide +kernel
theorem d_Ai_leave_1 : decode b_Ai_leave 1 = .ok (.iload_n 1, 1) := by decide +kernel
theorem d_Ai_leave_2 : decode b_Ai_leave 2 = .ok (.invokevirtual 88, 3) := by decide +kernel
theorem d_Ai_leave_5 : decode b_Ai_leave 5 = .ok (.ifCond .eq 39, 3) := by decide +kernel
theorem d_Ai_leave_8 : decode b_Ai_leave 8 = .ok (.iload_n 2, 1) := by decide +kernel
theorem d_Ai_leave_9 : decode b_Ai_leave 9 = .ok (.invokestatic 73, 3) := by decide +kernel
theorem d_Ai_leave_12 : decode b_Ai_leave 12 = .ok (.ifCond .eq 32, 3) := by decide +kernel
theorem d_Ai_leave_15 : decode b_Ai_leave 15 = .ok (.iload_n 3, 1) := by decide +kernel
theorem d_Ai_leave_16 : decode b_Ai_leave 16 = .ok (.invokestatic 91, 3) := by decide +kernel
theorem d_Ai_leave_19 : decode b_Ai_leave 19 = .ok (.ifCond .eq 25, 3) := by decide +kernel
theorem d_Ai_leave_22 : decode b_Ai_leave 22 = .ok (.iload 4, 2) := by decide +kernel
theorem d_Ai_leave_24 : decode b_Ai_leave 24 = .ok (.invokestatic 91, 3) := by decide +kernel
theorem d_Ai_leave_27 : decode b_Ai_leave 27 = .ok (.ifCond .eq 17, 3) := by decide +kernel
theorem d_Ai_leave_30 : decode b_Ai_leave 30 = .ok (.iload_n 3, 1) := by decide +kernel
theorem d_Ai_leave_31 : decode b_Ai_leave 31 = .ok (.iload 4, 2) := by decide +kernel
theorem d_Ai_leave_33 : decode b_Ai_leave 33 = .ok (.if_icmp .gt 11, 3) := by decide +kernel
theorem d_Ai_leave_36 : decode b_Ai_leave 36 = .ok (.iload 5, 2) := by decide +kernel
theorem d_Ai_leave_38 : decode b_Ai_leave 38 = .ok (.invokestatic 94, 3) := by decide +kernel
theorem d_Ai_leave_41 : decode b_Ai_leave 41 = .ok (.ifCond .ne 10, 3) := by decide +kernel
theorem d_Ai_leave_44 : decode b_Ai_leave 44 = .ok (.aload_n 0, 1) := by decide +kernel
theorem d_Ai_leave_45 : decode b_Ai_leave 45 = .ok (.bipush (-2), 2) := by decide +kernel
theorem d_Ai_leave_47 : decode b_Ai_leave 47 = .ok (.invokevirtual 50, 3) := by decide +kernel
theorem d_Ai_leave_50 : decode b_Ai_leave 50 = .ok (.ireturn, 1) := by decide +kernel
theorem d_Ai_leave_51 : decode b_Ai_leave 51 = .ok (.aload_n 0, 1) := by decide +kernel
theorem d_Ai_leave_52 : decode b_Ai_leave 52 = .ok (.getfield 12, 3) := by decide +kernel
theorem d_Ai_leave_55 : decode b_Ai_leave 55 = .ok (.getfield 97, 3) := by decide +kernel
theorem d_Ai_leave_58 : decode b_Ai_leave 58 = .ok (.bipush 8, 2) := by decide +kernel
theorem d_Ai_leave_60 : decode b_Ai_leave 60 = .ok (.if_icmp .lt 10, 3) := by decide +kernel
theorem d_Ai_leave_63 : decode b_Ai_leave 63 = .ok (.aload_n 0, 1) := by decide +kernel
theorem d_Ai_leave_64 : decode b_Ai_leave 64 = .ok (.bipush (-4), 2) := by decide +kernel
theorem d_Ai_leave_66 : decode b_Ai_leave 66 = .ok (.invokevirtual 50, 3) := by decide +kernel
theorem d_Ai_leave_69 : decode b_Ai_leave 69 = .ok (.ireturn, 1) := by decide +kernel
theorem d_Ai_leave_70 : decode b_Ai_leave 70 = .ok (.aload_n 0, 1) := by decide +kernel
theorem d_Ai_leave_71 : decode b_Ai_leave 71 = .ok (.getfield 12, 3) := by decide +kernel
theorem d_Ai_leave_74 : decode b_Ai_leave 74 = .ok (.invokevirtual 100, 3) := by decide +kernel
theorem d_Ai_leave_77 : decode b_Ai_leave 77 = .ok (.aload_n 0, 1) := by decide +kernel
theorem d_Ai_leave_78 : decode b_Ai_leave 78 = .ok (.getfield 12, 3) := by decide +kernel
theorem d_Ai_leave_81 : decode b_Ai_leave 81 = .ok (.iload_n 1, 1) := by decide +kernel
theorem d_Ai_leave_82 : decode b_Ai_leave 82 = .ok (.iload_n 2, 1) := by decide +kernel
theorem d_Ai_leave_83 : decode b_Ai_leave 83 = .ok (.iload_n 3, 1) := by decide +kernel
theorem d_Ai_leave_84 : decode b_Ai_leave 84 = .ok (.iload 4, 2) := by decide +kernel
theorem d_Ai_leave_86 : decode b_Ai_leave 86 = .ok (.iload 5, 2) := by decide +kernel
theorem d_Ai_leave_88 : decode b_Ai_leave 88 = .ok (.invokevirtual 103, 3) := by decide +kernel
theorem d_Ai_leave_91 : decode b_Ai_leave 91 = .ok (.aload_n 0, 1) := by decide +kernel
theorem d_Ai_leave_92 : decode b_Ai_leave 92 = .ok (.getfield 12, 3) := by decide +kernel
theorem d_Ai_leave_95 : decode b_Ai_leave 95 = .ok (.getfield 97, 3) := by decide +kernel
theorem d_Ai_leave_98 : decode b_Ai_leave 98 = .ok (.iconst 1, 1) := by decide +kernel
theorem d_Ai_leave_99 : decode b_Ai_leave 99 = .ok (.isub, 1) := by decide +kernel
theorem d_Ai_leave_100 : decode b_Ai_leave 100 = .ok (.ireturn, 1) := by decide +kernel
theorem d_Ai_take_0 : decode b_Ai_take 0 = .ok (.aload_n 0, 1) := by decide +kernel
theorem d_Ai_take_1 : decode b_Ai_take 1 = .ok (.iload_n 1, 1) := by decide +kernel
theorem d_Ai_take_2 : decode b_Ai_take 2 = .ok (.invokevirtual 107, 3) := by decide +kernel
theorem d_Ai_take_5 : decode b_Ai_take 5 = .ok (.ifCond .ne 10, 3) := by decide +kernel
theorem d_Ai_take_8 : decode b_Ai_take 8 = .ok (.aload_n 0, 1) := by decide +kernel
theorem d_Ai_take_9 : decode b_Ai_take 9 = .ok (.bipush (-2), 2) := by decide +kernel
theorem d_Ai_take_11 : decode b_Ai_take 11 = .ok (.invokevirtual 50, 3) := by decide +kernel
theorem d_Ai_take_14 : decode b_Ai_take 14 = .ok (.ireturn, 1) := by decide +kernel
theorem d_Ai_take_15 : decode b_Ai_take 15 = .ok (.aload_n 0, 1) := by decide +kernel
theorem d_Ai_take_16 : decode b_Ai_take 16 = .ok (.getfield 12, 3) := by decide +kernel
theorem d_Ai_take_19 : decode b_Ai_take 19 = .ok (.invokevirtual 100, 3) := by decide +kernel
theorem d_Ai_take_22 : decode b_Ai_take 22 = .ok (.aload_n 0, 1) := by decide +kernel
theorem d_Ai_take_23 : decode b_Ai_take 23 = .ok (.getfield 12, 3) := by decide +kernel
theorem d_Ai_take_26 : decode b_Ai_take 26 = .ok (.iload_n 1, 1) := by decide +kernel
theorem d_Ai_take_27 : decode b_Ai_take 27 = .ok (.invokevirtual 110, 3) := by decide +kernel
theorem d_Ai_take_30 : decode b_Ai_take 30 = .ok (.aload_n 0, 1) := by decide +kernel
theorem d_Ai_take_31 : decode b_Ai_take 31 = .ok (.getfield 12, 3) := by decide +kernel
theorem d_Ai_take_34 : decode b_Ai_take 34 = .ok (.getfield 97, 3) := by decide +kernel
theorem d_Ai_take_37 : decode b_Ai_take 37 = .ok (.ireturn, 1) := by decide +kernel
theorem d_Ai_undo_0 : decode b_Ai_undo 0 = .ok (.aload_n 0, 1) := by decide +kernel
theorem d_Ai_undo_1 : decode b_Ai_undo 1 = .ok (.getfield 12, 3) := by decide +kernel
theorem d_Ai_undo_4 : decode b_Ai_undo 4 = .ok (.getfield 114, 3) := by decide +kernel
theorem d_Ai_undo_7 : decode b_Ai_undo 7 = .ok (.iconst 1, 1) := by decide +kernel
theorem d_Ai_undo_8 : decode b_Ai_undo 8 = .ok (.if_icmp .ge 10, 3) := by decide +kernel
theorem d_Ai_undo_11 : decode b_Ai_undo 11 = .ok (.aload_n 0, 1) := by decide +kernel
theorem d_Ai_undo_12 : decode b_Ai_undo 12 = .ok (.bipush (-3), 2) := by decide +kernel
theorem d_Ai_undo_14 : decode b_Ai_undo 14 = .ok (.invokevirtual 50, 3) := by decide +kernel
theorem d_Ai_undo_17 : decode b_Ai_undo 17 = .ok (.ireturn, 1) := by decide +kernel
theorem d_Ai_undo_18 : decode b_Ai_undo 18 = .ok (.aload_n 0, 1) := by decide +kernel
theorem d_Ai_undo_19 : decode b_Ai_undo 19 = .ok (.getfield 12, 3) := by decide +kernel
theorem d_Ai_undo_22 : decode b_Ai_undo 22 = .ok (.invokevirtual 117, 3) := by decide +kernel
theorem d_Ai_undo_25 : decode b_Ai_undo 25 = .ok (.aload_n 0, 1) := by decide +kernel
theorem d_Ai_undo_26 : decode b_Ai_undo 26 = .ok (.getfield 12, 3) := by decide +kernel
theorem d_Ai_undo_29 : decode b_Ai_undo 29 = .ok (.getfield 97, 3) := by decide +kernel
theorem d_Ai_undo_32 : decode b_Ai_undo 32 = .ok (.ireturn, 1) := by decide +kernel
theorem d_Ai_about_0 : decode b_Ai_about 0 = .ok (.aload_n 0, 1) := by decide +kernel
theorem d_Ai_about_1 : decode b_Ai_about 1 = .ok (.iload_n 1, 1) := by decide +kernel
theorem d_Ai_about_2 : decode b_Ai_about 2 = .ok (.invokevirtual 107, 3) := by decide +kernel
theorem d_Ai_about_5 : decode b_Ai_about 5 = .ok (.ifCond .eq 12, 3) := by decide +kernel
theorem d_Ai_about_8 : decode b_Ai_about 8 = .ok (.iload_n 2, 1) := by decide +kernel
theorem d_Ai_about_9 : decode b_Ai_about 9 = .ok (.ifCond .lt 8, 3) := by decide +kernel
theorem d_Ai_about_12 : decode b_Ai_about 12 = .ok (.iload_n 2, 1) := by decide +kernel
theorem d_Ai_about_13 : decode b_Ai_about 13 = .ok (.iconst 5, 1) := by decide +kernel
theorem d_Ai_about_14 : decode b_Ai_about 14 = .ok (.if_icmp .lt 10, 3) := by decide +kernel
theorem d_Ai_about_17 : decode b_Ai_about 17 = .ok (.aload_n 0, 1) := by decide +kernel
theorem d_Ai_about_18 : decode b_Ai_about 18 = .ok (.bipush (-2), 2) := by decide +kernel
theorem d_Ai_about_20 : decode b_Ai_about 20 = .ok (.invokevirtual 50, 3) := by decide +kernel
theorem d_Ai_about_23 : decode b_Ai_about 23 = .ok (.ireturn, 1) := by decide +kernel
theorem d_Ai_about_24 : decode b_Ai_about 24 = .ok (.aload_n 0, 1) := by decide +kernel
theorem d_Ai_about_25 : decode b_Ai_about 25 = .ok (.getfield 12, 3) := by decide +kernel
theorem d_Ai_about_28 : decode b_Ai_about 28 = .ok (.iload_n 1, 1) := by decide +kernel
theorem d_Ai_about_29 : decode b_Ai_about 29 = .ok (.iload_n 2, 1) := by decide +kernel
theorem d_Ai_about_30 : decode b_Ai_about 30 = .ok (.invokevirtual 120, 3) := by decide +kernel
theorem d_Ai_about_33 : decode b_Ai_about 33 = .ok (.ireturn, 1) := by decide +kernel
theorem d_Ai_type_0 : decode b_Ai_type 0 = .ok (.iload_n 1, 1) := by decide +kernel
theorem d_Ai_type_1 : decode b_Ai_type 1 = .ok (.ifCond .lt 9, 3) := by decide +kernel
theorem d_Ai_type_4 : decode b_Ai_type 4 = .ok (.iload_n 1, 1) := by decide +kernel
theorem d_Ai_type_5 : decode b_Ai_type 5 = .ok (.bipush 127, 2) := by decide +kernel
theorem d_Ai_type_7 : decode b_Ai_type 7 = .ok (.if_icmp .le 10, 3) := by decide +kernel
theorem d_Ai_type_10 : decode b_Ai_type 10 = .ok (.aload_n 0, 1) := by decide +kernel
theorem d_Ai_type_11 : decode b_Ai_type 11 = .ok (.bipush (-2), 2) := by decide +kernel
theorem d_Ai_type_13 : decode b_Ai_type 13 = .ok (.invokevirtual 50, 3) := by decide +kernel
theorem d_Ai_type_16 : decode b_Ai_type 16 = .ok (.ireturn, 1) := by decide +kernel
theorem d_Ai_type_17 : decode b_Ai_type 17 = .ok (.aload_n 0, 1) := by decide +kernel
theorem d_Ai_type_18 : decode b_Ai_type 18 = .ok (.getfield 39, 3) := by decide +kernel
theorem d_Ai_type_21 : decode b_Ai_type 21 = .ok (.iload_n 1, 1) := by decide +kernel
theorem d_Ai_type_22 : decode b_Ai_type 22 = .ok (.invokevirtual 123, 3) := by decide +kernel
theorem d_Ai_type_25 : decode b_Ai_type 25 = .ok (.ifCond .ne 10, 3) := by decide +kernel
theorem d_Ai_type_28 : decode b_Ai_type 28 = .ok (.aload_n 0, 1) := by decide +kernel
theorem d_Ai_type_29 : decode b_Ai_type 29 = .ok (.bipush (-4), 2) := by decide +kernel
theorem d_Ai_type_31 : decode b_Ai_type 31 = .ok (.invokevirtual 50, 3) := by decide +kernel
theorem d_Ai_type_34 : decode b_Ai_type 34 = .ok (.ireturn, 1) := by decide +kernel
theorem d_Ai_type_35 : decode b_Ai_type 35 = .ok (.aload_n 0, 1) := by decide +kernel
theorem d_Ai_type_36 : decode b_Ai_type 36 = .ok (.getfield 39, 3) := by decide +kernel
theorem d_Ai_type_39 : decode b_Ai_type 39 = .ok (.getfield 126, 3) := by decide +kernel
theorem d_Ai_type_42 : decode b_Ai_type 42 = .ok (.ireturn, 1) := by decide +kernel
theorem d_Ai_clear_0 : decode b_Ai_clear 0 = .ok (.aload_n 0, 1) := by decide +kernel
theorem d_Ai_clear_1 : decode b_Ai_clear 1 = .ok (.getfield 39, 3) := by decide +kernel
theorem d_Ai_clear_4 : decode b_Ai_clear 4 = .ok (.invokevirtual 129, 3) := by decide +kernel
theorem d_Ai_clear_7 : decode b_Ai_clear 7 = .ok (.ireturn, 1) := by decide +kernel
theorem d_Ai_read_0 : decode b_Ai_read 0 = .ok (.aload_n 0, 1) := by decide +kernel
theorem d_Ai_read_1 : decode b_Ai_read 1 = .ok (.getfield 39, 3) := by decide +kernel
theorem d_Ai_read_4 : decode b_Ai_read 4 = .ok (.aload_n 0, 1) := by decide +kernel
theorem d_Ai_read_5 : decode b_Ai_read 5 = .ok (.getfield 16, 3) := by decide +kernel
theorem d_Ai_read_8 : decode b_Ai_read 8 = .ok (.invokevirtual 133, 3) := by decide +kernel
theorem d_Ai_read_11 : decode b_Ai_read 11 = .ok (.istore_n 1, 1) := by decide +kernel
theorem d_Ai_read_12 : decode b_Ai_read 12 = .ok (.iload_n 1, 1) := by decide +kernel
theorem d_Ai_read_13 : decode b_Ai_read 13 = .ok (.ifCond .le 21, 3) := by decide +kernel
theorem d_Ai_read_16 : decode b_Ai_read 16 = .ok (.aload_n 0, 1) := by decide +kernel
theorem d_Ai_read_17 : decode b_Ai_read 17 = .ok (.getfield 12, 3) := by decide +kernel
theorem d_Ai_read_20 : decode b_Ai_read 20 = .ok (.astore_n 2, 1) := by decide +kernel
theorem d_Ai_read_21 : decode b_Ai_read 21 = .ok (.aload_n 0, 1) := by decide +kernel
theorem d_Ai_read_22 : decode b_Ai_read 22 = .ok (.aload_n 0, 1) := by decide +kernel
theorem d_Ai_read_23 : decode b_Ai_read 23 = .ok (.getfield 16, 3) := by decide +kernel
theorem d_Ai_read_26 : decode b_Ai_read 26 = .ok (.putfield 12, 3) := by decide +kernel
theorem d_Ai_read_29 : decode b_Ai_read 29 = .ok (.aload_n 0, 1) := by decide +kernel
theorem d_Ai_read_30 : decode b_Ai_read 30 = .ok (.aload_n 2, 1) := by decide +kernel
theorem d_Ai_read_31 : decode b_Ai_read 31 = .ok (.putfield 16, 3) := by decide +kernel
theorem d_Ai_read_34 : decode b_Ai_read 34 = .ok (.iload_n 1, 1) := by decide +kernel
theorem d_Ai_read_35 : decode b_Ai_read 35 = .ok (.ireturn, 1) := by decide +kernel
theorem d_Ai_heard_0 : decode b_Ai_heard 0 = .ok (.aload_n 0, 1) := by decide +kernel
theorem d_Ai_heard_1 : decode b_Ai_heard 1 = .ok (.iload_n 1, 1) := by decide +kernel
theorem d_Ai_heard_2 : decode b_Ai_heard 2 = .ok (.iload_n 2, 1) := by decide +kernel
theorem d_Ai_heard_3 : decode b_Ai_heard 3 = .ok (.iload_n 3, 1) := by decide +kernel
theorem d_Ai_heard_4 : decode b_Ai_heard 4 = .ok (.invokevirtual 137, 3) := by decide +kernel
theorem d_Ai_heard_7 : decode b_Ai_heard 7 = .ok (.ifCond .eq 12, 3) := by decide +kernel
theorem d_Ai_heard_10 : decode b_Ai_heard 10 = .ok (.aload_n 0, 1) := by decide +kernel
theorem d_Ai_heard_11 : decode b_Ai_heard 11 = .ok (.iload 4, 2) := by decide +kernel
theorem d_Ai_heard_13 : decode b_Ai_heard 13 = .ok (.invokevirtual 58, 3) := by decide +kernel
theorem d_Ai_heard_16 : decode b_Ai_heard 16 = .ok (.ifCond .ne 10, 3) := by decide +kernel
theorem d_Ai_heard_19 : decode b_Ai_heard 19 = .ok (.aload_n 0, 1) := by decide +kernel
theorem d_Ai_heard_20 : decode b_Ai_heard 20 = .ok (.bipush (-2), 2) := by decide +kernel
theorem d_Ai_heard_22 : decode b_Ai_heard 22 = .ok (.invokevirtual 50, 3) := by decide +kernel
theorem d_Ai_heard_25 : decode b_Ai_heard 25 = .ok (.ireturn, 1) := by decide +kernel
theorem d_Ai_heard_26 : decode b_Ai_heard 26 = .ok (.aload_n 0, 1) := by decide +kernel
theorem d_Ai_heard_27 : decode b_Ai_heard 27 = .ok (.iload_n 1, 1) := by decide +kernel
theorem d_Ai_heard_28 : decode b_Ai_heard 28 = .ok (.iload_n 2, 1) := by decide +kernel
theorem d_Ai_heard_29 : decode b_Ai_heard 29 = .ok (.iload_n 3, 1) := by decide +kernel
theorem d_Ai_heard_30 : decode b_Ai_heard 30 = .ok (.invokevirtual 141, 3) := by decide +kernel
theorem d_Ai_heard_33 : decode b_Ai_heard 33 = .ok (.aload_n 0, 1) := by decide +kernel
theorem d_Ai_heard_34 : decode b_Ai_heard 34 = .ok (.getfield 32, 3) := by decide +kernel
theorem d_Ai_heard_37 : decode b_Ai_heard 37 = .ok (.iload 4, 2) := by decide +kernel
theorem d_Ai_heard_39 : decode b_Ai_heard 39 = .ok (.invokevirtual 144, 3) := by decide +kernel
theorem d_Ai_heard_42 : decode b_Ai_heard 42 = .ok (.ireturn, 1) := by decide +kernel
theorem d_Ai_far_0 : decode b_Ai_far 0 = .ok (.aload_n 0, 1) := by decide +kernel
theorem d_Ai_far_1 : decode b_Ai_far 1 = .ok (.iload_n 1, 1) := by decide +kernel
theorem d_Ai_far_2 : decode b_Ai_far 2 = .ok (.iload_n 2, 1) := by decide +kernel
theorem d_Ai_far_3 : decode b_Ai_far 3 = .ok (.iload_n 3, 1) := by decide +kernel
theorem d_Ai_far_4 : decode b_Ai_far 4 = .ok (.invokevirtual 137, 3) := by decide +kernel
theorem d_Ai_far_7 : decode b_Ai_far 7 = .ok (.ifCond .ne 10, 3) := by decide +kernel
theorem d_Ai_far_10 : decode b_Ai_far 10 = .ok (.aload_n 0, 1) := by decide +kernel
theorem d_Ai_far_11 : decode b_Ai_far 11 = .ok (.bipush (-2), 2) := by decide +kernel
theorem d_Ai_far_13 : decode b_Ai_far 13 = .ok (.invokevirtual 50, 3) := by decide +kernel
theorem d_Ai_far_16 : decode b_Ai_far 16 = .ok (.ireturn, 1) := by decide +kernel
theorem d_Ai_far_17 : decode b_Ai_far 17 = .ok (.aload_n 0, 1) := by decide +kernel
theorem d_Ai_far_18 : decode b_Ai_far 18 = .ok (.iload_n 1, 1) := by decide +kernel
theorem d_Ai_far_19 : decode b_Ai_far 19 = .ok (.iload_n 2, 1) := by decide +kernel
theorem d_Ai_far_20 : decode b_Ai_far 20 = .ok (.iload_n 3, 1) := by decide +kernel
theorem d_Ai_far_21 : decode b_Ai_far 21 = .ok (.invokevirtual 141, 3) := by decide +kernel
theorem d_Ai_far_24 : decode b_Ai_far 24 = .ok (.aload_n 0, 1) := by decide +kernel
theorem d_Ai_far_25 : decode b_Ai_far 25 = .ok (.getfield 32, 3) := by decide +kernel
theorem d_Ai_far_28 : decode b_Ai_far 28 = .ok (.getfield 147, 3) := by decide +kernel
theorem d_Ai_far_31 : decode b_Ai_far 31 = .ok (.invokestatic 151, 3) := by decide +kernel
theorem d_Ai_far_34 : decode b_Ai_far 34 = .ok (.ireturn, 1) := by decide +kernel
theorem d_Ai_cost_0 : decode b_Ai_cost 0 = .ok (.aload_n 0, 1) := by decide +kernel
theorem d_Ai_cost_1 : decode b_Ai_cost 1 = .ok (.iload_n 1, 1) := by decide +kernel
theorem d_Ai_cost_2 : decode b_Ai_cost 2 = .ok (.iload_n 2, 1) := by decide +kernel
theorem d_Ai_cost_3 : decode b_Ai_cost 3 = .ok (.iload_n 3, 1) := by decide +kernel
theorem d_Ai_cost_4 : decode b_Ai_cost 4 = .ok (.invokevirtual 137, 3) := by decide +kernel
theorem d_Ai_cost_7 : decode b_Ai_cost 7 = .ok (.ifCond .ne 10, 3) := by decide +kernel
theorem d_Ai_cost_10 : decode b_Ai_cost 10 = .ok (.aload_n 0, 1) := by decide +kernel
theorem d_Ai_cost_11 : decode b_Ai_cost 11 = .ok (.bipush (-2), 2) := by decide +kernel
theorem d_Ai_cost_13 : decode b_Ai_cost 13 = .ok (.invokevirtual 50, 3) := by decide +kernel
theorem d_Ai_cost_16 : decode b_Ai_cost 16 = .ok (.ireturn, 1) := by decide +kernel
theorem d_Ai_cost_17 : decode b_Ai_cost 17 = .ok (.aload_n 0, 1) := by decide +kernel
theorem d_Ai_cost_18 : decode b_Ai_cost 18 = .ok (.iload_n 1, 1) := by decide +kernel
theorem d_Ai_cost_19 : decode b_Ai_cost 19 = .ok (.iload_n 2, 1) := by decide +kernel
theorem d_Ai_cost_20 : decode b_Ai_cost 20 = .ok (.iload_n 3, 1) := by decide +kernel
theorem d_Ai_cost_21 : decode b_Ai_cost 21 = .ok (.invokevirtual 141, 3) := by decide +kernel
theorem d_Ai_cost_24 : decode b_Ai_cost 24 = .ok (.aload_n 0, 1) := by decide +kernel
theorem d_Ai_cost_25 : decode b_Ai_cost 25 = .ok (.iload_n 1, 1) := by decide +kernel
theorem d_Ai_cost_26 : decode b_Ai_cost 26 = .ok (.invokevirtual 157, 3) := by decide +kernel
theorem d_Ai_cost_29 : decode b_Ai_cost 29 = .ok (.ireturn, 1) := by decide +kernel
theorem d_Ai_trespass_0 : decode b_Ai_trespass 0 = .ok (.aload_n 0, 1) := by decide +kernel
theorem d_Ai_trespass_1 : decode b_Ai_trespass 1 = .ok (.iload_n 1, 1) := by decide +kernel
theorem d_Ai_trespass_2 : decode b_Ai_trespass 2 = .ok (.iload_n 2, 1) := by decide +kernel
theorem d_Ai_trespass_3 : decode b_Ai_trespass 3 = .ok (.iload_n 3, 1) := by decide +kernel
theorem d_Ai_trespass_4 : decode b_Ai_trespass 4 = .ok (.invokevirtual 137, 3) := by decide +kernel
theorem d_Ai_trespass_7 : decode b_Ai_trespass 7 = .ok (.ifCond .eq 9, 3) := by decide +kernel
theorem d_Ai_trespass_10 : decode b_Ai_trespass 10 = .ok (.iload 4, 2) := by decide +kernel
theorem d_Ai_trespass_12 : decode b_Ai_trespass 12 = .ok (.iconst (-1), 1) := by decide +kernel
theorem d_Ai_trespass_13 : decode b_Ai_trespass 13 = .ok (.if_icmp .ge 12, 3) := by decide +kernel
theorem d_Ai_trespass_16 : decode b_Ai_trespass 16 = .ok (.aload_n 0, 1) := by decide +kernel
theorem d_Ai_trespass_17 : decode b_Ai_trespass 17 = .ok (.bipush (-2), 2) := by decide +kernel
theorem d_Ai_trespass_19 : decode b_Ai_trespass 19 = .ok (.bipush (-10), 2) := by decide +kernel
theorem d_Ai_trespass_21 : decode b_Ai_trespass 21 = .ok (.invokevirtual 160, 3) := by decide +kernel
theorem d_Ai_trespass_24 : decode b_Ai_trespass 24 = .ok (.ireturn, 1) := by decide +kernel
theorem d_Ai_trespass_25 : decode b_Ai_trespass 25 = .ok (.aload_n 0, 1) := by decide +kernel
theorem d_Ai_trespass_26 : decode b_Ai_trespass 26 = .ok (.iload_n 1, 1) := by decide +kernel
theorem d_Ai_trespass_27 : decode b_Ai_trespass 27 = .ok (.iload_n 2, 1) := by decide +kernel
theorem d_Ai_trespass_28 : decode b_Ai_trespass 28 = .ok (.iload_n 3, 1) := by decide +kernel
theorem d_Ai_trespass_29 : decode b_Ai_trespass 29 = .ok (.invokevirtual 141, 3) := by decide +kernel
theorem d_Ai_trespass_32 : decode b_Ai_trespass 32 = .ok (.aload_n 0, 1) := by decide +kernel
theorem d_Ai_trespass_33 : decode b_Ai_trespass 33 = .ok (.getfield 32, 3) := by decide +kernel
theorem d_Ai_trespass_36 : decode b_Ai_trespass 36 = .ok (.getfield 163, 3) := by decide +kernel
theorem d_Ai_trespass_39 : decode b_Ai_trespass 39 = .ok (.lstore 5, 2) := by decide +kernel
theorem d_Ai_trespass_41 : decode b_Ai_trespass 41 = .ok (.aload_n 0, 1) := by decide +kernel
theorem d_Ai_trespass_42 : decode b_Ai_trespass 42 = .ok (.getfield 32, 3) := by decide +kernel
theorem d_Ai_trespass_45 : decode b_Ai_trespass 45 = .ok (.invokevirtual 166, 3) := by decide +kernel
theorem d_Ai_trespass_48 : decode b_Ai_trespass 48 = .ok (.lstore 7, 2) := by decide +kernel
theorem d_Ai_trespass_50 : decode b_Ai_trespass 50 = .ok (.lload 7, 2) := by decide +kernel
theorem d_Ai_trespass_52 : decode b_Ai_trespass 52 = .ok (.lload 5, 2) := by decide +kernel
theorem d_Ai_trespass_54 : decode b_Ai_trespass 54 = .ok (.ldc2_w 170, 3) := by decide +kernel
theorem d_Ai_trespass_57 : decode b_Ai_trespass 57 = .ok (.lxor, 1) := by decide +kernel
theorem d_Ai_trespass_58 : decode b_Ai_trespass 58 = .ok (.land, 1) := by decide +kernel
theorem d_Ai_trespass_59 : decode b_Ai_trespass 59 = .ok (.iload 4, 2) := by decide +kernel
theorem d_Ai_trespass_61 : decode b_Ai_trespass 61 = .ok (.invokestatic 172, 3) := by decide +kernel
theorem d_Ai_trespass_64 : decode b_Ai_trespass 64 = .ok (.ireturn, 1) := by decide +kernel
theorem d_Ai_carried_0 : decode b_Ai_carried 0 = .ok (.aload_n 0, 1) := by decide +kernel
theorem d_Ai_carried_1 : decode b_Ai_carried 1 = .ok (.iload_n 1, 1) := by decide +kernel
theorem d_Ai_carried_2 : decode b_Ai_carried 2 = .ok (.iload_n 2, 1) := by decide +kernel
theorem d_Ai_carried_3 : decode b_Ai_carried 3 = .ok (.iload_n 3, 1) := by decide +kernel
theorem d_Ai_carried_4 : decode b_Ai_carried 4 = .ok (.invokevirtual 137, 3) := by decide +kernel
theorem d_Ai_carried_7 : decode b_Ai_carried 7 = .ok (.ifCond .eq 9, 3) := by decide +kernel
theorem d_Ai_carried_10 : decode b_Ai_carried 10 = .ok (.iload 4, 2) := by decide +kernel
theorem d_Ai_carried_12 : decode b_Ai_carried 12 = .ok (.iconst (-1), 1) := by decide +kernel
theorem d_Ai_carried_13 : decode b_Ai_carried 13 = .ok (.if_icmp .ge 12, 3) := by decide +kernel
theorem d_Ai_carried_16 : decode b_Ai_carried 16 = .ok (.aload_n 0, 1) := by decide +kernel
theorem d_Ai_carried_17 : decode b_Ai_carried 17 = .ok (.bipush (-2), 2) := by decide +kernel
theorem d_Ai_carried_19 : decode b_Ai_carried 19 = .ok (.bipush (-10), 2) := by decide +kernel
theorem d_Ai_carried_21 : decode b_Ai_carried 21 = .ok (.invokevirtual 160, 3) := by decide +kernel
theorem d_Ai_carried_24 : decode b_Ai_carried 24 = .ok (.ireturn, 1) := by decide +kernel
theorem d_Ai_carried_25 : decode b_Ai_carried 25 = .ok (.aload_n 0, 1) := by decide +kernel
theorem d_Ai_carried_26 : decode b_Ai_carried 26 = .ok (.iload_n 1, 1) := by decide +kernel
theorem d_Ai_carried_27 : decode b_Ai_carried 27 = .ok (.iload_n 2, 1) := by decide +kernel
theorem d_Ai_carried_28 : decode b_Ai_carried 28 = .ok (.iload_n 3, 1) := by decide +kernel
theorem d_Ai_carried_29 : decode b_Ai_carried 29 = .ok (.invokevirtual 141, 3) := by decide +kernel
theorem d_Ai_carried_32 : decode b_Ai_carried 32 = .ok (.aload_n 0, 1) := by decide +kernel
theorem d_Ai_carried_33 : decode b_Ai_carried 33 = .ok (.getfield 32, 3) := by decide +kernel
theorem d_Ai_carried_36 : decode b_Ai_carried 36 = .ok (.getfield 147, 3) := by decide +kernel
theorem d_Ai_carried_39 : decode b_Ai_carried 39 = .ok (.aload_n 0, 1) := by decide +kernel
theorem d_Ai_carried_40 : decode b_Ai_carried 40 = .ok (.getfield 32, 3) := by decide +kernel
theorem d_Ai_carried_43 : decode b_Ai_carried 43 = .ok (.getfield 163, 3) := by decide +kernel
theorem d_Ai_carried_46 : decode b_Ai_carried 46 = .ok (.ldc2_w 170, 3) := by decide +kernel
theorem d_Ai_carried_49 : decode b_Ai_carried 49 = .ok (.lxor, 1) := by decide +kernel
theorem d_Ai_carried_50 : decode b_Ai_carried 50 = .ok (.land, 1) := by decide +kernel
theorem d_Ai_carried_51 : decode b_Ai_carried 51 = .ok (.iload 4, 2) := by decide +kernel
theorem d_Ai_carried_53 : decode b_Ai_carried 53 = .ok (.invokestatic 172, 3) := by decide +kernel
theorem d_Ai_carried_56 : decode b_Ai_carried 56 = .ok (.ireturn, 1) := by decide +kernel
theorem d_Ai_mend_0 : decode b_Ai_mend 0 = .ok (.aload_n 0, 1) := by decide +kernel
theorem d_Ai_mend_1 : decode b_Ai_mend 1 = .ok (.iload_n 1, 1) := by decide +kernel
theorem d_Ai_mend_2 : decode b_Ai_mend 2 = .ok (.iload_n 2, 1) := by decide +kernel
theorem d_Ai_mend_3 : decode b_Ai_mend 3 = .ok (.iload_n 3, 1) := by decide +kernel
theorem d_Ai_mend_4 : decode b_Ai_mend 4 = .ok (.invokevirtual 137, 3) := by decide +kernel
theorem d_Ai_mend_7 : decode b_Ai_mend 7 = .ok (.ifCond .ne 13, 3) := by decide +kernel
theorem d_Ai_mend_10 : decode b_Ai_mend 10 = .ok (.aload_n 0, 1) := by decide +kernel
theorem d_Ai_mend_11 : decode b_Ai_mend 11 = .ok (.bipush (-2), 2) := by decide +kernel
theorem d_Ai_mend_13 : decode b_Ai_mend 13 = .ok (.bipush (-10), 2) := by decide +kernel
theorem d_Ai_mend_15 : decode b_Ai_mend 15 = .ok (.invokevirtual 160, 3) := by decide +kernel
theorem d_Ai_mend_18 : decode b_Ai_mend 18 = .ok (.i2l, 1) := by decide +kernel
theorem d_Ai_mend_19 : decode b_Ai_mend 19 = .ok (.lreturn, 1) := by decide +kernel
theorem d_Ai_mend_20 : decode b_Ai_mend 20 = .ok (.aload_n 0, 1) := by decide +kernel
theorem d_Ai_mend_21 : decode b_Ai_mend 21 = .ok (.getfield 12, 3) := by decide +kernel
theorem d_Ai_mend_24 : decode b_Ai_mend 24 = .ok (.getfield 62, 3) := by decide +kernel
theorem d_Ai_mend_27 : decode b_Ai_mend 27 = .ok (.iconst 2, 1) := by decide +kernel
theorem d_Ai_mend_28 : decode b_Ai_mend 28 = .ok (.laload, 1) := by decide +kernel
theorem d_Ai_mend_29 : decode b_Ai_mend 29 = .ok (.invokestatic 151, 3) := by decide +kernel
theorem d_Ai_mend_32 : decode b_Ai_mend 32 = .ok (.bipush 8, 2) := by decide +kernel
theorem d_Ai_mend_34 : decode b_Ai_mend 34 = .ok (.if_icmp .le 13, 3) := by decide +kernel
theorem d_Ai_mend_37 : decode b_Ai_mend 37 = .ok (.aload_n 0, 1) := by decide +kernel
theorem d_Ai_mend_38 : decode b_Ai_mend 38 = .ok (.bipush (-3), 2) := by decide +kernel
theorem d_Ai_mend_40 : decode b_Ai_mend 40 = .ok (.bipush (-20), 2) := by decide +kernel
theorem d_Ai_mend_42 : decode b_Ai_mend 42 = .ok (.invokevirtual 160, 3) := by decide +kernel
theorem d_Ai_mend_45 : decode b_Ai_mend 45 = .ok (.i2l, 1) := by decide +kernel
theorem d_Ai_mend_46 : decode b_Ai_mend 46 = .ok (.lreturn, 1) := by decide +kernel
theorem d_Ai_mend_47 : decode b_Ai_mend 47 = .ok (.aload_n 0, 1) := by decide +kernel
theorem d_Ai_mend_48 : decode b_Ai_mend 48 = .ok (.iload_n 1, 1) := by decide +kernel
theorem d_Ai_mend_49 : decode b_Ai_mend 49 = .ok (.iload_n 2, 1) := by decide +kernel
theorem d_Ai_mend_50 : decode b_Ai_mend 50 = .ok (.iload_n 3, 1) := by decide +kernel
theorem d_Ai_mend_51 : decode b_Ai_mend 51 = .ok (.invokevirtual 141, 3) := by decide +kernel
theorem d_Ai_mend_54 : decode b_Ai_mend 54 = .ok (.aload_n 0, 1) := by decide +kernel
theorem d_Ai_mend_55 : decode b_Ai_mend 55 = .ok (.getfield 32, 3) := by decide +kernel
theorem d_Ai_mend_58 : decode b_Ai_mend 58 = .ok (.invokevirtual 176, 3) := by decide +kernel
theorem d_Ai_mend_61 : decode b_Ai_mend 61 = .ok (.lreturn, 1) := by decide +kernel
theorem d_Ai_ears_0 : decode b_Ai_ears 0 = .ok (.aload_n 0, 1) := by decide +kernel
theorem d_Ai_ears_1 : decode b_Ai_ears 1 = .ok (.iload_n 1, 1) := by decide +kernel
theorem d_Ai_ears_2 : decode b_Ai_ears 2 = .ok (.invokevirtual 58, 3) := by decide +kernel
theorem d_Ai_ears_5 : decode b_Ai_ears 5 = .ok (.ifCond .eq 12, 3) := by decide +kernel
theorem d_Ai_ears_8 : decode b_Ai_ears 8 = .ok (.iload_n 2, 1) := by decide +kernel
theorem d_Ai_ears_9 : decode b_Ai_ears 9 = .ok (.ifCond .lt 8, 3) := by decide +kernel
theorem d_Ai_ears_12 : decode b_Ai_ears 12 = .ok (.iload_n 2, 1) := by decide +kernel
theorem d_Ai_ears_13 : decode b_Ai_ears 13 = .ok (.iconst 3, 1) := by decide +kernel
theorem d_Ai_ears_14 : decode b_Ai_ears 14 = .ok (.if_icmp .lt 10, 3) := by decide +kernel
theorem d_Ai_ears_17 : decode b_Ai_ears 17 = .ok (.aload_n 0, 1) := by decide +kernel
theorem d_Ai_ears_18 : decode b_Ai_ears 18 = .ok (.bipush (-2), 2) := by decide +kernel
theorem d_Ai_ears_20 : decode b_Ai_ears 20 = .ok (.invokevirtual 50, 3) := by decide +kernel
theorem d_Ai_ears_23 : decode b_Ai_ears 23 = .ok (.ireturn, 1) := by decide +kernel
theorem d_Ai_ears_24 : decode b_Ai_ears 24 = .ok (.aload_n 0, 1) := by decide +kernel
theorem d_Ai_ears_25 : decode b_Ai_ears 25 = .ok (.getfield 12, 3) := by decide +kernel
theorem d_Ai_ears_28 : decode b_Ai_ears 28 = .ok (.getfield 179, 3) := by decide +kernel
theorem d_Ai_ears_31 : decode b_Ai_ears 31 = .ok (.iload_n 1, 1) := by decide +kernel
theorem d_Ai_ears_32 : decode b_Ai_ears 32 = .ok (.iload_n 2, 1) := by decide +kernel
theorem d_Ai_ears_33 : decode b_Ai_ears 33 = .ok (.invokestatic 66, 3) := by decide +kernel
theorem d_Ai_ears_36 : decode b_Ai_ears 36 = .ok (.ireturn, 1) := by decide +kernel
theorem d_Ai_buy_0 : decode b_Ai_buy 0 = .ok (.aload_n 0, 1) := by decide +kernel
theorem d_Ai_buy_1 : decode b_Ai_buy 1 = .ok (.iload_n 1, 1) := by decide +kernel
theorem d_Ai_buy_2 : decode b_Ai_buy 2 = .ok (.iload_n 2, 1) := by decide +kernel
theorem d_Ai_buy_3 : decode b_Ai_buy 3 = .ok (.iload_n 3, 1) := by decide +kernel
theorem d_Ai_buy_4 : decode b_Ai_buy 4 = .ok (.invokevirtual 137, 3) := by decide +kernel
theorem d_Ai_buy_7 : decode b_Ai_buy 7 = .ok (.ifCond .eq 11, 3) := by decide +kernel
theorem d_Ai_buy_10 : decode b_Ai_buy 10 = .ok (.iload 4, 2) := by decide +kernel
theorem d_Ai_buy_12 : decode b_Ai_buy 12 = .ok (.invokestatic 182, 3) := by decide +kernel
theorem d_Ai_buy_15 : decode b_Ai_buy 15 = .ok (.ifCond .ne 12, 3) := by decide +kernel
theorem d_Ai_buy_18 : decode b_Ai_buy 18 = .ok (.aload_n 0, 1) := by decide +kernel
theorem d_Ai_buy_19 : decode b_Ai_buy 19 = .ok (.bipush (-2), 2) := by decide +kernel
theorem d_Ai_buy_21 : decode b_Ai_buy 21 = .ok (.bipush (-10), 2) := by decide +kernel
theorem d_Ai_buy_23 : decode b_Ai_buy 23 = .ok (.invokevirtual 160, 3) := by decide +kernel
theorem d_Ai_buy_26 : decode b_Ai_buy 26 = .ok (.ireturn, 1) := by decide +kernel
theorem d_Ai_buy_27 : decode b_Ai_buy 27 = .ok (.iconst (-1), 1) := by decide +kernel
theorem d_Ai_buy_28 : decode b_Ai_buy 28 = .ok (.istore 5, 2) := by decide +kernel
theorem d_Ai_buy_30 : decode b_Ai_buy 30 = .ok (.iconst (-1), 1) := by decide +kernel
theorem d_Ai_buy_31 : decode b_Ai_buy 31 = .ok (.istore 6, 2) := by decide +kernel
theorem d_Ai_buy_33 : decode b_Ai_buy 33 = .ok (.iconst 0, 1) := by decide +kernel
theorem d_Ai_buy_34 : decode b_Ai_buy 34 = .ok (.istore 7, 2) := by decide +kernel
theorem d_Ai_buy_36 : decode b_Ai_buy 36 = .ok (.iload 7, 2) := by decide +kernel
theorem d_Ai_buy_38 : decode b_Ai_buy 38 = .ok (.bipush 64, 2) := by decide +kernel
theorem d_Ai_buy_40 : decode b_Ai_buy 40 = .ok (.if_icmp .ge 81, 3) := by decide +kernel
theorem d_Ai_buy_43 : decode b_Ai_buy 43 = .ok (.iload 7, 2) := by decide +kernel
theorem d_Ai_buy_45 : decode b_Ai_buy 45 = .ok (.aload_n 0, 1) := by decide +kernel
theorem d_Ai_buy_46 : decode b_Ai_buy 46 = .ok (.getfield 12, 3) := by decide +kernel
theorem d_Ai_buy_49 : decode b_Ai_buy 49 = .ok (.getfield 185, 3) := by decide +kernel
theorem d_Ai_buy_52 : decode b_Ai_buy 52 = .ok (.iload_n 1, 1) := by decide +kernel
theorem d_Ai_buy_53 : decode b_Ai_buy 53 = .ok (.iaload, 1) := by decide +kernel
theorem d_Ai_buy_54 : decode b_Ai_buy 54 = .ok (.ishr, 1) := by decide +kernel
theorem d_Ai_buy_55 : decode b_Ai_buy 55 = .ok (.iconst 1, 1) := by decide +kernel
theorem d_Ai_buy_56 : decode b_Ai_buy 56 = .ok (.iand, 1) := by decide +kernel
theorem d_Ai_buy_57 : decode b_Ai_buy 57 = .ok (.ifCond .eq 6, 3) := by decide +kernel
theorem d_Ai_buy_60 : decode b_Ai_buy 60 = .ok (.goto 55, 3) := by decide +kernel
theorem d_Ai_buy_63 : decode b_Ai_buy 63 = .ok (.aload_n 0, 1) := by decide +kernel
theorem d_Ai_buy_64 : decode b_Ai_buy 64 = .ok (.getfield 32, 3) := by decide +kernel
theorem d_Ai_buy_67 : decode b_Ai_buy 67 = .ok (.aload_n 0, 1) := by decide +kernel
theorem d_Ai_buy_68 : decode b_Ai_buy 68 = .ok (.getfield 12, 3) := by decide +kernel
theorem d_Ai_buy_71 : decode b_Ai_buy 71 = .ok (.iload_n 1, 1) := by decide +kernel
theorem d_Ai_buy_72 : decode b_Ai_buy 72 = .ok (.iload_n 2, 1) := by decide +kernel
theorem d_Ai_buy_73 : decode b_Ai_buy 73 = .ok (.iload_n 3, 1) := by decide +kernel
theorem d_Ai_buy_74 : decode b_Ai_buy 74 = .ok (.iload 7, 2) := by decide +kernel
theorem d_Ai_buy_76 : decode b_Ai_buy 76 = .ok (.iconst 0, 1) := by decide +kernel
theorem d_Ai_buy_77 : decode b_Ai_buy 77 = .ok (.invokevirtual 188, 3) := by decide +kernel
theorem d_Ai_buy_80 : decode b_Ai_buy 80 = .ok (.aload_n 0, 1) := by decide +kernel
theorem d_Ai_buy_81 : decode b_Ai_buy 81 = .ok (.iload_n 1, 1) := by decide +kernel
theorem d_Ai_buy_82 : decode b_Ai_buy 82 = .ok (.invokevirtual 157, 3) := by decide +kernel
theorem d_Ai_buy_85 : decode b_Ai_buy 85 = .ok (.istore 8, 2) := by decide +kernel
theorem d_Ai_buy_87 : decode b_Ai_buy 87 = .ok (.aload_n 0, 1) := by decide +kernel
theorem d_Ai_buy_88 : decode b_Ai_buy 88 = .ok (.invokevirtual 192, 3) := by decide +kernel
theorem d_Ai_buy_91 : decode b_Ai_buy 91 = .ok (.ifCond .eq 24, 3) := by decide +kernel
theorem d_Ai_buy_94 : decode b_Ai_buy 94 = .ok (.iload 6, 2) := by decide +kernel
theorem d_Ai_buy_96 : decode b_Ai_buy 96 = .ok (.iconst (-1), 1) := by decide +kernel
theorem d_Ai_buy_97 : decode b_Ai_buy 97 = .ok (.if_icmp .eq 10, 3) := by decide +kernel
theorem d_Ai_buy_100 : decode b_Ai_buy 100 = .ok (.iload 8, 2) := by decide +kernel
theorem d_Ai_buy_102 : decode b_Ai_buy 102 = .ok (.iload 5, 2) := by decide +kernel
theorem d_Ai_buy_104 : decode b_Ai_buy 104 = .ok (.if_icmp .ge 11, 3) := by decide +kernel
theorem d_Ai_buy_107 : decode b_Ai_buy 107 = .ok (.iload 8, 2) := by decide +kernel
theorem d_Ai_buy_109 : decode b_Ai_buy 109 = .ok (.istore 5, 2) := by decide +kernel
theorem d_Ai_buy_111 : decode b_Ai_buy 111 = .ok (.iload 7, 2) := by decide +kernel
theorem d_Ai_buy_113 : decode b_Ai_buy 113 = .ok (.istore 6, 2) := by decide +kernel
theorem d_Ai_buy_115 : decode b_Ai_buy 115 = .ok (.iinc 7 1, 3) := by decide +kernel
theorem d_Ai_buy_118 : decode b_Ai_buy 118 = .ok (.goto (-82), 3) := by decide +kernel
theorem d_Ai_buy_121 : decode b_Ai_buy 121 = .ok (.iload 4, 2) := by decide +kernel
theorem d_Ai_buy_123 : decode b_Ai_buy 123 = .ok (.ifCond .ne 8, 3) := by decide +kernel
theorem d_Ai_buy_126 : decode b_Ai_buy 126 = .ok (.iload 5, 2) := by decide +kernel
theorem d_Ai_buy_128 : decode b_Ai_buy 128 = .ok (.goto 5, 3) := by decide +kernel
theorem d_Ai_buy_131 : decode b_Ai_buy 131 = .ok (.iload 6, 2) := by decide +kernel
theorem d_Ai_buy_133 : decode b_Ai_buy 133 = .ok (.ireturn, 1) := by decide +kernel
theorem d_Ai_who_0 : decode b_Ai_who 0 = .ok (.iload_n 1, 1) := by decide +kernel
theorem d_Ai_who_1 : decode b_Ai_who 1 = .ok (.invokestatic 91, 3) := by decide +kernel
theorem d_Ai_who_4 : decode b_Ai_who 4 = .ok (.ifCond .eq 8, 3) := by decide +kernel
theorem d_Ai_who_7 : decode b_Ai_who 7 = .ok (.iload_n 2, 1) := by decide +kernel
theorem d_Ai_who_8 : decode b_Ai_who 8 = .ok (.iconst (-1), 1) := by decide +kernel
theorem d_Ai_who_9 : decode b_Ai_who 9 = .ok (.if_icmp .ge 12, 3) := by decide +kernel
theorem d_Ai_who_12 : decode b_Ai_who 12 = .ok (.aload_n 0, 1) := by decide +kernel
theorem d_Ai_who_13 : decode b_Ai_who 13 = .ok (.bipush (-2), 2) := by decide +kernel
theorem d_Ai_who_15 : decode b_Ai_who 15 = .ok (.bipush (-10), 2) := by decide +kernel
theorem d_Ai_who_17 : decode b_Ai_who 17 = .ok (.invokevirtual 160, 3) := by decide +kernel
theorem d_Ai_who_20 : decode b_Ai_who 20 = .ok (.ireturn, 1) := by decide +kernel
theorem d_Ai_who_21 : decode b_Ai_who 21 = .ok (.iconst 0, 1) := by decide +kernel
theorem d_Ai_who_22 : decode b_Ai_who 22 = .ok (.istore_n 3, 1) := by decide +kernel
theorem d_Ai_who_23 : decode b_Ai_who 23 = .ok (.iconst 0, 1) := by decide +kernel
theorem d_Ai_who_24 : decode b_Ai_who 24 = .ok (.istore 4, 2) := by decide +kernel
theorem d_Ai_who_26 : decode b_Ai_who 26 = .ok (.iload 4, 2) := by decide +kernel
theorem d_Ai_who_28 : decode b_Ai_who 28 = .ok (.aload_n 0, 1) := by decide +kernel
theorem d_Ai_who_29 : decode b_Ai_who 29 = .ok (.getfield 12, 3) := by decide +kernel
theorem d_Ai_who_32 : decode b_Ai_who 32 = .ok (.getfield 80, 3) := by decide +kernel
theorem d_Ai_who_35 : decode b_Ai_who 35 = .ok (.if_icmp .ge 58, 3) := by decide +kernel
theorem d_Ai_who_38 : decode b_Ai_who 38 = .ok (.iconst 1, 1) := by decide +kernel
theorem d_Ai_who_39 : decode b_Ai_who 39 = .ok (.istore 5, 2) := by decide +kernel
theorem d_Ai_who_41 : decode b_Ai_who 41 = .ok (.iload 5, 2) := by decide +kernel
theorem d_Ai_who_43 : decode b_Ai_who 43 = .ok (.bipush 20, 2) := by decide +kernel
theorem d_Ai_who_45 : decode b_Ai_who 45 = .ok (.if_icmp .gt 42, 3) := by decide +kernel
theorem d_Ai_who_48 : decode b_Ai_who 48 = .ok (.aload_n 0, 1) := by decide +kernel
theorem d_Ai_who_49 : decode b_Ai_who 49 = .ok (.iload 4, 2) := by decide +kernel
theorem d_Ai_who_51 : decode b_Ai_who 51 = .ok (.iload 5, 2) := by decide +kernel
theorem d_Ai_who_53 : decode b_Ai_who 53 = .ok (.iload_n 1, 1) := by decide +kernel
theorem d_Ai_who_54 : decode b_Ai_who 54 = .ok (.invokevirtual 141, 3) := by decide +kernel
theorem d_Ai_who_57 : decode b_Ai_who 57 = .ok (.aload_n 0, 1) := by decide +kernel
theorem d_Ai_who_58 : decode b_Ai_who 58 = .ok (.invokevirtual 192, 3) := by decide +kernel
theorem d_Ai_who_61 : decode b_Ai_who 61 = .ok (.ifCond .eq 20, 3) := by decide +kernel
theorem d_Ai_who_64 : decode b_Ai_who 64 = .ok (.iload_n 3, 1) := by decide +kernel
theorem d_Ai_who_65 : decode b_Ai_who 65 = .ok (.iload_n 2, 1) := by decide +kernel
theorem d_Ai_who_66 : decode b_Ai_who 66 = .ok (.if_icmp .ne 12, 3) := by decide +kernel
theorem d_Ai_who_69 : decode b_Ai_who 69 = .ok (.bipush 100, 2) := by decide +kernel
theorem d_Ai_who_71 : decode b_Ai_who 71 = .ok (.iload 4, 2) := by decide +kernel
theorem d_Ai_who_73 : decode b_Ai_who 73 = .ok (.imul, 1) := by decide +kernel
theorem d_Ai_who_74 : decode b_Ai_who 74 = .ok (.iload 5, 2) := by decide +kernel
theorem d_Ai_who_76 : decode b_Ai_who 76 = .ok (.iadd, 1) := by decide +kernel
theorem d_Ai_who_77 : decode b_Ai_who 77 = .ok (.ireturn, 1) := by decide +kernel
theorem d_Ai_who_78 : decode b_Ai_who 78 = .ok (.iinc 3 1, 3) := by decide +kernel
theorem d_Ai_who_81 : decode b_Ai_who 81 = .ok (.iinc 5 1, 3) := by decide +kernel
theorem d_Ai_who_84 : decode b_Ai_who 84 = .ok (.goto (-43), 3) := by decide +kernel
theorem d_Ai_who_87 : decode b_Ai_who 87 = .ok (.iinc 4 1, 3) := by decide +kernel
theorem d_Ai_who_90 : decode b_Ai_who 90 = .ok (.goto (-64), 3) := by decide +kernel
theorem d_Ai_who_93 : decode b_Ai_who 93 = .ok (.iload_n 2, 1) := by decide +kernel
theorem d_Ai_who_94 : decode b_Ai_who 94 = .ok (.iconst (-1), 1) := by decide +kernel
theorem d_Ai_who_95 : decode b_Ai_who 95 = .ok (.if_icmp .ne 7, 3) := by decide +kernel
theorem d_Ai_who_98 : decode b_Ai_who 98 = .ok (.iload_n 3, 1) := by decide +kernel
theorem d_Ai_who_99 : decode b_Ai_who 99 = .ok (.goto 5, 3) := by decide +kernel
theorem d_Ai_who_102 : decode b_Ai_who 102 = .ok (.bipush (-5), 2) := by decide +kernel
theorem d_Ai_who_104 : decode b_Ai_who 104 = .ok (.ireturn, 1) := by decide +kernel
theorem d_Ai_still_0 : decode b_Ai_still 0 = .ok (.iload_n 1, 1) := by decide +kernel
theorem d_Ai_still_1 : decode b_Ai_still 1 = .ok (.invokestatic 94, 3) := by decide +kernel
theorem d_Ai_still_4 : decode b_Ai_still 4 = .ok (.ifCond .eq 18, 3) := by decide +kernel
theorem d_Ai_still_7 : decode b_Ai_still 7 = .ok (.iload_n 2, 1) := by decide +kernel
theorem d_Ai_still_8 : decode b_Ai_still 8 = .ok (.invokestatic 91, 3) := by decide +kernel
theorem d_Ai_still_11 : decode b_Ai_still 11 = .ok (.ifCond .eq 11, 3) := by decide +kernel
theorem d_Ai_still_14 : decode b_Ai_still 14 = .ok (.aload_n 0, 1) := by decide +kernel
theorem d_Ai_still_15 : decode b_Ai_still 15 = .ok (.iload_n 3, 1) := by decide +kernel
theorem d_Ai_still_16 : decode b_Ai_still 16 = .ok (.invokevirtual 58, 3) := by decide +kernel
theorem d_Ai_still_19 : decode b_Ai_still 19 = .ok (.ifCond .ne 10, 3) := by decide +kernel
theorem d_Ai_still_22 : decode b_Ai_still 22 = .ok (.aload_n 0, 1) := by decide +kernel
theorem d_Ai_still_23 : decode b_Ai_still 23 = .ok (.bipush (-2), 2) := by decide +kernel
theorem d_Ai_still_25 : decode b_Ai_still 25 = .ok (.invokevirtual 50, 3) := by decide +kernel
theorem d_Ai_still_28 : decode b_Ai_still 28 = .ok (.ireturn, 1) := by decide +kernel
theorem d_Ai_still_29 : decode b_Ai_still 29 = .ok (.aload_n 0, 1) := by decide +kernel
theorem d_Ai_still_30 : decode b_Ai_still 30 = .ok (.iload_n 2, 1) := by decide +kernel
theorem d_Ai_still_31 : decode b_Ai_still 31 = .ok (.invokevirtual 196, 3) := by decide +kernel
theorem d_Ai_still_34 : decode b_Ai_still 34 = .ok (.istore 4, 2) := by decide +kernel
theorem d_Ai_still_36 : decode b_Ai_still 36 = .ok (.aload_n 0, 1) := by decide +kernel
theorem d_Ai_still_37 : decode b_Ai_still 37 = .ok (.iload_n 1, 1) := by decide +kernel
theorem d_Ai_still_38 : decode b_Ai_still 38 = .ok (.iload_n 2, 1) := by decide +kernel
theorem d_Ai_still_39 : decode b_Ai_still 39 = .ok (.iload_n 3, 1) := by decide +kernel
theorem d_Ai_still_40 : decode b_Ai_still 40 = .ok (.iload 4, 2) := by decide +kernel
theorem d_Ai_still_42 : decode b_Ai_still 42 = .ok (.invokevirtual 199, 3) := by decide +kernel
theorem d_Ai_still_45 : decode b_Ai_still 45 = .ok (.ifCond .ne 5, 3) := by decide +kernel
theorem d_Ai_still_48 : decode b_Ai_still 48 = .ok (.iconst (-1), 1) := by decide +kernel
theorem d_Ai_still_49 : decode b_Ai_still 49 = .ok (.ireturn, 1) := by decide +kernel
theorem d_Ai_still_50 : decode b_Ai_still 50 = .ok (.iload 4, 2) := by decide +kernel
theorem d_Ai_still_52 : decode b_Ai_still 52 = .ok (.istore 5, 2) := by decide +kernel
theorem d_Ai_still_54 : decode b_Ai_still 54 = .ok (.iconst 0, 1) := by decide +kernel
theorem d_Ai_still_55 : decode b_Ai_still 55 = .ok (.istore 6, 2) := by decide +kernel
theorem d_Ai_still_57 : decode b_Ai_still 57 = .ok (.iload 6, 2) := by decide +kernel
theorem d_Ai_still_59 : decode b_Ai_still 59 = .ok (.iload 4, 2) := by decide +kernel
theorem d_Ai_still_61 : decode b_Ai_still 61 = .ok (.if_icmp .ge 60, 3) := by decide +kernel
theorem d_Ai_still_64 : decode b_Ai_still 64 = .ok (.iload 6, 2) := by decide +kernel
theorem d_Ai_still_66 : decode b_Ai_still 66 = .ok (.iload 4, 2) := by decide +kernel
theorem d_Ai_still_68 : decode b_Ai_still 68 = .ok (.iconst (-1), 1) := by decide +kernel
theorem d_Ai_still_69 : decode b_Ai_still 69 = .ok (.ixor, 1) := by decide +kernel
theorem d_Ai_still_70 : decode b_Ai_still 70 = .ok (.iand, 1) := by decide +kernel
theorem d_Ai_still_71 : decode b_Ai_still 71 = .ok (.ifCond .ne 20, 3) := by decide +kernel
theorem d_Ai_still_74 : decode b_Ai_still 74 = .ok (.iload 6, 2) := by decide +kernel
theorem d_Ai_still_76 : decode b_Ai_still 76 = .ok (.invokestatic 203, 3) := by decide +kernel
theorem d_Ai_still_79 : decode b_Ai_still 79 = .ok (.iload 5, 2) := by decide +kernel
theorem d_Ai_still_81 : decode b_Ai_still 81 = .ok (.invokestatic 203, 3) := by decide +kernel
theorem d_Ai_still_84 : decode b_Ai_still 84 = .ok (.if_icmp .ge 7, 3) := by decide +kernel
theorem d_Ai_still_87 : decode b_Ai_still 87 = .ok (.iconst 1, 1) := by decide +kernel
theorem d_Ai_still_88 : decode b_Ai_still 88 = .ok (.goto 4, 3) := by decide +kernel
theorem d_Ai_still_91 : decode b_Ai_still 91 = .ok (.iconst 0, 1) := by decide +kernel
theorem d_Ai_still_92 : decode b_Ai_still 92 = .ok (.istore 7, 2) := by decide +kernel
theorem d_Ai_still_94 : decode b_Ai_still 94 = .ok (.iload 7, 2) := by decide +kernel
theorem d_Ai_still_96 : decode b_Ai_still 96 = .ok (.ifCond .eq 19, 3) := by decide +kernel
theorem d_Ai_still_99 : decode b_Ai_still 99 = .ok (.aload_n 0, 1) := by decide +kernel
theorem d_Ai_still_100 : decode b_Ai_still 100 = .ok (.iload_n 1, 1) := by decide +kernel
theorem d_Ai_still_101 : decode b_Ai_still 101 = .ok (.iload_n 2, 1) := by decide +kernel
theorem d_Ai_still_102 : decode b_Ai_still 102 = .ok (.iload_n 3, 1) := by decide +kernel
theorem d_Ai_still_103 : decode b_Ai_still 103 = .ok (.iload 6, 2) := by decide +kernel
theorem d_Ai_still_105 : decode b_Ai_still 105 = .ok (.invokevirtual 199, 3) := by decide +kernel
theorem d_Ai_still_108 : decode b_Ai_still 108 = .ok (.ifCond .eq 7, 3) := by decide +kernel
theorem d_Ai_still_111 : decode b_Ai_still 111 = .ok (.iload 6, 2) := by decide +kernel
theorem d_Ai_still_113 : decode b_Ai_still 113 = .ok (.istore 5, 2) := by decide +kernel
theorem d_Ai_still_115 : decode b_Ai_still 115 = .ok (.iinc 6 1, 3) := by decide +kernel
theorem d_Ai_still_118 : decode b_Ai_still 118 = .ok (.goto (-61), 3) := by decide +kernel
theorem d_Ai_still_121 : decode b_Ai_still 121 = .ok (.iload 5, 2) := by decide +kernel
theorem d_Ai_still_123 : decode b_Ai_still 123 = .ok (.ireturn, 1) := by decide +kernel
theorem d_Ai_cry_0 : decode b_Ai_cry 0 = .ok (.aload_n 0, 1) := by decide +kernel
theorem d_Ai_cry_1 : decode b_Ai_cry 1 = .ok (.iload_n 1, 1) := by decide +kernel
theorem d_Ai_cry_2 : decode b_Ai_cry 2 = .ok (.invokevirtual 88, 3) := by decide +kernel
theorem d_Ai_cry_5 : decode b_Ai_cry 5 = .ok (.ifCond .eq 13, 3) := by decide +kernel
theorem d_Ai_cry_8 : decode b_Ai_cry 8 = .ok (.iload_n 2, 1) := by decide +kernel
theorem d_Ai_cry_9 : decode b_Ai_cry 9 = .ok (.ifCond .lt 9, 3) := by decide +kernel
theorem d_Ai_cry_12 : decode b_Ai_cry 12 = .ok (.iload_n 2, 1) := by decide +kernel
theorem d_Ai_cry_13 : decode b_Ai_cry 13 = .ok (.bipush 20, 2) := by decide +kernel
theorem d_Ai_cry_15 : decode b_Ai_cry 15 = .ok (.if_icmp .le 10, 3) := by decide +kernel
theorem d_Ai_cry_18 : decode b_Ai_cry 18 = .ok (.aload_n 0, 1) := by decide +kernel
theorem d_Ai_cry_19 : decode b_Ai_cry 19 = .ok (.bipush (-2), 2) := by decide +kernel
theorem d_Ai_cry_21 : decode b_Ai_cry 21 = .ok (.invokevirtual 50, 3) := by decide +kernel
theorem d_Ai_cry_24 : decode b_Ai_cry 24 = .ok (.ireturn, 1) := by decide +kernel
theorem d_Ai_cry_25 : decode b_Ai_cry 25 = .ok (.aload_n 0, 1) := by decide +kernel
theorem d_Ai_cry_26 : decode b_Ai_cry 26 = .ok (.getfield 12, 3) := by decide +kernel
theorem d_Ai_cry_29 : decode b_Ai_cry 29 = .ok (.getfield 207, 3) := by decide +kernel
theorem d_Ai_cry_32 : decode b_Ai_cry 32 = .ok (.iload_n 1, 1) := by decide +kernel
theorem d_Ai_cry_33 : decode b_Ai_cry 33 = .ok (.iaload, 1) := by decide +kernel
theorem d_Ai_cry_34 : decode b_Ai_cry 34 = .ok (.istore_n 3, 1) := by decide +kernel
theorem d_Ai_cry_35 : decode b_Ai_cry 35 = .ok (.aload_n 0, 1) := by decide +kernel
theorem d_Ai_cry_36 : decode b_Ai_cry 36 = .ok (.getfield 12, 3) := by decide +kernel
theorem d_Ai_cry_39 : decode b_Ai_cry 39 = .ok (.getfield 207, 3) := by decide +kernel
theorem d_Ai_cry_42 : decode b_Ai_cry 42 = .ok (.iload_n 1, 1) := by decide +kernel
theorem d_Ai_cry_43 : decode b_Ai_cry 43 = .ok (.iload_n 2, 1) := by decide +kernel
theorem d_Ai_cry_44 : decode b_Ai_cry 44 = .ok (.iastore, 1) := by decide +kernel
theorem d_Ai_cry_45 : decode b_Ai_cry 45 = .ok (.iload_n 3, 1) := by decide +kernel
theorem d_Ai_cry_46 : decode b_Ai_cry 46 = .ok (.ireturn, 1) := by decide +kernel
theorem d_Ai_criers_0 : decode b_Ai_criers 0 = .ok (.aload_n 0, 1) := by decide +kernel
theorem d_Ai_criers_1 : decode b_Ai_criers 1 = .ok (.iload_n 1, 1) := by decide +kernel
theorem d_Ai_criers_2 : decode b_Ai_criers 2 = .ok (.invokevirtual 88, 3) := by decide +kernel
theorem d_Ai_criers_5 : decode b_Ai_criers 5 = .ok (.ifCond .eq 26, 3) := by decide +kernel
theorem d_Ai_criers_8 : decode b_Ai_criers 8 = .ok (.aload_n 0, 1) := by decide +kernel
theorem d_Ai_criers_9 : decode b_Ai_criers 9 = .ok (.iload_n 2, 1) := by decide +kernel
theorem d_Ai_criers_10 : decode b_Ai_criers 10 = .ok (.invokevirtual 88, 3) := by decide +kernel
theorem d_Ai_criers_13 : decode b_Ai_criers 13 = .ok (.ifCond .eq 18, 3) := by decide +kernel
theorem d_Ai_criers_16 : decode b_Ai_criers 16 = .ok (.iload_n 3, 1) := by decide +kernel
theorem d_Ai_criers_17 : decode b_Ai_criers 17 = .ok (.invokestatic 91, 3) := by decide +kernel
theorem d_Ai_criers_20 : decode b_Ai_criers 20 = .ok (.ifCond .eq 11, 3) := by decide +kernel
theorem d_Ai_criers_23 : decode b_Ai_criers 23 = .ok (.iload 4, 2) := by decide +kernel
theorem d_Ai_criers_25 : decode b_Ai_criers 25 = .ok (.invokestatic 182, 3) := by decide +kernel
theorem d_Ai_criers_28 : decode b_Ai_criers 28 = .ok (.ifCond .ne 10, 3) := by decide +kernel
theorem d_Ai_criers_31 : decode b_Ai_criers 31 = .ok (.aload_n 0, 1) := by decide +kernel
theorem d_Ai_criers_32 : decode b_Ai_criers 32 = .ok (.bipush (-2), 2) := by decide +kernel
theorem d_Ai_criers_34 : decode b_Ai_criers 34 = .ok (.invokevirtual 50, 3) := by decide +kernel
theorem d_Ai_criers_37 : decode b_Ai_criers 37 = .ok (.ireturn, 1) := by decide +kernel
theorem d_Ai_criers_38 : decode b_Ai_criers 38 = .ok (.iload_n 1, 1) := by decide +kernel
theorem d_Ai_criers_39 : decode b_Ai_criers 39 = .ok (.iload_n 2, 1) := by decide +kernel
theorem d_Ai_criers_40 : decode b_Ai_criers 40 = .ok (.if_icmp .ne 14, 3) := by decide +kernel
theorem d_Ai_criers_43 : decode b_Ai_criers 43 = .ok (.iload 4, 2) := by decide +kernel
theorem d_Ai_criers_45 : decode b_Ai_criers 45 = .ok (.ifCond .ne 7, 3) := by decide +kernel
theorem d_Ai_criers_48 : decode b_Ai_criers 48 = .ok (.iconst 1, 1) := by decide +kernel
theorem d_Ai_criers_49 : decode b_Ai_criers 49 = .ok (.goto 4, 3) := by decide +kernel
theorem d_Ai_criers_52 : decode b_Ai_criers 52 = .ok (.iconst (-1), 1) := by decide +kernel
theorem d_Ai_criers_53 : decode b_Ai_criers 53 = .ok (.ireturn, 1) := by decide +kernel
theorem d_Ai_criers_54 : decode b_Ai_criers 54 = .ok (.aload_n 0, 1) := by decide +kernel
theorem d_Ai_criers_55 : decode b_Ai_criers 55 = .ok (.iload_n 3, 1) := by decide +kernel
theorem d_Ai_criers_56 : decode b_Ai_criers 56 = .ok (.invokevirtual 210, 3) := by decide +kernel
theorem d_Ai_criers_59 : decode b_Ai_criers 59 = .ok (.iconst 1, 1) := by decide +kernel
theorem d_Ai_criers_60 : decode b_Ai_criers 60 = .ok (.iload_n 2, 1) := by decide +kernel
theorem d_Ai_criers_61 : decode b_Ai_criers 61 = .ok (.ishl, 1) := by decide +kernel
theorem d_Ai_criers_62 : decode b_Ai_criers 62 = .ok (.istore 5, 2) := by decide +kernel
theorem d_Ai_criers_64 : decode b_Ai_criers 64 = .ok (.iconst 2, 1) := by decide +kernel
theorem d_Ai_criers_65 : decode b_Ai_criers 65 = .ok (.istore 6, 2) := by decide +kernel
theorem d_Ai_criers_67 : decode b_Ai_criers 67 = .ok (.iload 6, 2) := by decide +kernel
theorem d_Ai_criers_69 : decode b_Ai_criers 69 = .ok (.aload_n 0, 1) := by decide +kernel
theorem d_Ai_criers_70 : decode b_Ai_criers 70 = .ok (.getfield 12, 3) := by decide +kernel
theorem d_Ai_criers_73 : decode b_Ai_criers 73 = .ok (.getfield 80, 3) := by decide +kernel
theorem d_Ai_criers_76 : decode b_Ai_criers 76 = .ok (.if_icmp .gt 52, 3) := by decide +kernel
theorem d_Ai_criers_79 : decode b_Ai_criers 79 = .ok (.aload_n 0, 1) := by decide +kernel
theorem d_Ai_criers_80 : decode b_Ai_criers 80 = .ok (.getfield 47, 3) := by decide +kernel
theorem d_Ai_criers_83 : decode b_Ai_criers 83 = .ok (.iload_n 1, 1) := by decide +kernel
theorem d_Ai_criers_84 : decode b_Ai_criers 84 = .ok (.iaload, 1) := by decide +kernel
theorem d_Ai_criers_85 : decode b_Ai_criers 85 = .ok (.iload 5, 2) := by decide +kernel
theorem d_Ai_criers_87 : decode b_Ai_criers 87 = .ok (.iand, 1) := by decide +kernel
theorem d_Ai_criers_88 : decode b_Ai_criers 88 = .ok (.ifCond .eq 26, 3) := by decide +kernel
theorem d_Ai_criers_91 : decode b_Ai_criers 91 = .ok (.iload 4, 2) := by decide +kernel
theorem d_Ai_criers_93 : decode b_Ai_criers 93 = .ok (.ifCond .ne 8, 3) := by decide +kernel
theorem d_Ai_criers_96 : decode b_Ai_criers 96 = .ok (.iload 6, 2) := by decide +kernel
theorem d_Ai_criers_98 : decode b_Ai_criers 98 = .ok (.goto 15, 3) := by decide +kernel
theorem d_Ai_criers_101 : decode b_Ai_criers 101 = .ok (.aload_n 0, 1) := by decide +kernel
theorem d_Ai_criers_102 : decode b_Ai_criers 102 = .ok (.getfield 47, 3) := by decide +kernel
theorem d_Ai_criers_105 : decode b_Ai_criers 105 = .ok (.iload_n 1, 1) := by decide +kernel
theorem d_Ai_criers_106 : decode b_Ai_criers 106 = .ok (.iaload, 1) := by decide +kernel
theorem d_Ai_criers_107 : decode b_Ai_criers 107 = .ok (.iload 5, 2) := by decide +kernel
theorem d_Ai_criers_109 : decode b_Ai_criers 109 = .ok (.iand, 1) := by decide +kernel
theorem d_Ai_criers_110 : decode b_Ai_criers 110 = .ok (.invokestatic 213, 3) := by decide +kernel
theorem d_Ai_criers_113 : decode b_Ai_criers 113 = .ok (.ireturn, 1) := by decide +kernel
theorem d_Ai_criers_114 : decode b_Ai_criers 114 = .ok (.aload_n 0, 1) := by decide +kernel
theorem d_Ai_criers_115 : decode b_Ai_criers 115 = .ok (.iload 5, 2) := by decide +kernel
theorem d_Ai_criers_117 : decode b_Ai_criers 117 = .ok (.invokevirtual 216, 3) := by decide +kernel
theorem d_Ai_criers_120 : decode b_Ai_criers 120 = .ok (.istore 5, 2) := by decide +kernel
theorem d_Ai_criers_122 : decode b_Ai_criers 122 = .ok (.iinc 6 1, 3) := by decide +kernel
theorem d_Ai_criers_125 : decode b_Ai_criers 125 = .ok (.goto (-58), 3) := by decide +kernel
theorem d_Ai_criers_128 : decode b_Ai_criers 128 = .ok (.iconst (-1), 1) := by decide +kernel
theorem d_Ai_criers_129 : decode b_Ai_criers 129 = .ok (.ireturn, 1) := by decide +kernel
theorem d_Ai_let_0 : decode b_Ai_let 0 = .ok (.iload_n 1, 1) := by decide +kernel
theorem d_Ai_let_1 : decode b_Ai_let 1 = .ok (.invokestatic 73, 3) := by decide +kernel
theorem d_Ai_let_4 : decode b_Ai_let 4 = .ok (.ifCond .eq 20, 3) := by decide +kernel
theorem d_Ai_let_7 : decode b_Ai_let 7 = .ok (.iload_n 2, 1) := by decide +kernel
theorem d_Ai_let_8 : decode b_Ai_let 8 = .ok (.iload_n 1, 1) := by decide +kernel
theorem d_Ai_let_9 : decode b_Ai_let 9 = .ok (.if_icmp .eq 15, 3) := by decide +kernel
theorem d_Ai_let_12 : decode b_Ai_let 12 = .ok (.iload_n 2, 1) := by decide +kernel
theorem d_Ai_let_13 : decode b_Ai_let 13 = .ok (.iconst (-1), 1) := by decide +kernel
theorem d_Ai_let_14 : decode b_Ai_let 14 = .ok (.if_icmp .eq 17, 3) := by decide +kernel
theorem d_Ai_let_17 : decode b_Ai_let 17 = .ok (.iload_n 2, 1) := by decide +kernel
theorem d_Ai_let_18 : decode b_Ai_let 18 = .ok (.invokestatic 73, 3) := by decide +kernel
theorem d_Ai_let_21 : decode b_Ai_let 21 = .ok (.ifCond .ne 10, 3) := by decide +kernel
theorem d_Ai_let_24 : decode b_Ai_let 24 = .ok (.aload_n 0, 1) := by decide +kernel
theorem d_Ai_let_25 : decode b_Ai_let 25 = .ok (.bipush (-2), 2) := by decide +kernel
theorem d_Ai_let_27 : decode b_Ai_let 27 = .ok (.invokevirtual 50, 3) := by decide +kernel
theorem d_Ai_let_30 : decode b_Ai_let 30 = .ok (.ireturn, 1) := by decide +kernel
theorem d_Ai_let_31 : decode b_Ai_let 31 = .ok (.aload_n 0, 1) := by decide +kernel
theorem d_Ai_let_32 : decode b_Ai_let 32 = .ok (.getfield 12, 3) := by decide +kernel
theorem d_Ai_let_35 : decode b_Ai_let 35 = .ok (.getfield 219, 3) := by decide +kernel
theorem d_Ai_let_38 : decode b_Ai_let 38 = .ok (.iload_n 1, 1) := by decide +kernel
theorem d_Ai_let_39 : decode b_Ai_let 39 = .ok (.iaload, 1) := by decide +kernel
theorem d_Ai_let_40 : decode b_Ai_let 40 = .ok (.istore_n 3, 1) := by decide +kernel
theorem d_Ai_let_41 : decode b_Ai_let 41 = .ok (.aload_n 0, 1) := by decide +kernel
theorem d_Ai_let_42 : decode b_Ai_let 42 = .ok (.getfield 12, 3) := by decide +kernel
theorem d_Ai_let_45 : decode b_Ai_let 45 = .ok (.getfield 219, 3) := by decide +kernel
theorem d_Ai_let_48 : decode b_Ai_let 48 = .ok (.iload_n 1, 1) := by decide +kernel
theorem d_Ai_let_49 : decode b_Ai_let 49 = .ok (.iload_n 2, 1) := by decide +kernel
theorem d_Ai_let_50 : decode b_Ai_let 50 = .ok (.iastore, 1) := by decide +kernel
theorem d_Ai_let_51 : decode b_Ai_let 51 = .ok (.iload_n 3, 1) := by decide +kernel
theorem d_Ai_let_52 : decode b_Ai_let 52 = .ok (.ireturn, 1) := by decide +kernel
theorem d_Ai_liable_0 : decode b_Ai_liable 0 = .ok (.iload_n 1, 1) := by decide +kernel
theorem d_Ai_liable_1 : decode b_Ai_liable 1 = .ok (.invokestatic 73, 3) := by decide +kernel
theorem d_Ai_liable_4 : decode b_Ai_liable 4 = .ok (.ifCond .ne 10, 3) := by decide +kernel
theorem d_Ai_liable_7 : decode b_Ai_liable 7 = .ok (.aload_n 0, 1) := by decide +kernel
theorem d_Ai_liable_8 : decode b_Ai_liable 8 = .ok (.bipush (-2), 2) := by decide +kernel
theorem d_Ai_liable_10 : decode b_Ai_liable 10 = .ok (.invokevirtual 50, 3) := by decide +kernel
theorem d_Ai_liable_13 : decode b_Ai_liable 13 = .ok (.ireturn, 1) := by decide +kernel
theorem d_Ai_liable_14 : decode b_Ai_liable 14 = .ok (.iload_n 1, 1) := by decide +kernel
theorem d_Ai_liable_15 : decode b_Ai_liable 15 = .ok (.istore_n 2, 1) := by decide +kernel
theorem d_Ai_liable_16 : decode b_Ai_liable 16 = .ok (.iconst 0, 1) := by decide +kernel
theorem d_Ai_liable_17 : decode b_Ai_liable 17 = .ok (.istore_n 3, 1) := by decide +kernel
theorem d_Ai_liable_18 : decode b_Ai_liable 18 = .ok (.iload_n 3, 1) := by decide +kernel
theorem d_Ai_liable_19 : decode b_Ai_liable 19 = .ok (.bipush 6, 2) := by decide +kernel
theorem d_Ai_liable_21 : decode b_Ai_liable 21 = .ok (.if_icmp .ge 30, 3) := by decide +kernel
theorem d_Ai_liable_24 : decode b_Ai_liable 24 = .ok (.aload_n 0, 1) := by decide +kernel
theorem d_Ai_liable_25 : decode b_Ai_liable 25 = .ok (.getfield 12, 3) := by decide +kernel
theorem d_Ai_liable_28 : decode b_Ai_liable 28 = .ok (.iload_n 2, 1) := by decide +kernel
theorem d_Ai_liable_29 : decode b_Ai_liable 29 = .ok (.invokevirtual 222, 3) := by decide +kernel
theorem d_Ai_liable_32 : decode b_Ai_liable 32 = .ok (.istore 4, 2) := by decide +kernel
theorem d_Ai_liable_34 : decode b_Ai_liable 34 = .ok (.iload 4, 2) := by decide +kernel
theorem d_Ai_liable_36 : decode b_Ai_liable 36 = .ok (.iconst (-1), 1) := by decide +kernel
theorem d_Ai_liable_37 : decode b_Ai_liable 37 = .ok (.if_icmp .ne 5, 3) := by decide +kernel
theorem d_Ai_liable_40 : decode b_Ai_liable 40 = .ok (.iload_n 2, 1) := by decide +kernel
theorem d_Ai_liable_41 : decode b_Ai_liable 41 = .ok (.ireturn, 1) := by decide +kernel
theorem d_Ai_liable_42 : decode b_Ai_liable 42 = .ok (.iload 4, 2) := by decide +kernel
theorem d_Ai_liable_44 : decode b_Ai_liable 44 = .ok (.istore_n 2, 1) := by decide +kernel
theorem d_Ai_liable_45 : decode b_Ai_liable 45 = .ok (.iinc 3 1, 3) := by decide +kernel
theorem d_Ai_liable_48 : decode b_Ai_liable 48 = .ok (.goto (-30), 3) := by decide +kernel
theorem d_Ai_liable_51 : decode b_Ai_liable 51 = .ok (.iconst (-1), 1) := by decide +kernel
theorem d_Ai_liable_52 : decode b_Ai_liable 52 = .ok (.ireturn, 1) := by decide +kernel
theorem d_Ai_rings_0 : decode b_Ai_rings 0 = .ok (.iconst 0, 1) := by decide +kernel
theorem d_Ai_rings_1 : decode b_Ai_rings 1 = .ok (.istore_n 1, 1) := by decide +kernel
theorem d_Ai_rings_2 : decode b_Ai_rings 2 = .ok (.iconst 0, 1) := by decide +kernel
theorem d_Ai_rings_3 : decode b_Ai_rings 3 = .ok (.istore_n 2, 1) := by decide +kernel
theorem d_Ai_rings_4 : decode b_Ai_rings 4 = .ok (.iload_n 2, 1) := by decide +kernel
theorem d_Ai_rings_5 : decode b_Ai_rings 5 = .ok (.bipush 6, 2) := by decide +kernel
theorem d_Ai_rings_7 : decode b_Ai_rings 7 = .ok (.if_icmp .ge 47, 3) := by decide +kernel
theorem d_Ai_rings_10 : decode b_Ai_rings 10 = .ok (.iload_n 2, 1) := by decide +kernel
theorem d_Ai_rings_11 : decode b_Ai_rings 11 = .ok (.istore_n 3, 1) := by decide +kernel
theorem d_Ai_rings_12 : decode b_Ai_rings 12 = .ok (.iconst 0, 1) := by decide +kernel
theorem d_Ai_rings_13 : decode b_Ai_rings 13 = .ok (.istore 4, 2) := by decide +kernel
theorem d_Ai_rings_15 : decode b_Ai_rings 15 = .ok (.iload 4, 2) := by decide +kernel
theorem d_Ai_rings_17 : decode b_Ai_rings 17 = .ok (.bipush 6, 2) := by decide +kernel
theorem d_Ai_rings_19 : decode b_Ai_rings 19 = .ok (.if_icmp .ge 29, 3) := by decide +kernel
theorem d_Ai_rings_22 : decode b_Ai_rings 22 = .ok (.aload_n 0, 1) := by decide +kernel
theorem d_Ai_rings_23 : decode b_Ai_rings 23 = .ok (.getfield 12, 3) := by decide +kernel
theorem d_Ai_rings_26 : decode b_Ai_rings 26 = .ok (.iload_n 3, 1) := by decide +kernel
theorem d_Ai_rings_27 : decode b_Ai_rings 27 = .ok (.invokevirtual 222, 3) := by decide +kernel
theorem d_Ai_rings_30 : decode b_Ai_rings 30 = .ok (.istore_n 3, 1) := by decide +kernel
theorem d_Ai_rings_31 : decode b_Ai_rings 31 = .ok (.iload_n 3, 1) := by decide +kernel
theorem d_Ai_rings_32 : decode b_Ai_rings 32 = .ok (.iload_n 2, 1) := by decide +kernel
theorem d_Ai_rings_33 : decode b_Ai_rings 33 = .ok (.if_icmp .ne 9, 3) := by decide +kernel
theorem d_Ai_rings_36 : decode b_Ai_rings 36 = .ok (.iload_n 1, 1) := by decide +kernel
theorem d_Ai_rings_37 : decode b_Ai_rings 37 = .ok (.iconst 1, 1) := by decide +kernel
theorem d_Ai_rings_38 : decode b_Ai_rings 38 = .ok (.iload_n 2, 1) := by decide +kernel
theorem d_Ai_rings_39 : decode b_Ai_rings 39 = .ok (.ishl, 1) := by decide +kernel
theorem d_Ai_rings_40 : decode b_Ai_rings 40 = .ok (.ior, 1) := by decide +kernel
theorem d_Ai_rings_41 : decode b_Ai_rings 41 = .ok (.istore_n 1, 1) := by decide +kernel
theorem d_Ai_rings_42 : decode b_Ai_rings 42 = .ok (.iinc 4 1, 3) := by decide +kernel
theorem d_Ai_rings_45 : decode b_Ai_rings 45 = .ok (.goto (-30), 3) := by decide +kernel
theorem d_Ai_rings_48 : decode b_Ai_rings 48 = .ok (.iinc 2 1, 3) := by decide +kernel
theorem d_Ai_rings_51 : decode b_Ai_rings 51 = .ok (.goto (-47), 3) := by decide +kernel
theorem d_Ai_rings_54 : decode b_Ai_rings 54 = .ok (.iload_n 1, 1) := by decide +kernel
theorem d_Ai_rings_55 : decode b_Ai_rings 55 = .ok (.ireturn, 1) := by decide +kernel
theorem d_Ai_first_0 : decode b_Ai_first 0 = .ok (.aload_n 0, 1) := by decide +kernel
theorem d_Ai_first_1 : decode b_Ai_first 1 = .ok (.iload_n 1, 1) := by decide +kernel
theorem d_Ai_first_2 : decode b_Ai_first 2 = .ok (.iload_n 2, 1) := by decide +kernel
theorem d_Ai_first_3 : decode b_Ai_first 3 = .ok (.iload_n 3, 1) := by decide +kernel
theorem d_Ai_first_4 : decode b_Ai_first 4 = .ok (.invokevirtual 137, 3) := by decide +kernel
theorem d_Ai_first_7 : decode b_Ai_first 7 = .ok (.ifCond .eq 12, 3) := by decide +kernel
theorem d_Ai_first_10 : decode b_Ai_first 10 = .ok (.aload_n 0, 1) := by decide +kernel
theorem d_Ai_first_11 : decode b_Ai_first 11 = .ok (.iload 4, 2) := by decide +kernel
theorem d_Ai_first_13 : decode b_Ai_first 13 = .ok (.invokevirtual 58, 3) := by decide +kernel
theorem d_Ai_first_16 : decode b_Ai_first 16 = .ok (.ifCond .ne 10, 3) := by decide +kernel
theorem d_Ai_first_19 : decode b_Ai_first 19 = .ok (.aload_n 0, 1) := by decide +kernel
theorem d_Ai_first_20 : decode b_Ai_first 20 = .ok (.bipush (-2), 2) := by decide +kernel
theorem d_Ai_first_22 : decode b_Ai_first 22 = .ok (.invokevirtual 50, 3) := by decide +kernel
theorem d_Ai_first_25 : decode b_Ai_first 25 = .ok (.ireturn, 1) := by decide +kernel
theorem d_Ai_first_26 : decode b_Ai_first 26 = .ok (.iload_n 3, 1) := by decide +kernel
theorem d_Ai_first_27 : decode b_Ai_first 27 = .ok (.istore 5, 2) := by decide +kernel
theorem d_Ai_first_29 : decode b_Ai_first 29 = .ok (.iload 5, 2) := by decide +kernel
theorem d_Ai_first_31 : decode b_Ai_first 31 = .ok (.bipush 23, 2) := by decide +kernel
theorem d_Ai_first_33 : decode b_Ai_first 33 = .ok (.if_icmp .gt 35, 3) := by decide +kernel
theorem d_Ai_first_36 : decode b_Ai_first 36 = .ok (.aload_n 0, 1) := by decide +kernel
theorem d_Ai_first_37 : decode b_Ai_first 37 = .ok (.iload_n 1, 1) := by decide +kernel
theorem d_Ai_first_38 : decode b_Ai_first 38 = .ok (.iload_n 2, 1) := by decide +kernel
theorem d_Ai_first_39 : decode b_Ai_first 39 = .ok (.iload 5, 2) := by decide +kernel
theorem d_Ai_first_41 : decode b_Ai_first 41 = .ok (.invokevirtual 141, 3) := by decide +kernel
theorem d_Ai_first_44 : decode b_Ai_first 44 = .ok (.aload_n 0, 1) := by decide +kernel
theorem d_Ai_first_45 : decode b_Ai_first 45 = .ok (.getfield 32, 3) := by decide +kernel
theorem d_Ai_first_48 : decode b_Ai_first 48 = .ok (.getfield 147, 3) := by decide +kernel
theorem d_Ai_first_51 : decode b_Ai_first 51 = .ok (.iload 4, 2) := by decide +kernel
theorem d_Ai_first_53 : decode b_Ai_first 53 = .ok (.invokestatic 225, 3) := by decide +kernel
theorem d_Ai_first_56 : decode b_Ai_first 56 = .ok (.ifCond .eq 6, 3) := by decide +kernel
theorem d_Ai_first_59 : decode b_Ai_first 59 = .ok (.iload 5, 2) := by decide +kernel
theorem d_Ai_first_61 : decode b_Ai_first 61 = .ok (.ireturn, 1) := by decide +kernel
theorem d_Ai_first_62 : decode b_Ai_first 62 = .ok (.iinc 5 1, 3) := by decide +kernel
theorem d_Ai_first_65 : decode b_Ai_first 65 = .ok (.goto (-36), 3) := by decide +kernel
theorem d_Ai_first_68 : decode b_Ai_first 68 = .ok (.iconst (-1), 1) := by decide +kernel
theorem d_Ai_first_69 : decode b_Ai_first 69 = .ok (.ireturn, 1) := by decide +kernel
theorem d_Ai_peal_0 : decode b_Ai_peal 0 = .ok (.aload_n 0, 1) := by decide +kernel
theorem d_Ai_peal_1 : decode b_Ai_peal 1 = .ok (.iload_n 1, 1) := by decide +kernel
theorem d_Ai_peal_2 : decode b_Ai_peal 2 = .ok (.invokevirtual 88, 3) := by decide +kernel
theorem d_Ai_peal_5 : decode b_Ai_peal 5 = .ok (.ifCond .eq 17, 3) := by decide +kernel
theorem d_Ai_peal_8 : decode b_Ai_peal 8 = .ok (.iload_n 2, 1) := by decide +kernel
theorem d_Ai_peal_9 : decode b_Ai_peal 9 = .ok (.invokestatic 91, 3) := by decide +kernel
theorem d_Ai_peal_12 : decode b_Ai_peal 12 = .ok (.ifCond .eq 10, 3) := by decide +kernel
theorem d_Ai_peal_15 : decode b_Ai_peal 15 = .ok (.iload_n 3, 1) := by decide +kernel
theorem d_Ai_peal_16 : decode b_Ai_peal 16 = .ok (.invokestatic 182, 3) := by decide +kernel
theorem d_Ai_peal_19 : decode b_Ai_peal 19 = .ok (.ifCond .ne 10, 3) := by decide +kernel
theorem d_Ai_peal_22 : decode b_Ai_peal 22 = .ok (.aload_n 0, 1) := by decide +kernel
theorem d_Ai_peal_23 : decode b_Ai_peal 23 = .ok (.bipush (-2), 2) := by decide +kernel
theorem d_Ai_peal_25 : decode b_Ai_peal 25 = .ok (.invokevirtual 50, 3) := by decide +kernel
theorem d_Ai_peal_28 : decode b_Ai_peal 28 = .ok (.ireturn, 1) := by decide +kernel
theorem d_Ai_peal_29 : decode b_Ai_peal 29 = .ok (.iconst 0, 1) := by decide +kernel
theorem d_Ai_peal_30 : decode b_Ai_peal 30 = .ok (.istore 4, 2) := by decide +kernel
theorem d_Ai_peal_32 : decode b_Ai_peal 32 = .ok (.iconst 0, 1) := by decide +kernel
theorem d_Ai_peal_33 : decode b_Ai_peal 33 = .ok (.istore 5, 2) := by decide +kernel
theorem d_Ai_peal_35 : decode b_Ai_peal 35 = .ok (.iconst 1, 1) := by decide +kernel
theorem d_Ai_peal_36 : decode b_Ai_peal 36 = .ok (.istore 6, 2) := by decide +kernel
theorem d_Ai_peal_38 : decode b_Ai_peal 38 = .ok (.iload 6, 2) := by decide +kernel
theorem d_Ai_peal_40 : decode b_Ai_peal 40 = .ok (.bipush 20, 2) := by decide +kernel
theorem d_Ai_peal_42 : decode b_Ai_peal 42 = .ok (.if_icmp .gt 44, 3) := by decide +kernel
theorem d_Ai_peal_45 : decode b_Ai_peal 45 = .ok (.aload_n 0, 1) := by decide +kernel
theorem d_Ai_peal_46 : decode b_Ai_peal 46 = .ok (.iload_n 1, 1) := by decide +kernel
theorem d_Ai_peal_47 : decode b_Ai_peal 47 = .ok (.iload 6, 2) := by decide +kernel
theorem d_Ai_peal_49 : decode b_Ai_peal 49 = .ok (.iload_n 2, 1) := by decide +kernel
theorem d_Ai_peal_50 : decode b_Ai_peal 50 = .ok (.invokevirtual 141, 3) := by decide +kernel
theorem d_Ai_peal_53 : decode b_Ai_peal 53 = .ok (.aload_n 0, 1) := by decide +kernel
theorem d_Ai_peal_54 : decode b_Ai_peal 54 = .ok (.getfield 32, 3) := by decide +kernel
theorem d_Ai_peal_57 : decode b_Ai_peal 57 = .ok (.getfield 147, 3) := by decide +kernel
theorem d_Ai_peal_60 : decode b_Ai_peal 60 = .ok (.invokestatic 151, 3) := by decide +kernel
theorem d_Ai_peal_63 : decode b_Ai_peal 63 = .ok (.istore 7, 2) := by decide +kernel
theorem d_Ai_peal_65 : decode b_Ai_peal 65 = .ok (.iload 7, 2) := by decide +kernel
theorem d_Ai_peal_67 : decode b_Ai_peal 67 = .ok (.iload 5, 2) := by decide +kernel
theorem d_Ai_peal_69 : decode b_Ai_peal 69 = .ok (.if_icmp .le 11, 3) := by decide +kernel
theorem d_Ai_peal_72 : decode b_Ai_peal 72 = .ok (.iload 6, 2) := by decide +kernel
theorem d_Ai_peal_74 : decode b_Ai_peal 74 = .ok (.istore 4, 2) := by decide +kernel
theorem d_Ai_peal_76 : decode b_Ai_peal 76 = .ok (.iload 7, 2) := by decide +kernel
theorem d_Ai_peal_78 : decode b_Ai_peal 78 = .ok (.istore 5, 2) := by decide +kernel
theorem d_Ai_peal_80 : decode b_Ai_peal 80 = .ok (.iinc 6 1, 3) := by decide +kernel
theorem d_Ai_peal_83 : decode b_Ai_peal 83 = .ok (.goto (-45), 3) := by decide +kernel
theorem d_Ai_peal_86 : decode b_Ai_peal 86 = .ok (.iload_n 3, 1) := by decide +kernel
theorem d_Ai_peal_87 : decode b_Ai_peal 87 = .ok (.ifCond .ne 8, 3) := by decide +kernel
theorem d_Ai_peal_90 : decode b_Ai_peal 90 = .ok (.iload 4, 2) := by decide +kernel
theorem d_Ai_peal_92 : decode b_Ai_peal 92 = .ok (.goto 5, 3) := by decide +kernel
theorem d_Ai_peal_95 : decode b_Ai_peal 95 = .ok (.iload 5, 2) := by decide +kernel
theorem d_Ai_peal_97 : decode b_Ai_peal 97 = .ok (.ireturn, 1) := by decide +kernel
theorem d_Ai_thunder_0 : decode b_Ai_thunder 0 = .ok (.iload_n 1, 1) := by decide +kernel
theorem d_Ai_thunder_1 : decode b_Ai_thunder 1 = .ok (.ifCond .lt 19, 3) := by decide +kernel
theorem d_Ai_thunder_4 : decode b_Ai_thunder 4 = .ok (.iload_n 1, 1) := by decide +kernel
theorem d_Ai_thunder_5 : decode b_Ai_thunder 5 = .ok (.ldc 229, 2) := by decide +kernel
theorem d_Ai_thunder_7 : decode b_Ai_thunder 7 = .ok (.if_icmp .gt 13, 3) := by decide +kernel
theorem d_Ai_thunder_10 : decode b_Ai_thunder 10 = .ok (.iload_n 2, 1) := by decide +kernel
theorem d_Ai_thunder_11 : decode b_Ai_thunder 11 = .ok (.ifCond .lt 9, 3) := by decide +kernel
theorem d_Ai_thunder_14 : decode b_Ai_thunder 14 = .ok (.iload_n 2, 1) := by decide +kernel
theorem d_Ai_thunder_15 : decode b_Ai_thunder 15 = .ok (.bipush 60, 2) := by decide +kernel
theorem d_Ai_thunder_17 : decode b_Ai_thunder 17 = .ok (.if_icmp .le 10, 3) := by decide +kernel
theorem d_Ai_thunder_20 : decode b_Ai_thunder 20 = .ok (.aload_n 0, 1) := by decide +kernel
theorem d_Ai_thunder_21 : decode b_Ai_thunder 21 = .ok (.bipush (-2), 2) := by decide +kernel
theorem d_Ai_thunder_23 : decode b_Ai_thunder 23 = .ok (.invokevirtual 50, 3) := by decide +kernel
theorem d_Ai_thunder_26 : decode b_Ai_thunder 26 = .ok (.ireturn, 1) := by decide +kernel
theorem d_Ai_thunder_27 : decode b_Ai_thunder 27 = .ok (.aload_n 0, 1) := by decide +kernel
theorem d_Ai_thunder_28 : decode b_Ai_thunder 28 = .ok (.getfield 12, 3) := by decide +kernel
theorem d_Ai_thunder_31 : decode b_Ai_thunder 31 = .ok (.getfield 230, 3) := by decide +kernel
theorem d_Ai_thunder_34 : decode b_Ai_thunder 34 = .ok (.aload_n 0, 1) := by decide +kernel
theorem d_Ai_thunder_35 : decode b_Ai_thunder 35 = .ok (.getfield 12, 3) := by decide +kernel
theorem d_Ai_thunder_38 : decode b_Ai_thunder 38 = .ok (.getfield 233, 3) := by decide +kernel
theorem d_Ai_thunder_41 : decode b_Ai_thunder 41 = .ok (.imul, 1) := by decide +kernel
theorem d_Ai_thunder_42 : decode b_Ai_thunder 42 = .ok (.istore_n 3, 1) := by decide +kernel
theorem d_Ai_thunder_43 : decode b_Ai_thunder 43 = .ok (.lconst 0, 1) := by decide +kernel
theorem d_Ai_thunder_44 : decode b_Ai_thunder 44 = .ok (.lstore 4, 2) := by decide +kernel
theorem d_Ai_thunder_46 : decode b_Ai_thunder 46 = .ok (.iload_n 1, 1) := by decide +kernel
theorem d_Ai_thunder_47 : decode b_Ai_thunder 47 = .ok (.i2l, 1) := by decide +kernel
theorem d_Ai_thunder_48 : decode b_Ai_thunder 48 = .ok (.lstore 6, 2) := by decide +kernel
theorem d_Ai_thunder_50 : decode b_Ai_thunder 50 = .ok (.iconst 0, 1) := by decide +kernel
theorem d_Ai_thunder_51 : decode b_Ai_thunder 51 = .ok (.istore 8, 2) := by decide +kernel
theorem d_Ai_thunder_53 : decode b_Ai_thunder 53 = .ok (.iload 8, 2) := by decide +kernel
theorem d_Ai_thunder_55 : decode b_Ai_thunder 55 = .ok (.iload_n 2, 1) := by decide +kernel
theorem d_Ai_thunder_56 : decode b_Ai_thunder 56 = .ok (.if_icmp .ge 103, 3) := by decide +kernel
theorem d_Ai_thunder_59 : decode b_Ai_thunder 59 = .ok (.iload_n 3, 1) := by decide +kernel
theorem d_Ai_thunder_60 : decode b_Ai_thunder 60 = .ok (.ifCond .le 99, 3) := by decide +kernel
theorem d_Ai_thunder_63 : decode b_Ai_thunder 63 = .ok (.lload 6, 2) := by decide +kernel
theorem d_Ai_thunder_65 : decode b_Ai_thunder 65 = .ok (.ldc2_w 236, 3) := by decide +kernel
theorem d_Ai_thunder_68 : decode b_Ai_thunder 68 = .ok (.lmul, 1) := by decide +kernel
theorem d_Ai_thunder_69 : decode b_Ai_thunder 69 = .ok (.ldc2_w 238, 3) := by decide +kernel
theorem d_Ai_thunder_72 : decode b_Ai_thunder 72 = .ok (.ladd, 1) := by decide +kernel
theorem d_Ai_thunder_73 : decode b_Ai_thunder 73 = .ok (.ldc2_w 240, 3) := by decide +kernel
theorem d_Ai_thunder_76 : decode b_Ai_thunder 76 = .ok (.lrem, 1) := by decide +kernel
theorem d_Ai_thunder_77 : decode b_Ai_thunder 77 = .ok (.lstore 6, 2) := by decide +kernel
theorem d_Ai_thunder_79 : decode b_Ai_thunder 79 = .ok (.lconst 1, 1) := by decide +kernel
theorem d_Ai_thunder_80 : decode b_Ai_thunder 80 = .ok (.lload 6, 2) := by decide +kernel
theorem d_Ai_thunder_82 : decode b_Ai_thunder 82 = .ok (.ldc2_w 242, 3) := by decide +kernel
theorem d_Ai_thunder_85 : decode b_Ai_thunder 85 = .ok (.ldiv, 1) := by decide +kernel
theorem d_Ai_thunder_86 : decode b_Ai_thunder 86 = .ok (.iload_n 3, 1) := by decide +kernel
theorem d_Ai_thunder_87 : decode b_Ai_thunder 87 = .ok (.i2l, 1) := by decide +kernel
theorem d_Ai_thunder_88 : decode b_Ai_thunder 88 = .ok (.lrem, 1) := by decide +kernel
theorem d_Ai_thunder_89 : decode b_Ai_thunder 89 = .ok (.l2i, 1) := by decide +kernel
theorem d_Ai_thunder_90 : decode b_Ai_thunder 90 = .ok (.lshl, 1) := by decide +kernel
theorem d_Ai_thunder_91 : decode b_Ai_thunder 91 = .ok (.lstore 9, 2) := by decide +kernel
theorem d_Ai_thunder_93 : decode b_Ai_thunder 93 = .ok (.lload 6, 2) := by decide +kernel
theorem d_Ai_thunder_95 : decode b_Ai_thunder 95 = .ok (.ldc2_w 244, 3) := by decide +kernel
theorem d_Ai_thunder_98 : decode b_Ai_thunder 98 = .ok (.ldiv, 1) := by decide +kernel
theorem d_Ai_thunder_99 : decode b_Ai_thunder 99 = .ok (.ldc2_w 246, 3) := by decide +kernel
theorem d_Ai_thunder_102 : decode b_Ai_thunder 102 = .ok (.lrem, 1) := by decide +kernel
theorem d_Ai_thunder_103 : decode b_Ai_thunder 103 = .ok (.lconst 1, 1) := by decide +kernel
theorem d_Ai_thunder_104 : decode b_Ai_thunder 104 = .ok (.ladd, 1) := by decide +kernel
theorem d_Ai_thunder_105 : decode b_Ai_thunder 105 = .ok (.lstore 11, 2) := by decide +kernel
theorem d_Ai_thunder_107 : decode b_Ai_thunder 107 = .ok (.iconst 1, 1) := by decide +kernel
theorem d_Ai_thunder_108 : decode b_Ai_thunder 108 = .ok (.istore 13, 2) := by decide +kernel
theorem d_Ai_thunder_110 : decode b_Ai_thunder 110 = .ok (.iload 13, 2) := by decide +kernel
theorem d_Ai_thunder_112 : decode b_Ai_thunder 112 = .ok (.i2l, 1) := by decide +kernel
theorem d_Ai_thunder_113 : decode b_Ai_thunder 113 = .ok (.lload 11, 2) := by decide +kernel
theorem d_Ai_thunder_115 : decode b_Ai_thunder 115 = .ok (.lcmp, 1) := by decide +kernel
theorem d_Ai_thunder_116 : decode b_Ai_thunder 116 = .ok (.ifCond .ge 30, 3) := by decide +kernel
theorem d_Ai_thunder_119 : decode b_Ai_thunder 119 = .ok (.iload 13, 2) := by decide +kernel
theorem d_Ai_thunder_121 : decode b_Ai_thunder 121 = .ok (.bipush 9, 2) := by decide +kernel
theorem d_Ai_thunder_123 : decode b_Ai_thunder 123 = .ok (.if_icmp .ge 23, 3) := by decide +kernel
theorem d_Ai_thunder_126 : decode b_Ai_thunder 126 = .ok (.lload 9, 2) := by decide +kernel
theorem d_Ai_thunder_128 : decode b_Ai_thunder 128 = .ok (.aload_n 0, 1) := by decide +kernel
theorem d_Ai_thunder_129 : decode b_Ai_thunder 129 = .ok (.getfield 12, 3) := by decide +kernel
theorem d_Ai_thunder_132 : decode b_Ai_thunder 132 = .ok (.lload 9, 2) := by decide +kernel
theorem d_Ai_thunder_134 : decode b_Ai_thunder 134 = .ok (.invokevirtual 248, 3) := by decide +kernel
theorem d_Ai_thunder_137 : decode b_Ai_thunder 137 = .ok (.lor, 1) := by decide +kernel
theorem d_Ai_thunder_138 : decode b_Ai_thunder 138 = .ok (.lstore 9, 2) := by decide +kernel
theorem d_Ai_thunder_140 : decode b_Ai_thunder 140 = .ok (.iinc 13 1, 3) := by decide +kernel
theorem d_Ai_thunder_143 : decode b_Ai_thunder 143 = .ok (.goto (-33), 3) := by decide +kernel
theorem d_Ai_thunder_146 : decode b_Ai_thunder 146 = .ok (.lload 4, 2) := by decide +kernel
theorem d_Ai_thunder_148 : decode b_Ai_thunder 148 = .ok (.lload 9, 2) := by decide +kernel
theorem d_Ai_thunder_150 : decode b_Ai_thunder 150 = .ok (.lor, 1) := by decide +kernel
theorem d_Ai_thunder_151 : decode b_Ai_thunder 151 = .ok (.lstore 4, 2) := by decide +kernel
theorem d_Ai_thunder_153 : decode b_Ai_thunder 153 = .ok (.iinc 8 1, 3) := by decide +kernel
theorem d_Ai_thunder_156 : decode b_Ai_thunder 156 = .ok (.goto (-103), 3) := by decide +kernel
theorem d_Ai_thunder_159 : decode b_Ai_thunder 159 = .ok (.lload 4, 2) := by decide +kernel
theorem d_Ai_thunder_161 : decode b_Ai_thunder 161 = .ok (.invokestatic 151, 3) := by decide +kernel
theorem d_Ai_thunder_164 : decode b_Ai_thunder 164 = .ok (.ireturn, 1) := by decide +kernel
theorem d_Ai_image_0 : decode b_Ai_image 0 = .ok (.iload_n 1, 1) := by decide +kernel
theorem d_Ai_image_1 : decode b_Ai_image 1 = .ok (.ifCond .lt 8, 3) := by decide +kernel
theorem d_Ai_image_4 : decode b_Ai_image 4 = .ok (.iload_n 1, 1) := by decide +kernel
theorem d_Ai_image_5 : decode b_Ai_image 5 = .ok (.iconst 2, 1) := by decide +kernel
theorem d_Ai_image_6 : decode b_Ai_image 6 = .ok (.if_icmp .lt 10, 3) := by decide +kernel
theorem d_Ai_image_9 : decode b_Ai_image 9 = .ok (.aload_n 0, 1) := by decide +kernel
theorem d_Ai_image_10 : decode b_Ai_image 10 = .ok (.bipush (-2), 2) := by decide +kernel
theorem d_Ai_image_12 : decode b_Ai_image 12 = .ok (.invokevirtual 50, 3) := by decide +kernel
theorem d_Ai_image_15 : decode b_Ai_image 15 = .ok (.ireturn, 1) := by decide +kernel
theorem d_Ai_image_16 : decode b_Ai_image 16 = .ok (.aload_n 0, 1) := by decide +kernel
theorem d_Ai_image_17 : decode b_Ai_image 17 = .ok (.getfield 19, 3) := by decide +kernel
theorem d_Ai_image_20 : decode b_Ai_image 20 = .ok (.iload_n 1, 1) := by decide +kernel
theorem d_Ai_image_21 : decode b_Ai_image 21 = .ok (.aaload, 1) := by decide +kernel
theorem d_Ai_image_22 : decode b_Ai_image 22 = .ok (.aload_n 0, 1) := by decide +kernel
theorem d_Ai_image_23 : decode b_Ai_image 23 = .ok (.getfield 12, 3) := by decide +kernel
theorem d_Ai_image_26 : decode b_Ai_image 26 = .ok (.invokevirtual 252, 3) := by decide +kernel
theorem d_Ai_image_29 : decode b_Ai_image 29 = .ok (.aload_n 0, 1) := by decide +kernel
theorem d_Ai_image_30 : decode b_Ai_image 30 = .ok (.getfield 23, 3) := by decide +kernel
theorem d_Ai_image_33 : decode b_Ai_image 33 = .ok (.iload_n 1, 1) := by decide +kernel
theorem d_Ai_image_34 : decode b_Ai_image 34 = .ok (.iconst 1, 1) := by decide +kernel
theorem d_Ai_image_35 : decode b_Ai_image 35 = .ok (.bastore, 1) := by decide +kernel
theorem d_Ai_image_36 : decode b_Ai_image 36 = .ok (.iconst 1, 1) := by decide +kernel
theorem d_Ai_image_37 : decode b_Ai_image 37 = .ok (.ireturn, 1) := by decide +kernel
theorem d_Ai_from_0 : decode b_Ai_from 0 = .ok (.iload_n 1, 1) := by decide +kernel
theorem d_Ai_from_1 : decode b_Ai_from 1 = .ok (.ifCond .lt 8, 3) := by decide +kernel
theorem d_Ai_from_4 : decode b_Ai_from 4 = .ok (.iload_n 1, 1) := by decide +kernel
theorem d_Ai_from_5 : decode b_Ai_from 5 = .ok (.iconst 2, 1) := by decide +kernel
theorem d_Ai_from_6 : decode b_Ai_from 6 = .ok (.if_icmp .lt 10, 3) := by decide +kernel
theorem d_Ai_from_9 : decode b_Ai_from 9 = .ok (.aload_n 0, 1) := by decide +kernel
theorem d_Ai_from_10 : decode b_Ai_from 10 = .ok (.bipush (-2), 2) := by decide +kernel
theorem d_Ai_from_12 : decode b_Ai_from 12 = .ok (.invokevirtual 50, 3) := by decide +kernel
theorem d_Ai_from_15 : decode b_Ai_from 15 = .ok (.ireturn, 1) := by decide +kernel
theorem d_Ai_from_16 : decode b_Ai_from 16 = .ok (.aload_n 0, 1) := by decide +kernel
theorem d_Ai_from_17 : decode b_Ai_from 17 = .ok (.getfield 23, 3) := by decide +kernel
theorem d_Ai_from_20 : decode b_Ai_from 20 = .ok (.iload_n 1, 1) := by decide +kernel
theorem d_Ai_from_21 : decode b_Ai_from 21 = .ok (.baload, 1) := by decide +kernel
theorem d_Ai_from_22 : decode b_Ai_from 22 = .ok (.ifCond .ne 10, 3) := by decide +kernel
theorem d_Ai_from_25 : decode b_Ai_from 25 = .ok (.aload_n 0, 1) := by decide +kernel
theorem d_Ai_from_26 : decode b_Ai_from 26 = .ok (.bipush (-3), 2) := by decide +kernel
theorem d_Ai_from_28 : decode b_Ai_from 28 = .ok (.invokevirtual 50, 3) := by decide +kernel
theorem d_Ai_from_31 : decode b_Ai_from 31 = .ok (.ireturn, 1) := by decide +kernel
theorem d_Ai_from_32 : decode b_Ai_from 32 = .ok (.aload_n 0, 1) := by decide +kernel
theorem d_Ai_from_33 : decode b_Ai_from 33 = .ok (.getfield 12, 3) := by decide +kernel
theorem d_Ai_from_36 : decode b_Ai_from 36 = .ok (.aload_n 0, 1) := by decide +kernel
theorem d_Ai_from_37 : decode b_Ai_from 37 = .ok (.getfield 19, 3) := by decide +kernel
theorem d_Ai_from_40 : decode b_Ai_from 40 = .ok (.iload_n 1, 1) := by decide +kernel
theorem d_Ai_from_41 : decode b_Ai_from 41 = .ok (.aaload, 1) := by decide +kernel
theorem d_Ai_from_42 : decode b_Ai_from 42 = .ok (.invokevirtual 252, 3) := by decide +kernel
theorem d_Ai_from_45 : decode b_Ai_from 45 = .ok (.iconst 1, 1) := by decide +kernel
theorem d_Ai_from_46 : decode b_Ai_from 46 = .ok (.ireturn, 1) := by decide +kernel
theorem d_Ai_status_0 : decode b_Ai_status 0 = .ok (.iload_n 1, 1) := by decide +kernel
theorem d_Ai_status_1 : decode b_Ai_status 1 = .ok (.ifCond .lt 8, 3) := by decide +kernel
theorem d_Ai_status_4 : decode b_Ai_status 4 = .ok (.iload_n 1, 1) := by decide +kernel
theorem d_Ai_status_5 : decode b_Ai_status 5 = .ok (.iconst 3, 1) := by decide +kernel
theorem d_Ai_status_6 : decode b_Ai_status 6 = .ok (.if_icmp .lt 11, 3) := by decide +kernel
theorem d_Ai_status_9 : decode b_Ai_status 9 = .ok (.aload_n 0, 1) := by decide +kernel
theorem d_Ai_status_10 : decode b_Ai_status 10 = .ok (.bipush (-2), 2) := by decide +kernel
theorem d_Ai_status_12 : decode b_Ai_status 12 = .ok (.iconst (-1), 1) := by decide +kernel
theorem d_Ai_status_13 : decode b_Ai_status 13 = .ok (.invokevirtual 160, 3) := by decide +kernel
theorem d_Ai_status_16 : decode b_Ai_status 16 = .ok (.ireturn, 1) := by decide +kernel
theorem d_Ai_status_17 : decode b_Ai_status 17 = .ok (.aload_n 0, 1) := by decide +kernel
theorem d_Ai_status_18 : decode b_Ai_status 18 = .ok (.getfield 43, 3) := by decide +kernel
theorem d_Ai_status_21 : decode b_Ai_status 21 = .ok (.iload_n 1, 1) := by decide +kernel
theorem d_Ai_status_22 : decode b_Ai_status 22 = .ok (.iaload, 1) := by decide +kernel
theorem d_Ai_status_23 : decode b_Ai_status 23 = .ok (.ireturn, 1) := by decide +kernel
theorem d_Ai_count_0 : decode b_Ai_count 0 = .ok (.iload_n 1, 1) := by decide +kernel
theorem d_Ai_count_1 : decode b_Ai_count 1 = .ok (.ifCond .lt 9, 3) := by decide +kernel
theorem d_Ai_count_4 : decode b_Ai_count 4 = .ok (.iload_n 1, 1) := by decide +kernel
theorem d_Ai_count_5 : decode b_Ai_count 5 = .ok (.bipush 6, 2) := by decide +kernel
theorem d_Ai_count_7 : decode b_Ai_count 7 = .ok (.if_icmp .lt 10, 3) := by decide +kernel
theorem d_Ai_count_10 : decode b_Ai_count 10 = .ok (.aload_n 0, 1) := by decide +kernel
theorem d_Ai_count_11 : decode b_Ai_count 11 = .ok (.bipush (-2), 2) := by decide +kernel
theorem d_Ai_count_13 : decode b_Ai_count 13 = .ok (.invokevirtual 50, 3) := by decide +kernel
theorem d_Ai_count_16 : decode b_Ai_count 16 = .ok (.ireturn, 1) := by decide +kernel
theorem d_Ai_count_17 : decode b_Ai_count 17 = .ok (.aload_n 0, 1) := by decide +kernel
theorem d_Ai_count_18 : decode b_Ai_count 18 = .ok (.iload_n 1, 1) := by decide +kernel
theorem d_Ai_count_19 : decode b_Ai_count 19 = .ok (.invokevirtual 255, 3) := by decide +kernel
theorem d_Ai_count_22 : decode b_Ai_count 22 = .ok (.ireturn, 1) := by decide +kernel
theorem d_Ai_digest_0 : decode b_Ai_digest 0 = .ok (.ldc2_w 258, 3) := by decide +kernel
theorem d_Ai_digest_3 : decode b_Ai_digest 3 = .ok (.lstore_n 1, 1) := by decide +kernel
theorem d_Ai_digest_4 : decode b_Ai_digest 4 = .ok (.iconst 0, 1) := by decide +kernel
theorem d_Ai_digest_5 : decode b_Ai_digest 5 = .ok (.istore_n 3, 1) := by decide +kernel
theorem d_Ai_digest_6 : decode b_Ai_digest 6 = .ok (.iload_n 3, 1) := by decide +kernel
theorem d_Ai_digest_7 : decode b_Ai_digest 7 = .ok (.bipush 6, 2) := by decide +kernel
theorem d_Ai_digest_9 : decode b_Ai_digest 9 = .ok (.if_icmp .ge 22, 3) := by decide +kernel
theorem d_Ai_digest_12 : decode b_Ai_digest 12 = .ok (.ldc2_w 260, 3) := by decide +kernel
theorem d_Ai_digest_15 : decode b_Ai_digest 15 = .ok (.lload_n 1, 1) := by decide +kernel
theorem d_Ai_digest_16 : decode b_Ai_digest 16 = .ok (.lmul, 1) := by decide +kernel
theorem d_Ai_digest_17 : decode b_Ai_digest 17 = .ok (.aload_n 0, 1) := by decide +kernel
theorem d_Ai_digest_18 : decode b_Ai_digest 18 = .ok (.iload_n 3, 1) := by decide +kernel
theorem d_Ai_digest_19 : decode b_Ai_digest 19 = .ok (.invokevirtual 255, 3) := by decide +kernel
theorem d_Ai_digest_22 : decode b_Ai_digest 22 = .ok (.i2l, 1) := by decide +kernel
theorem d_Ai_digest_23 : decode b_Ai_digest 23 = .ok (.ladd, 1) := by decide +kernel
theorem d_Ai_digest_24 : decode b_Ai_digest 24 = .ok (.lstore_n 1, 1) := by decide +kernel
theorem d_Ai_digest_25 : decode b_Ai_digest 25 = .ok (.iinc 3 1, 3) := by decide +kernel
theorem d_Ai_digest_28 : decode b_Ai_digest 28 = .ok (.goto (-22), 3) := by decide +kernel
theorem d_Ai_digest_31 : decode b_Ai_digest 31 = .ok (.iconst 0, 1) := by decide +kernel
theorem d_Ai_digest_32 : decode b_Ai_digest 32 = .ok (.istore_n 3, 1) := by decide +kernel
theorem d_Ai_digest_33 : decode b_Ai_digest 33 = .ok (.iload_n 3, 1) := by decide +kernel
theorem d_Ai_digest_34 : decode b_Ai_digest 34 = .ok (.aload_n 0, 1) := by decide +kernel
theorem d_Ai_digest_35 : decode b_Ai_digest 35 = .ok (.getfield 12, 3) := by decide +kernel
theorem d_Ai_digest_38 : decode b_Ai_digest 38 = .ok (.getfield 230, 3) := by decide +kernel
theorem d_Ai_digest_41 : decode b_Ai_digest 41 = .ok (.aload_n 0, 1) := by decide +kernel
theorem d_Ai_digest_42 : decode b_Ai_digest 42 = .ok (.getfield 12, 3) := by decide +kernel
theorem d_Ai_digest_45 : decode b_Ai_digest 45 = .ok (.getfield 233, 3) := by decide +kernel
theorem d_Ai_digest_48 : decode b_Ai_digest 48 = .ok (.imul, 1) := by decide +kernel
theorem d_Ai_digest_49 : decode b_Ai_digest 49 = .ok (.if_icmp .ge 66, 3) := by decide +kernel
theorem d_Ai_digest_52 : decode b_Ai_digest 52 = .ok (.ldc2_w 260, 3) := by decide +kernel
theorem d_Ai_digest_55 : decode b_Ai_digest 55 = .ok (.lload_n 1, 1) := by decide +kernel
theorem d_Ai_digest_56 : decode b_Ai_digest 56 = .ok (.lmul, 1) := by decide +kernel
theorem d_Ai_digest_57 : decode b_Ai_digest 57 = .ok (.aload_n 0, 1) := by decide +kernel
theorem d_Ai_digest_58 : decode b_Ai_digest 58 = .ok (.getfield 12, 3) := by decide +kernel
theorem d_Ai_digest_61 : decode b_Ai_digest 61 = .ok (.getfield 62, 3) := by decide +kernel
theorem d_Ai_digest_64 : decode b_Ai_digest 64 = .ok (.iload_n 3, 1) := by decide +kernel
theorem d_Ai_digest_65 : decode b_Ai_digest 65 = .ok (.invokestatic 262, 3) := by decide +kernel
theorem d_Ai_digest_68 : decode b_Ai_digest 68 = .ok (.i2l, 1) := by decide +kernel
theorem d_Ai_digest_69 : decode b_Ai_digest 69 = .ok (.ladd, 1) := by decide +kernel
theorem d_Ai_digest_70 : decode b_Ai_digest 70 = .ok (.lstore_n 1, 1) := by decide +kernel
theorem d_Ai_digest_71 : decode b_Ai_digest 71 = .ok (.ldc2_w 260, 3) := by decide +kernel
theorem d_Ai_digest_74 : decode b_Ai_digest 74 = .ok (.lload_n 1, 1) := by decide +kernel
theorem d_Ai_digest_75 : decode b_Ai_digest 75 = .ok (.lmul, 1) := by decide +kernel
theorem d_Ai_digest_76 : decode b_Ai_digest 76 = .ok (.aload_n 0, 1) := by decide +kernel
theorem d_Ai_digest_77 : decode b_Ai_digest 77 = .ok (.getfield 12, 3) := by decide +kernel
theorem d_Ai_digest_80 : decode b_Ai_digest 80 = .ok (.getfield 70, 3) := by decide +kernel
theorem d_Ai_digest_83 : decode b_Ai_digest 83 = .ok (.iload_n 3, 1) := by decide +kernel
theorem d_Ai_digest_84 : decode b_Ai_digest 84 = .ok (.invokestatic 262, 3) := by decide +kernel
theorem d_Ai_digest_87 : decode b_Ai_digest 87 = .ok (.i2l, 1) := by decide +kernel
theorem d_Ai_digest_88 : decode b_Ai_digest 88 = .ok (.ladd, 1) := by decide +kernel
theorem d_Ai_digest_89 : decode b_Ai_digest 89 = .ok (.lstore_n 1, 1) := by decide +kernel
theorem d_Ai_digest_90 : decode b_Ai_digest 90 = .ok (.ldc2_w 260, 3) := by decide +kernel
theorem d_Ai_digest_93 : decode b_Ai_digest 93 = .ok (.lload_n 1, 1) := by decide +kernel
theorem d_Ai_digest_94 : decode b_Ai_digest 94 = .ok (.lmul, 1) := by decide +kernel
theorem d_Ai_digest_95 : decode b_Ai_digest 95 = .ok (.aload_n 0, 1) := by decide +kernel
theorem d_Ai_digest_96 : decode b_Ai_digest 96 = .ok (.getfield 12, 3) := by decide +kernel
theorem d_Ai_digest_99 : decode b_Ai_digest 99 = .ok (.getfield 179, 3) := by decide +kernel
theorem d_Ai_digest_102 : decode b_Ai_digest 102 = .ok (.iload_n 3, 1) := by decide +kernel
theorem d_Ai_digest_103 : decode b_Ai_digest 103 = .ok (.invokestatic 262, 3) := by decide +kernel
theorem d_Ai_digest_106 : decode b_Ai_digest 106 = .ok (.i2l, 1) := by decide +kernel
theorem d_Ai_digest_107 : decode b_Ai_digest 107 = .ok (.ladd, 1) := by decide +kernel
theorem d_Ai_digest_108 : decode b_Ai_digest 108 = .ok (.lstore_n 1, 1) := by decide +kernel
theorem d_Ai_digest_109 : decode b_Ai_digest 109 = .ok (.iinc 3 1, 3) := by decide +kernel
theorem d_Ai_digest_112 : decode b_Ai_digest 112 = .ok (.goto (-79), 3) := by decide +kernel
theorem d_Ai_digest_115 : decode b_Ai_digest 115 = .ok (.iconst 0, 1) := by decide +kernel
theorem d_Ai_digest_116 : decode b_Ai_digest 116 = .ok (.istore_n 3, 1) := by decide +kernel
theorem d_Ai_digest_117 : decode b_Ai_digest 117 = .ok (.iload_n 3, 1) := by decide +kernel
theorem d_Ai_digest_118 : decode b_Ai_digest 118 = .ok (.bipush 6, 2) := by decide +kernel
theorem d_Ai_digest_120 : decode b_Ai_digest 120 = .ok (.if_icmp .ge 26, 3) := by decide +kernel
theorem d_Ai_digest_123 : decode b_Ai_digest 123 = .ok (.ldc2_w 260, 3) := by decide +kernel
theorem d_Ai_digest_126 : decode b_Ai_digest 126 = .ok (.lload_n 1, 1) := by decide +kernel
theorem d_Ai_digest_127 : decode b_Ai_digest 127 = .ok (.lmul, 1) := by decide +kernel
theorem d_Ai_digest_128 : decode b_Ai_digest 128 = .ok (.aload_n 0, 1) := by decide +kernel
theorem d_Ai_digest_129 : decode b_Ai_digest 129 = .ok (.getfield 12, 3) := by decide +kernel
theorem d_Ai_digest_132 : decode b_Ai_digest 132 = .ok (.getfield 266, 3) := by decide +kernel
theorem d_Ai_digest_135 : decode b_Ai_digest 135 = .ok (.iload_n 3, 1) := by decide +kernel
theorem d_Ai_digest_136 : decode b_Ai_digest 136 = .ok (.iaload, 1) := by decide +kernel
theorem d_Ai_digest_137 : decode b_Ai_digest 137 = .ok (.i2l, 1) := by decide +kernel
theorem d_Ai_digest_138 : decode b_Ai_digest 138 = .ok (.ladd, 1) := by decide +kernel
theorem d_Ai_digest_139 : decode b_Ai_digest 139 = .ok (.lstore_n 1, 1) := by decide +kernel
theorem d_Ai_digest_140 : decode b_Ai_digest 140 = .ok (.iinc 3 1, 3) := by decide +kernel
theorem d_Ai_digest_143 : decode b_Ai_digest 143 = .ok (.goto (-26), 3) := by decide +kernel
theorem d_Ai_digest_146 : decode b_Ai_digest 146 = .ok (.iconst 0, 1) := by decide +kernel
theorem d_Ai_digest_147 : decode b_Ai_digest 147 = .ok (.istore_n 3, 1) := by decide +kernel
theorem d_Ai_digest_148 : decode b_Ai_digest 148 = .ok (.iload_n 3, 1) := by decide +kernel
theorem d_Ai_digest_149 : decode b_Ai_digest 149 = .ok (.bipush 6, 2) := by decide +kernel
theorem d_Ai_digest_151 : decode b_Ai_digest 151 = .ok (.if_icmp .ge 26, 3) := by decide +kernel
theorem d_Ai_digest_154 : decode b_Ai_digest 154 = .ok (.ldc2_w 260, 3) := by decide +kernel
theorem d_Ai_digest_157 : decode b_Ai_digest 157 = .ok (.lload_n 1, 1) := by decide +kernel
theorem d_Ai_digest_158 : decode b_Ai_digest 158 = .ok (.lmul, 1) := by decide +kernel
theorem d_Ai_digest_159 : decode b_Ai_digest 159 = .ok (.aload_n 0, 1) := by decide +kernel
theorem d_Ai_digest_160 : decode b_Ai_digest 160 = .ok (.getfield 12, 3) := by decide +kernel
theorem d_Ai_digest_163 : decode b_Ai_digest 163 = .ok (.getfield 219, 3) := by decide +kernel
theorem d_Ai_digest_166 : decode b_Ai_digest 166 = .ok (.iload_n 3, 1) := by decide +kernel
theorem d_Ai_digest_167 : decode b_Ai_digest 167 = .ok (.iaload, 1) := by decide +kernel
theorem d_Ai_digest_168 : decode b_Ai_digest 168 = .ok (.i2l, 1) := by decide +kernel
theorem d_Ai_digest_169 : decode b_Ai_digest 169 = .ok (.ladd, 1) := by decide +kernel
theorem d_Ai_digest_170 : decode b_Ai_digest 170 = .ok (.lstore_n 1, 1) := by decide +kernel
theorem d_Ai_digest_171 : decode b_Ai_digest 171 = .ok (.iinc 3 1, 3) := by decide +kernel
theorem d_Ai_digest_174 : decode b_Ai_digest 174 = .ok (.goto (-26), 3) := by decide +kernel
theorem d_Ai_digest_177 : decode b_Ai_digest 177 = .ok (.iconst 0, 1) := by decide +kernel
theorem d_Ai_digest_178 : decode b_Ai_digest 178 = .ok (.istore_n 3, 1) := by decide +kernel
theorem d_Ai_digest_179 : decode b_Ai_digest 179 = .ok (.iload_n 3, 1) := by decide +kernel
theorem d_Ai_digest_180 : decode b_Ai_digest 180 = .ok (.aload_n 0, 1) := by decide +kernel
theorem d_Ai_digest_181 : decode b_Ai_digest 181 = .ok (.getfield 12, 3) := by decide +kernel
theorem d_Ai_digest_184 : decode b_Ai_digest 184 = .ok (.getfield 80, 3) := by decide +kernel
theorem d_Ai_digest_187 : decode b_Ai_digest 187 = .ok (.if_icmp .ge 77, 3) := by decide +kernel
theorem d_Ai_digest_190 : decode b_Ai_digest 190 = .ok (.ldc2_w 260, 3) := by decide +kernel
theorem d_Ai_digest_193 : decode b_Ai_digest 193 = .ok (.lload_n 1, 1) := by decide +kernel
theorem d_Ai_digest_194 : decode b_Ai_digest 194 = .ok (.lmul, 1) := by decide +kernel
theorem d_Ai_digest_195 : decode b_Ai_digest 195 = .ok (.aload_n 0, 1) := by decide +kernel
theorem d_Ai_digest_196 : decode b_Ai_digest 196 = .ok (.getfield 12, 3) := by decide +kernel
theorem d_Ai_digest_199 : decode b_Ai_digest 199 = .ok (.getfield 269, 3) := by decide +kernel
theorem d_Ai_digest_202 : decode b_Ai_digest 202 = .ok (.iload_n 3, 1) := by decide +kernel
theorem d_Ai_digest_203 : decode b_Ai_digest 203 = .ok (.iaload, 1) := by decide +kernel
theorem d_Ai_digest_204 : decode b_Ai_digest 204 = .ok (.i2l, 1) := by decide +kernel
theorem d_Ai_digest_205 : decode b_Ai_digest 205 = .ok (.ladd, 1) := by decide +kernel
theorem d_Ai_digest_206 : decode b_Ai_digest 206 = .ok (.lstore_n 1, 1) := by decide +kernel
theorem d_Ai_digest_207 : decode b_Ai_digest 207 = .ok (.ldc2_w 260, 3) := by decide +kernel
theorem d_Ai_digest_210 : decode b_Ai_digest 210 = .ok (.lload_n 1, 1) := by decide +kernel
theorem d_Ai_digest_211 : decode b_Ai_digest 211 = .ok (.lmul, 1) := by decide +kernel
theorem d_Ai_digest_212 : decode b_Ai_digest 212 = .ok (.aload_n 0, 1) := by decide +kernel
theorem d_Ai_digest_213 : decode b_Ai_digest 213 = .ok (.getfield 12, 3) := by decide +kernel
theorem d_Ai_digest_216 : decode b_Ai_digest 216 = .ok (.getfield 272, 3) := by decide +kernel
theorem d_Ai_digest_219 : decode b_Ai_digest 219 = .ok (.iload_n 3, 1) := by decide +kernel
theorem d_Ai_digest_220 : decode b_Ai_digest 220 = .ok (.iaload, 1) := by decide +kernel
theorem d_Ai_digest_221 : decode b_Ai_digest 221 = .ok (.i2l, 1) := by decide +kernel
theorem d_Ai_digest_222 : decode b_Ai_digest 222 = .ok (.ladd, 1) := by decide +kernel
theorem d_Ai_digest_223 : decode b_Ai_digest 223 = .ok (.lstore_n 1, 1) := by decide +kernel
theorem d_Ai_digest_224 : decode b_Ai_digest 224 = .ok (.ldc2_w 260, 3) := by decide +kernel
theorem d_Ai_digest_227 : decode b_Ai_digest 227 = .ok (.lload_n 1, 1) := by decide +kernel
theorem d_Ai_digest_228 : decode b_Ai_digest 228 = .ok (.lmul, 1) := by decide +kernel
theorem d_Ai_digest_229 : decode b_Ai_digest 229 = .ok (.aload_n 0, 1) := by decide +kernel
theorem d_Ai_digest_230 : decode b_Ai_digest 230 = .ok (.getfield 12, 3) := by decide +kernel
theorem d_Ai_digest_233 : decode b_Ai_digest 233 = .ok (.getfield 185, 3) := by decide +kernel
theorem d_Ai_digest_236 : decode b_Ai_digest 236 = .ok (.iload_n 3, 1) := by decide +kernel
theorem d_Ai_digest_237 : decode b_Ai_digest 237 = .ok (.iaload, 1) := by decide +kernel
theorem d_Ai_digest_238 : decode b_Ai_digest 238 = .ok (.i2l, 1) := by decide +kernel
theorem d_Ai_digest_239 : decode b_Ai_digest 239 = .ok (.ladd, 1) := by decide +kernel
theorem d_Ai_digest_240 : decode b_Ai_digest 240 = .ok (.lstore_n 1, 1) := by decide +kernel
theorem d_Ai_digest_241 : decode b_Ai_digest 241 = .ok (.ldc2_w 260, 3) := by decide +kernel
theorem d_Ai_digest_244 : decode b_Ai_digest 244 = .ok (.lload_n 1, 1) := by decide +kernel
theorem d_Ai_digest_245 : decode b_Ai_digest 245 = .ok (.lmul, 1) := by decide +kernel
theorem d_Ai_digest_246 : decode b_Ai_digest 246 = .ok (.aload_n 0, 1) := by decide +kernel
theorem d_Ai_digest_247 : decode b_Ai_digest 247 = .ok (.getfield 12, 3) := by decide +kernel
theorem d_Ai_digest_250 : decode b_Ai_digest 250 = .ok (.getfield 207, 3) := by decide +kernel
theorem d_Ai_digest_253 : decode b_Ai_digest 253 = .ok (.iload_n 3, 1) := by decide +kernel
theorem d_Ai_digest_254 : decode b_Ai_digest 254 = .ok (.iaload, 1) := by decide +kernel
theorem d_Ai_digest_255 : decode b_Ai_digest 255 = .ok (.i2l, 1) := by decide +kernel
theorem d_Ai_digest_256 : decode b_Ai_digest 256 = .ok (.ladd, 1) := by decide +kernel
theorem d_Ai_digest_257 : decode b_Ai_digest 257 = .ok (.lstore_n 1, 1) := by decide +kernel
theorem d_Ai_digest_258 : decode b_Ai_digest 258 = .ok (.iinc 3 1, 3) := by decide +kernel
theorem d_Ai_digest_261 : decode b_Ai_digest 261 = .ok (.goto (-82), 3) := by decide +kernel
theorem d_Ai_digest_264 : decode b_Ai_digest 264 = .ok (.iconst 0, 1) := by decide +kernel
theorem d_Ai_digest_265 : decode b_Ai_digest 265 = .ok (.istore_n 3, 1) := by decide +kernel
theorem d_Ai_digest_266 : decode b_Ai_digest 266 = .ok (.iload_n 3, 1) := by decide +kernel
theorem d_Ai_digest_267 : decode b_Ai_digest 267 = .ok (.aload_n 0, 1) := by decide +kernel
theorem d_Ai_digest_268 : decode b_Ai_digest 268 = .ok (.getfield 12, 3) := by decide +kernel
theorem d_Ai_digest_271 : decode b_Ai_digest 271 = .ok (.getfield 97, 3) := by decide +kernel
theorem d_Ai_digest_274 : decode b_Ai_digest 274 = .ok (.if_icmp .ge 42, 3) := by decide +kernel
theorem d_Ai_digest_277 : decode b_Ai_digest 277 = .ok (.iconst 0, 1) := by decide +kernel
theorem d_Ai_digest_278 : decode b_Ai_digest 278 = .ok (.istore 4, 2) := by decide +kernel
theorem d_Ai_digest_280 : decode b_Ai_digest 280 = .ok (.iload 4, 2) := by decide +kernel
theorem d_Ai_digest_282 : decode b_Ai_digest 282 = .ok (.iconst 5, 1) := by decide +kernel
theorem d_Ai_digest_283 : decode b_Ai_digest 283 = .ok (.if_icmp .ge 27, 3) := by decide +kernel
theorem d_Ai_digest_286 : decode b_Ai_digest 286 = .ok (.ldc2_w 260, 3) := by decide +kernel
theorem d_Ai_digest_289 : decode b_Ai_digest 289 = .ok (.lload_n 1, 1) := by decide +kernel
theorem d_Ai_digest_290 : decode b_Ai_digest 290 = .ok (.lmul, 1) := by decide +kernel
theorem d_Ai_digest_291 : decode b_Ai_digest 291 = .ok (.aload_n 0, 1) := by decide +kernel
theorem d_Ai_digest_292 : decode b_Ai_digest 292 = .ok (.getfield 12, 3) := by decide +kernel
theorem d_Ai_digest_295 : decode b_Ai_digest 295 = .ok (.iload_n 3, 1) := by decide +kernel
theorem d_Ai_digest_296 : decode b_Ai_digest 296 = .ok (.iload 4, 2) := by decide +kernel
theorem d_Ai_digest_298 : decode b_Ai_digest 298 = .ok (.invokevirtual 120, 3) := by decide +kernel
theorem d_Ai_digest_301 : decode b_Ai_digest 301 = .ok (.i2l, 1) := by decide +kernel
theorem d_Ai_digest_302 : decode b_Ai_digest 302 = .ok (.ladd, 1) := by decide +kernel
theorem d_Ai_digest_303 : decode b_Ai_digest 303 = .ok (.lstore_n 1, 1) := by decide +kernel
theorem d_Ai_digest_304 : decode b_Ai_digest 304 = .ok (.iinc 4 1, 3) := by decide +kernel
theorem d_Ai_digest_307 : decode b_Ai_digest 307 = .ok (.goto (-27), 3) := by decide +kernel
theorem d_Ai_digest_310 : decode b_Ai_digest 310 = .ok (.iinc 3 1, 3) := by decide +kernel
theorem d_Ai_digest_313 : decode b_Ai_digest 313 = .ok (.goto (-47), 3) := by decide +kernel
theorem d_Ai_digest_316 : decode b_Ai_digest 316 = .ok (.lload_n 1, 1) := by decide +kernel
theorem d_Ai_digest_317 : decode b_Ai_digest 317 = .ok (.lreturn, 1) := by decide +kernel
theorem d_Ai_isCell_0 : decode b_Ai_isCell 0 = .ok (.iload_n 1, 1) := by decide +kernel
theorem d_Ai_isCell_1 : decode b_Ai_isCell 1 = .ok (.ifCond .lt 26, 3) := by decide +kernel
theorem d_Ai_isCell_4 : decode b_Ai_isCell 4 = .ok (.iload_n 1, 1) := by decide +kernel
theorem d_Ai_isCell_5 : decode b_Ai_isCell 5 = .ok (.aload_n 0, 1) := by decide +kernel
theorem d_Ai_isCell_6 : decode b_Ai_isCell 6 = .ok (.getfield 12, 3) := by decide +kernel
theorem d_Ai_isCell_9 : decode b_Ai_isCell 9 = .ok (.getfield 230, 3) := by decide +kernel
theorem d_Ai_isCell_12 : decode b_Ai_isCell 12 = .ok (.aload_n 0, 1) := by decide +kernel
theorem d_Ai_isCell_13 : decode b_Ai_isCell 13 = .ok (.getfield 12, 3) := by decide +kernel
theorem d_Ai_isCell_16 : decode b_Ai_isCell 16 = .ok (.getfield 233, 3) := by decide +kernel
theorem d_Ai_isCell_19 : decode b_Ai_isCell 19 = .ok (.imul, 1) := by decide +kernel
theorem d_Ai_isCell_20 : decode b_Ai_isCell 20 = .ok (.if_icmp .ge 7, 3) := by decide +kernel
theorem d_Ai_isCell_23 : decode b_Ai_isCell 23 = .ok (.iconst 1, 1) := by decide +kernel
theorem d_Ai_isCell_24 : decode b_Ai_isCell 24 = .ok (.goto 4, 3) := by decide +kernel
theorem d_Ai_isCell_27 : decode b_Ai_isCell 27 = .ok (.iconst 0, 1) := by decide +kernel
theorem d_Ai_isCell_28 : decode b_Ai_isCell 28 = .ok (.ireturn, 1) := by decide +kernel
theorem d_Ai_isMaker_0 : decode b_Ai_isMaker 0 = .ok (.iload_n 1, 1) := by decide +kernel
theorem d_Ai_isMaker_1 : decode b_Ai_isMaker 1 = .ok (.ifCond .lt 18, 3) := by decide +kernel
theorem d_Ai_isMaker_4 : decode b_Ai_isMaker 4 = .ok (.iload_n 1, 1) := by decide +kernel
theorem d_Ai_isMaker_5 : decode b_Ai_isMaker 5 = .ok (.aload_n 0, 1) := by decide +kernel
theorem d_Ai_isMaker_6 : decode b_Ai_isMaker 6 = .ok (.getfield 12, 3) := by decide +kernel
theorem d_Ai_isMaker_9 : decode b_Ai_isMaker 9 = .ok (.getfield 80, 3) := by decide +kernel
theorem d_Ai_isMaker_12 : decode b_Ai_isMaker 12 = .ok (.if_icmp .ge 7, 3) := by decide +kernel
theorem d_Ai_isMaker_15 : decode b_Ai_isMaker 15 = .ok (.iconst 1, 1) := by decide +kernel
theorem d_Ai_isMaker_16 : decode b_Ai_isMaker 16 = .ok (.goto 4, 3) := by decide +kernel
theorem d_Ai_isMaker_19 : decode b_Ai_isMaker 19 = .ok (.iconst 0, 1) := by decide +kernel
theorem d_Ai_isMaker_20 : decode b_Ai_isMaker 20 = .ok (.ireturn, 1) := by decide +kernel
theorem d_Ai_isLeave_0 : decode b_Ai_isLeave 0 = .ok (.iload_n 1, 1) := by decide +kernel
theorem d_Ai_isLeave_1 : decode b_Ai_isLeave 1 = .ok (.ifCond .lt 18, 3) := by decide +kernel
theorem d_Ai_isLeave_4 : decode b_Ai_isLeave 4 = .ok (.iload_n 1, 1) := by decide +kernel
theorem d_Ai_isLeave_5 : decode b_Ai_isLeave 5 = .ok (.aload_n 0, 1) := by decide +kernel
theorem d_Ai_isLeave_6 : decode b_Ai_isLeave 6 = .ok (.getfield 12, 3) := by decide +kernel
theorem d_Ai_isLeave_9 : decode b_Ai_isLeave 9 = .ok (.getfield 97, 3) := by decide +kernel
theorem d_Ai_isLeave_12 : decode b_Ai_isLeave 12 = .ok (.if_icmp .ge 7, 3) := by decide +kernel
theorem d_Ai_isLeave_15 : decode b_Ai_isLeave 15 = .ok (.iconst 1, 1) := by decide +kernel
theorem d_Ai_isLeave_16 : decode b_Ai_isLeave 16 = .ok (.goto 4, 3) := by decide +kernel
theorem d_Ai_isLeave_19 : decode b_Ai_isLeave 19 = .ok (.iconst 0, 1) := by decide +kernel
theorem d_Ai_isLeave_20 : decode b_Ai_isLeave 20 = .ok (.ireturn, 1) := by decide +kernel
theorem d_Ai_isSound_0 : decode b_Ai_isSound 0 = .ok (.aload_n 0, 1) := by decide +kernel
theorem d_Ai_isSound_1 : decode b_Ai_isSound 1 = .ok (.iload_n 1, 1) := by decide +kernel
theorem d_Ai_isSound_2 : decode b_Ai_isSound 2 = .ok (.invokevirtual 88, 3) := by decide +kernel
theorem d_Ai_isSound_5 : decode b_Ai_isSound 5 = .ok (.ifCond .eq 21, 3) := by decide +kernel
theorem d_Ai_isSound_8 : decode b_Ai_isSound 8 = .ok (.iload_n 2, 1) := by decide +kernel
theorem d_Ai_isSound_9 : decode b_Ai_isSound 9 = .ok (.invokestatic 94, 3) := by decide +kernel
theorem d_Ai_isSound_12 : decode b_Ai_isSound 12 = .ok (.ifCond .eq 14, 3) := by decide +kernel
theorem d_Ai_isSound_15 : decode b_Ai_isSound 15 = .ok (.iload_n 3, 1) := by decide +kernel
theorem d_Ai_isSound_16 : decode b_Ai_isSound 16 = .ok (.invokestatic 91, 3) := by decide +kernel
theorem d_Ai_isSound_19 : decode b_Ai_isSound 19 = .ok (.ifCond .eq 7, 3) := by decide +kernel
theorem d_Ai_isSound_22 : decode b_Ai_isSound 22 = .ok (.iconst 1, 1) := by decide +kernel
theorem d_Ai_isSound_23 : decode b_Ai_isSound 23 = .ok (.goto 4, 3) := by decide +kernel
theorem d_Ai_isSound_26 : decode b_Ai_isSound 26 = .ok (.iconst 0, 1) := by decide +kernel
theorem d_Ai_isSound_27 : decode b_Ai_isSound 27 = .ok (.ireturn, 1) := by decide +kernel
theorem d_Ai_isOwner_0 : decode b_Ai_isOwner 0 = .ok (.iload_n 0, 1) := by decide +kernel
theorem d_Ai_isOwner_1 : decode b_Ai_isOwner 1 = .ok (.ifCond .lt 13, 3) := by decide +kernel
theorem d_Ai_isOwner_4 : decode b_Ai_isOwner 4 = .ok (.iload_n 0, 1) := by decide +kernel
theorem d_Ai_isOwner_5 : decode b_Ai_isOwner 5 = .ok (.bipush 6, 2) := by decide +kernel
theorem d_Ai_isOwner_7 : decode b_Ai_isOwner 7 = .ok (.if_icmp .ge 7, 3) := by decide +kernel
theorem d_Ai_isOwner_10 : decode b_Ai_isOwner 10 = .ok (.iconst 1, 1) := by decide +kernel
theorem d_Ai_isOwner_11 : decode b_Ai_isOwner 11 = .ok (.goto 4, 3) := by decide +kernel
theorem d_Ai_isOwner_14 : decode b_Ai_isOwner 14 = .ok (.iconst 0, 1) := by decide +kernel
theorem d_Ai_isOwner_15 : decode b_Ai_isOwner 15 = .ok (.ireturn, 1) := by decide +kernel
theorem d_Ai_isHour_0 : decode b_Ai_isHour 0 = .ok (.iload_n 0, 1) := by decide +kernel
theorem d_Ai_isHour_1 : decode b_Ai_isHour 1 = .ok (.ifCond .lt 13, 3) := by decide +kernel
theorem d_Ai_isHour_4 : decode b_Ai_isHour 4 = .ok (.iload_n 0, 1) := by decide +kernel
theorem d_Ai_isHour_5 : decode b_Ai_isHour 5 = .ok (.bipush 23, 2) := by decide +kernel
theorem d_Ai_isHour_7 : decode b_Ai_isHour 7 = .ok (.if_icmp .gt 7, 3) := by decide +kernel
theorem d_Ai_isHour_10 : decode b_Ai_isHour 10 = .ok (.iconst 1, 1) := by decide +kernel
theorem d_Ai_isHour_11 : decode b_Ai_isHour 11 = .ok (.goto 4, 3) := by decide +kernel
theorem d_Ai_isHour_14 : decode b_Ai_isHour 14 = .ok (.iconst 0, 1) := by decide +kernel
theorem d_Ai_isHour_15 : decode b_Ai_isHour 15 = .ok (.ireturn, 1) := by decide +kernel
theorem d_Ai_isLoud_0 : decode b_Ai_isLoud 0 = .ok (.iload_n 0, 1) := by decide +kernel
theorem d_Ai_isLoud_1 : decode b_Ai_isLoud 1 = .ok (.iconst 1, 1) := by decide +kernel
theorem d_Ai_isLoud_2 : decode b_Ai_isLoud 2 = .ok (.if_icmp .lt 13, 3) := by decide +kernel
theorem d_Ai_isLoud_5 : decode b_Ai_isLoud 5 = .ok (.iload_n 0, 1) := by decide +kernel
theorem d_Ai_isLoud_6 : decode b_Ai_isLoud 6 = .ok (.bipush 20, 2) := by decide +kernel
theorem d_Ai_isLoud_8 : decode b_Ai_isLoud 8 = .ok (.if_icmp .gt 7, 3) := by decide +kernel
theorem d_Ai_isLoud_11 : decode b_Ai_isLoud 11 = .ok (.iconst 1, 1) := by decide +kernel
theorem d_Ai_isLoud_12 : decode b_Ai_isLoud 12 = .ok (.goto 4, 3) := by decide +kernel
theorem d_Ai_isLoud_15 : decode b_Ai_isLoud 15 = .ok (.iconst 0, 1) := by decide +kernel
theorem d_Ai_isLoud_16 : decode b_Ai_isLoud 16 = .ok (.ireturn, 1) := by decide +kernel
theorem d_Ai_isEither_0 : decode b_Ai_isEither 0 = .ok (.iload_n 0, 1) := by decide +kernel
theorem d_Ai_isEither_1 : decode b_Ai_isEither 1 = .ok (.ifCond .eq 8, 3) := by decide +kernel
theorem d_Ai_isEither_4 : decode b_Ai_isEither 4 = .ok (.iload_n 0, 1) := by decide +kernel
theorem d_Ai_isEither_5 : decode b_Ai_isEither 5 = .ok (.iconst 1, 1) := by decide +kernel
theorem d_Ai_isEither_6 : decode b_Ai_isEither 6 = .ok (.if_icmp .ne 7, 3) := by decide +kernel
theorem d_Ai_isEither_9 : decode b_Ai_isEither 9 = .ok (.iconst 1, 1) := by decide +kernel
theorem d_Ai_isEither_10 : decode b_Ai_isEither 10 = .ok (.goto 4, 3) := by decide +kernel
theorem d_Ai_isEither_13 : decode b_Ai_isEither 13 = .ok (.iconst 0, 1) := by decide +kernel
theorem d_Ai_isEither_14 : decode b_Ai_isEither 14 = .ok (.ireturn, 1) := by decide +kernel
theorem d_Ai_refuse_0 : decode b_Ai_refuse 0 = .ok (.aload_n 0, 1) := by decide +kernel
theorem d_Ai_refuse_1 : decode b_Ai_refuse 1 = .ok (.iload_n 1, 1) := by decide +kernel
theorem d_Ai_refuse_2 : decode b_Ai_refuse 2 = .ok (.iload_n 1, 1) := by decide +kernel
theorem d_Ai_refuse_3 : decode b_Ai_refuse 3 = .ok (.invokevirtual 160, 3) := by decide +kernel
theorem d_Ai_refuse_6 : decode b_Ai_refuse 6 = .ok (.ireturn, 1) := by decide +kernel
theorem d_Ai_refuseAs_0 : decode b_Ai_refuseAs 0 = .ok (.bipush (-2), 2) := by decide +kernel
theorem d_Ai_refuseAs_2 : decode b_Ai_refuseAs 2 = .ok (.iload_n 1, 1) := by decide +kernel
theorem d_Ai_refuseAs_3 : decode b_Ai_refuseAs 3 = .ok (.isub, 1) := by decide +kernel
theorem d_Ai_refuseAs_4 : decode b_Ai_refuseAs 4 = .ok (.istore_n 3, 1) := by decide +kernel
theorem d_Ai_refuseAs_5 : decode b_Ai_refuseAs 5 = .ok (.iload_n 3, 1) := by decide +kernel
theorem d_Ai_refuseAs_6 : decode b_Ai_refuseAs 6 = .ok (.ifCond .lt 18, 3) := by decide +kernel
theorem d_Ai_refuseAs_9 : decode b_Ai_refuseAs 9 = .ok (.iload_n 3, 1) := by decide +kernel
theorem d_Ai_refuseAs_10 : decode b_Ai_refuseAs 10 = .ok (.iconst 3, 1) := by decide +kernel
theorem d_Ai_refuseAs_11 : decode b_Ai_refuseAs 11 = .ok (.if_icmp .ge 13, 3) := by decide +kernel
theorem d_Ai_refuseAs_14 : decode b_Ai_refuseAs 14 = .ok (.aload_n 0, 1) := by decide +kernel
theorem d_Ai_refuseAs_15 : decode b_Ai_refuseAs 15 = .ok (.getfield 43, 3) := by decide +kernel
theorem d_Ai_refuseAs_18 : decode b_Ai_refuseAs 18 = .ok (.iload_n 3, 1) := by decide +kernel
theorem d_Ai_refuseAs_19 : decode b_Ai_refuseAs 19 = .ok (.dup2, 1) := by decide +kernel
theorem d_Ai_refuseAs_20 : decode b_Ai_refuseAs 20 = .ok (.iaload, 1) := by decide +kernel
theorem d_Ai_refuseAs_21 : decode b_Ai_refuseAs 21 = .ok (.iconst 1, 1) := by decide +kernel
theorem d_Ai_refuseAs_22 : decode b_Ai_refuseAs 22 = .ok (.iadd, 1) := by decide +kernel
theorem d_Ai_refuseAs_23 : decode b_Ai_refuseAs 23 = .ok (.iastore, 1) := by decide +kernel
theorem d_Ai_refuseAs_24 : decode b_Ai_refuseAs 24 = .ok (.iload_n 2, 1) := by decide +kernel
theorem d_Ai_refuseAs_25 : decode b_Ai_refuseAs 25 = .ok (.ireturn, 1) := by decide +kernel
theorem d_Ai_countOf_0 : decode b_Ai_countOf 0 = .ok (.iload_n 1, 1) := by decide +kernel
theorem d_Ai_countOf_1 : decode b_Ai_countOf 1 = .ok (.tableswitch 75 0 4 #[35, 43, 51, 59, 67], 35) := by decide +kernel
theorem d_Ai_countOf_36 : decode b_Ai_countOf 36 = .ok (.aload_n 0, 1) := by decide +kernel
theorem d_Ai_countOf_37 : decode b_Ai_countOf 37 = .ok (.getfield 12, 3) := by decide +kernel
theorem d_Ai_countOf_40 : decode b_Ai_countOf 40 = .ok (.getfield 230, 3) := by decide +kernel
theorem d_Ai_countOf_43 : decode b_Ai_countOf 43 = .ok (.ireturn, 1) := by decide +kernel
theorem d_Ai_countOf_44 : decode b_Ai_countOf 44 = .ok (.aload_n 0, 1) := by decide +kernel
theorem d_Ai_countOf_45 : decode b_Ai_countOf 45 = .ok (.getfield 12, 3) := by decide +kernel
theorem d_Ai_countOf_48 : decode b_Ai_countOf 48 = .ok (.getfield 233, 3) := by decide +kernel
theorem d_Ai_countOf_51 : decode b_Ai_countOf 51 = .ok (.ireturn, 1) := by decide +kernel
theorem d_Ai_countOf_52 : decode b_Ai_countOf 52 = .ok (.aload_n 0, 1) := by decide +kernel
theorem d_Ai_countOf_53 : decode b_Ai_countOf 53 = .ok (.getfield 12, 3) := by decide +kernel
theorem d_Ai_countOf_56 : decode b_Ai_countOf 56 = .ok (.getfield 80, 3) := by decide +kernel
theorem d_Ai_countOf_59 : decode b_Ai_countOf 59 = .ok (.ireturn, 1) := by decide +kernel
theorem d_Ai_countOf_60 : decode b_Ai_countOf 60 = .ok (.aload_n 0, 1) := by decide +kernel
theorem d_Ai_countOf_61 : decode b_Ai_countOf 61 = .ok (.getfield 12, 3) := by decide +kernel
theorem d_Ai_countOf_64 : decode b_Ai_countOf 64 = .ok (.getfield 97, 3) := by decide +kernel
theorem d_Ai_countOf_67 : decode b_Ai_countOf 67 = .ok (.ireturn, 1) := by decide +kernel
theorem d_Ai_countOf_68 : decode b_Ai_countOf 68 = .ok (.aload_n 0, 1) := by decide +kernel
theorem d_Ai_countOf_69 : decode b_Ai_countOf 69 = .ok (.getfield 12, 3) := by decide +kernel
theorem d_Ai_countOf_72 : decode b_Ai_countOf 72 = .ok (.getfield 114, 3) := by decide +kernel
theorem d_Ai_countOf_75 : decode b_Ai_countOf 75 = .ok (.ireturn, 1) := by decide +kernel
theorem d_Ai_countOf_76 : decode b_Ai_countOf 76 = .ok (.aload_n 0, 1) := by decide +kernel
theorem d_Ai_countOf_77 : decode b_Ai_countOf 77 = .ok (.getfield 39, 3) := by decide +kernel
theorem d_Ai_countOf_80 : decode b_Ai_countOf 80 = .ok (.getfield 126, 3) := by decide +kernel
theorem d_Ai_countOf_83 : decode b_Ai_countOf 83 = .ok (.ireturn, 1) := by decide +kernel
theorem d_Ai_makeSound_0 : decode b_Ai_makeSound 0 = .ok (.aload_n 0, 1) := by decide +kernel
theorem d_Ai_makeSound_1 : decode b_Ai_makeSound 1 = .ok (.getfield 32, 3) := by decide +kernel
theorem d_Ai_makeSound_4 : decode b_Ai_makeSound 4 = .ok (.aload_n 0, 1) := by decide +kernel
theorem d_Ai_makeSound_5 : decode b_Ai_makeSound 5 = .ok (.getfield 12, 3) := by decide +kernel
theorem d_Ai_makeSound_8 : decode b_Ai_makeSound 8 = .ok (.iload_n 1, 1) := by decide +kernel
theorem d_Ai_makeSound_9 : decode b_Ai_makeSound 9 = .ok (.iload_n 2, 1) := by decide +kernel
theorem d_Ai_makeSound_10 : decode b_Ai_makeSound 10 = .ok (.iload_n 3, 1) := by decide +kernel
theorem d_Ai_makeSound_11 : decode b_Ai_makeSound 11 = .ok (.iconst 0, 1) := by decide +kernel
theorem d_Ai_makeSound_12 : decode b_Ai_makeSound 12 = .ok (.iconst 0, 1) := by decide +kernel
theorem d_Ai_makeSound_13 : decode b_Ai_makeSound 13 = .ok (.invokevirtual 188, 3) := by decide +kernel
theorem d_Ai_makeSound_16 : decode b_Ai_makeSound 16 = .ok (.return_, 1) := by decide +kernel
theorem d_Ai_costOfSound_0 : decode b_Ai_costOfSound 0 = .ok (.iconst 0, 1) := by decide +kernel
theorem d_Ai_costOfSound_1 : decode b_Ai_costOfSound 1 = .ok (.istore_n 2, 1) := by decide +kernel
theorem d_Ai_costOfSound_2 : decode b_Ai_costOfSound 2 = .ok (.iconst 0, 1) := by decide +kernel
theorem d_Ai_costOfSound_3 : decode b_Ai_costOfSound 3 = .ok (.istore_n 3, 1) := by decide +kernel
theorem d_Ai_costOfSound_4 : decode b_Ai_costOfSound 4 = .ok (.iload_n 3, 1) := by decide +kernel
theorem d_Ai_costOfSound_5 : decode b_Ai_costOfSound 5 = .ok (.bipush 6, 2) := by decide +kernel
theorem d_Ai_costOfSound_7 : decode b_Ai_costOfSound 7 = .ok (.if_icmp .ge 54, 3) := by decide +kernel
theorem d_Ai_costOfSound_10 : decode b_Ai_costOfSound 10 = .ok (.iload_n 3, 1) := by decide +kernel
theorem d_Ai_costOfSound_11 : decode b_Ai_costOfSound 11 = .ok (.aload_n 0, 1) := by decide +kernel
theorem d_Ai_costOfSound_12 : decode b_Ai_costOfSound 12 = .ok (.getfield 12, 3) := by decide +kernel
theorem d_Ai_costOfSound_15 : decode b_Ai_costOfSound 15 = .ok (.iload_n 1, 1) := by decide +kernel
theorem d_Ai_costOfSound_16 : decode b_Ai_costOfSound 16 = .ok (.invokevirtual 275, 3) := by decide +kernel
theorem d_Ai_costOfSound_19 : decode b_Ai_costOfSound 19 = .ok (.if_icmp .eq 36, 3) := by decide +kernel
theorem d_Ai_costOfSound_22 : decode b_Ai_costOfSound 22 = .ok (.iload_n 2, 1) := by decide +kernel
theorem d_Ai_costOfSound_23 : decode b_Ai_costOfSound 23 = .ok (.aload_n 0, 1) := by decide +kernel
theorem d_Ai_costOfSound_24 : decode b_Ai_costOfSound 24 = .ok (.getfield 12, 3) := by decide +kernel
theorem d_Ai_costOfSound_27 : decode b_Ai_costOfSound 27 = .ok (.getfield 266, 3) := by decide +kernel
theorem d_Ai_costOfSound_30 : decode b_Ai_costOfSound 30 = .ok (.iload_n 3, 1) := by decide +kernel
theorem d_Ai_costOfSound_31 : decode b_Ai_costOfSound 31 = .ok (.iaload, 1) := by decide +kernel
theorem d_Ai_costOfSound_32 : decode b_Ai_costOfSound 32 = .ok (.aload_n 0, 1) := by decide +kernel
theorem d_Ai_costOfSound_33 : decode b_Ai_costOfSound 33 = .ok (.getfield 32, 3) := by decide +kernel
theorem d_Ai_costOfSound_36 : decode b_Ai_costOfSound 36 = .ok (.getfield 163, 3) := by decide +kernel
theorem d_Ai_costOfSound_39 : decode b_Ai_costOfSound 39 = .ok (.aload_n 0, 1) := by decide +kernel
theorem d_Ai_costOfSound_40 : decode b_Ai_costOfSound 40 = .ok (.getfield 12, 3) := by decide +kernel
theorem d_Ai_costOfSound_43 : decode b_Ai_costOfSound 43 = .ok (.getfield 70, 3) := by decide +kernel
theorem d_Ai_costOfSound_46 : decode b_Ai_costOfSound 46 = .ok (.iload_n 3, 1) := by decide +kernel
theorem d_Ai_costOfSound_47 : decode b_Ai_costOfSound 47 = .ok (.laload, 1) := by decide +kernel
theorem d_Ai_costOfSound_48 : decode b_Ai_costOfSound 48 = .ok (.land, 1) := by decide +kernel
theorem d_Ai_costOfSound_49 : decode b_Ai_costOfSound 49 = .ok (.invokestatic 151, 3) := by decide +kernel
theorem d_Ai_costOfSound_52 : decode b_Ai_costOfSound 52 = .ok (.imul, 1) := by decide +kernel
theorem d_Ai_costOfSound_53 : decode b_Ai_costOfSound 53 = .ok (.iadd, 1) := by decide +kernel
theorem d_Ai_costOfSound_54 : decode b_Ai_costOfSound 54 = .ok (.istore_n 2, 1) := by decide +kernel
theorem d_Ai_costOfSound_55 : decode b_Ai_costOfSound 55 = .ok (.iinc 3 1, 3) := by decide +kernel
theorem d_Ai_costOfSound_58 : decode b_Ai_costOfSound 58 = .ok (.goto (-54), 3) := by decide +kernel
theorem d_Ai_costOfSound_61 : decode b_Ai_costOfSound 61 = .ok (.iload_n 2, 1) := by decide +kernel
theorem d_Ai_costOfSound_62 : decode b_Ai_costOfSound 62 = .ok (.ireturn, 1) := by decide +kernel
theorem d_Ai_isAsTold_0 : decode b_Ai_isAsTold 0 = .ok (.aload_n 0, 1) := by decide +kernel
theorem d_Ai_isAsTold_1 : decode b_Ai_isAsTold 1 = .ok (.getfield 12, 3) := by decide +kernel
theorem d_Ai_isAsTold_4 : decode b_Ai_isAsTold 4 = .ok (.getfield 179, 3) := by decide +kernel
theorem d_Ai_isAsTold_7 : decode b_Ai_isAsTold 7 = .ok (.iconst 1, 1) := by decide +kernel
theorem d_Ai_isAsTold_8 : decode b_Ai_isAsTold 8 = .ok (.laload, 1) := by decide +kernel
theorem d_Ai_isAsTold_9 : decode b_Ai_isAsTold 9 = .ok (.aload_n 0, 1) := by decide +kernel
theorem d_Ai_isAsTold_10 : decode b_Ai_isAsTold 10 = .ok (.getfield 32, 3) := by decide +kernel
theorem d_Ai_isAsTold_13 : decode b_Ai_isAsTold 13 = .ok (.getfield 147, 3) := by decide +kernel
theorem d_Ai_isAsTold_16 : decode b_Ai_isAsTold 16 = .ok (.ldc2_w 170, 3) := by decide +kernel
theorem d_Ai_isAsTold_19 : decode b_Ai_isAsTold 19 = .ok (.lxor, 1) := by decide +kernel
theorem d_Ai_isAsTold_20 : decode b_Ai_isAsTold 20 = .ok (.land, 1) := by decide +kernel
theorem d_Ai_isAsTold_21 : decode b_Ai_isAsTold 21 = .ok (.lconst 0, 1) := by decide +kernel
theorem d_Ai_isAsTold_22 : decode b_Ai_isAsTold 22 = .ok (.lcmp, 1) := by decide +kernel
theorem d_Ai_isAsTold_23 : decode b_Ai_isAsTold 23 = .ok (.ifCond .ne 29, 3) := by decide +kernel
theorem d_Ai_isAsTold_26 : decode b_Ai_isAsTold 26 = .ok (.aload_n 0, 1) := by decide +kernel
theorem d_Ai_isAsTold_27 : decode b_Ai_isAsTold 27 = .ok (.getfield 12, 3) := by decide +kernel
theorem d_Ai_isAsTold_30 : decode b_Ai_isAsTold 30 = .ok (.getfield 179, 3) := by decide +kernel
theorem d_Ai_isAsTold_33 : decode b_Ai_isAsTold 33 = .ok (.iconst 2, 1) := by decide +kernel
theorem d_Ai_isAsTold_34 : decode b_Ai_isAsTold 34 = .ok (.laload, 1) := by decide +kernel
theorem d_Ai_isAsTold_35 : decode b_Ai_isAsTold 35 = .ok (.aload_n 0, 1) := by decide +kernel
theorem d_Ai_isAsTold_36 : decode b_Ai_isAsTold 36 = .ok (.getfield 32, 3) := by decide +kernel
theorem d_Ai_isAsTold_39 : decode b_Ai_isAsTold 39 = .ok (.getfield 147, 3) := by decide +kernel
theorem d_Ai_isAsTold_42 : decode b_Ai_isAsTold 42 = .ok (.land, 1) := by decide +kernel
theorem d_Ai_isAsTold_43 : decode b_Ai_isAsTold 43 = .ok (.lconst 0, 1) := by decide +kernel
theorem d_Ai_isAsTold_44 : decode b_Ai_isAsTold 44 = .ok (.lcmp, 1) := by decide +kernel
theorem d_Ai_isAsTold_45 : decode b_Ai_isAsTold 45 = .ok (.ifCond .ne 7, 3) := by decide +kernel
theorem d_Ai_isAsTold_48 : decode b_Ai_isAsTold 48 = .ok (.iconst 1, 1) := by decide +kernel
theorem d_Ai_isAsTold_49 : decode b_Ai_isAsTold 49 = .ok (.goto 4, 3) := by decide +kernel
theorem d_Ai_isAsTold_52 : decode b_Ai_isAsTold 52 = .ok (.iconst 0, 1) := by decide +kernel
theorem d_Ai_isAsTold_53 : decode b_Ai_isAsTold 53 = .ok (.ireturn, 1) := by decide +kernel
theorem d_Ai_leavesIn_0 : decode b_Ai_leavesIn 0 = .ok (.iconst 0, 1) := by decide +kernel
theorem d_Ai_leavesIn_1 : decode b_Ai_leavesIn 1 = .ok (.istore_n 2, 1) := by decide +kernel
theorem d_Ai_leavesIn_2 : decode b_Ai_leavesIn 2 = .ok (.iconst 0, 1) := by decide +kernel
theorem d_Ai_leavesIn_3 : decode b_Ai_leavesIn 3 = .ok (.istore_n 3, 1) := by decide +kernel
theorem d_Ai_leavesIn_4 : decode b_Ai_leavesIn 4 = .ok (.iload_n 3, 1) := by decide +kernel
theorem d_Ai_leavesIn_5 : decode b_Ai_leavesIn 5 = .ok (.aload_n 0, 1) := by decide +kernel
theorem d_Ai_leavesIn_6 : decode b_Ai_leavesIn 6 = .ok (.getfield 12, 3) := by decide +kernel
theorem d_Ai_leavesIn_9 : decode b_Ai_leavesIn 9 = .ok (.getfield 97, 3) := by decide +kernel
theorem d_Ai_leavesIn_12 : decode b_Ai_leavesIn 12 = .ok (.if_icmp .ge 27, 3) := by decide +kernel
theorem d_Ai_leavesIn_15 : decode b_Ai_leavesIn 15 = .ok (.aload_n 0, 1) := by decide +kernel
theorem d_Ai_leavesIn_16 : decode b_Ai_leavesIn 16 = .ok (.getfield 12, 3) := by decide +kernel
theorem d_Ai_leavesIn_19 : decode b_Ai_leavesIn 19 = .ok (.iload_n 3, 1) := by decide +kernel
theorem d_Ai_leavesIn_20 : decode b_Ai_leavesIn 20 = .ok (.iload_n 1, 1) := by decide +kernel
theorem d_Ai_leavesIn_21 : decode b_Ai_leavesIn 21 = .ok (.invokevirtual 278, 3) := by decide +kernel
theorem d_Ai_leavesIn_24 : decode b_Ai_leavesIn 24 = .ok (.ifCond .eq 9, 3) := by decide +kernel
theorem d_Ai_leavesIn_27 : decode b_Ai_leavesIn 27 = .ok (.iload_n 2, 1) := by decide +kernel
theorem d_Ai_leavesIn_28 : decode b_Ai_leavesIn 28 = .ok (.iconst 1, 1) := by decide +kernel
theorem d_Ai_leavesIn_29 : decode b_Ai_leavesIn 29 = .ok (.iload_n 3, 1) := by decide +kernel
theorem d_Ai_leavesIn_30 : decode b_Ai_leavesIn 30 = .ok (.ishl, 1) := by decide +kernel
theorem d_Ai_leavesIn_31 : decode b_Ai_leavesIn 31 = .ok (.ior, 1) := by decide +kernel
theorem d_Ai_leavesIn_32 : decode b_Ai_leavesIn 32 = .ok (.istore_n 2, 1) := by decide +kernel
theorem d_Ai_leavesIn_33 : decode b_Ai_leavesIn 33 = .ok (.iinc 3 1, 3) := by decide +kernel
theorem d_Ai_leavesIn_36 : decode b_Ai_leavesIn 36 = .ok (.goto (-32), 3) := by decide +kernel
theorem d_Ai_leavesIn_39 : decode b_Ai_leavesIn 39 = .ok (.iload_n 2, 1) := by decide +kernel
theorem d_Ai_leavesIn_40 : decode b_Ai_leavesIn 40 = .ok (.ireturn, 1) := by decide +kernel
theorem d_Ai_isStill_0 : decode b_Ai_isStill 0 = .ok (.iconst 0, 1) := by decide +kernel
theorem d_Ai_isStill_1 : decode b_Ai_isStill 1 = .ok (.istore 5, 2) := by decide +kernel
theorem d_Ai_isStill_3 : decode b_Ai_isStill 3 = .ok (.iload 5, 2) := by decide +kernel
theorem d_Ai_isStill_5 : decode b_Ai_isStill 5 = .ok (.aload_n 0, 1) := by decide +kernel
theorem d_Ai_isStill_6 : decode b_Ai_isStill 6 = .ok (.getfield 12, 3) := by decide +kernel
theorem d_Ai_isStill_9 : decode b_Ai_isStill 9 = .ok (.getfield 80, 3) := by decide +kernel
theorem d_Ai_isStill_12 : decode b_Ai_isStill 12 = .ok (.if_icmp .ge 43, 3) := by decide +kernel
theorem d_Ai_isStill_15 : decode b_Ai_isStill 15 = .ok (.aload_n 0, 1) := by decide +kernel
theorem d_Ai_isStill_16 : decode b_Ai_isStill 16 = .ok (.getfield 32, 3) := by decide +kernel
theorem d_Ai_isStill_19 : decode b_Ai_isStill 19 = .ok (.aload_n 0, 1) := by decide +kernel
theorem d_Ai_isStill_20 : decode b_Ai_isStill 20 = .ok (.getfield 12, 3) := by decide +kernel
theorem d_Ai_isStill_23 : decode b_Ai_isStill 23 = .ok (.iload 5, 2) := by decide +kernel
theorem d_Ai_isStill_25 : decode b_Ai_isStill 25 = .ok (.iload_n 1, 1) := by decide +kernel
theorem d_Ai_isStill_26 : decode b_Ai_isStill 26 = .ok (.iload_n 2, 1) := by decide +kernel
theorem d_Ai_isStill_27 : decode b_Ai_isStill 27 = .ok (.iconst 0, 1) := by decide +kernel
theorem d_Ai_isStill_28 : decode b_Ai_isStill 28 = .ok (.iload 4, 2) := by decide +kernel
theorem d_Ai_isStill_30 : decode b_Ai_isStill 30 = .ok (.invokevirtual 188, 3) := by decide +kernel
theorem d_Ai_isStill_33 : decode b_Ai_isStill 33 = .ok (.aload_n 0, 1) := by decide +kernel
theorem d_Ai_isStill_34 : decode b_Ai_isStill 34 = .ok (.getfield 32, 3) := by decide +kernel
theorem d_Ai_isStill_37 : decode b_Ai_isStill 37 = .ok (.getfield 147, 3) := by decide +kernel
theorem d_Ai_isStill_40 : decode b_Ai_isStill 40 = .ok (.iload_n 3, 1) := by decide +kernel
theorem d_Ai_isStill_41 : decode b_Ai_isStill 41 = .ok (.invokestatic 225, 3) := by decide +kernel
theorem d_Ai_isStill_44 : decode b_Ai_isStill 44 = .ok (.ifCond .eq 5, 3) := by decide +kernel
theorem d_Ai_isStill_47 : decode b_Ai_isStill 47 = .ok (.iconst 0, 1) := by decide +kernel
theorem d_Ai_isStill_48 : decode b_Ai_isStill 48 = .ok (.ireturn, 1) := by decide +kernel
theorem d_Ai_isStill_49 : decode b_Ai_isStill 49 = .ok (.iinc 5 1, 3) := by decide +kernel
theorem d_Ai_isStill_52 : decode b_Ai_isStill 52 = .ok (.goto (-49), 3) := by decide +kernel
theorem d_Ai_isStill_55 : decode b_Ai_isStill 55 = .ok (.iconst 1, 1) := by decide +kernel
theorem d_Ai_isStill_56 : decode b_Ai_isStill 56 = .ok (.ireturn, 1) := by decide +kernel
theorem d_Ai_listen_0 : decode b_Ai_listen 0 = .ok (.iconst 0, 1) := by decide +kernel
theorem d_Ai_listen_1 : decode b_Ai_listen 1 = .ok (.istore_n 2, 1) := by decide +kernel
theorem d_Ai_listen_2 : decode b_Ai_listen 2 = .ok (.iload_n 2, 1) := by decide +kernel
theorem d_Ai_listen_3 : decode b_Ai_listen 3 = .ok (.aload_n 0, 1) := by decide +kernel
theorem d_Ai_listen_4 : decode b_Ai_listen 4 = .ok (.getfield 12, 3) := by decide +kernel
theorem d_Ai_listen_7 : decode b_Ai_listen 7 = .ok (.getfield 80, 3) := by decide +kernel
theorem d_Ai_listen_10 : decode b_Ai_listen 10 = .ok (.if_icmp .ge 105, 3) := by decide +kernel
theorem d_Ai_listen_13 : decode b_Ai_listen 13 = .ok (.aload_n 0, 1) := by decide +kernel
theorem d_Ai_listen_14 : decode b_Ai_listen 14 = .ok (.getfield 47, 3) := by decide +kernel
theorem d_Ai_listen_17 : decode b_Ai_listen 17 = .ok (.iload_n 2, 1) := by decide +kernel
theorem d_Ai_listen_18 : decode b_Ai_listen 18 = .ok (.iconst 0, 1) := by decide +kernel
theorem d_Ai_listen_19 : decode b_Ai_listen 19 = .ok (.iastore, 1) := by decide +kernel
theorem d_Ai_listen_20 : decode b_Ai_listen 20 = .ok (.aload_n 0, 1) := by decide +kernel
theorem d_Ai_listen_21 : decode b_Ai_listen 21 = .ok (.getfield 12, 3) := by decide +kernel
theorem d_Ai_listen_24 : decode b_Ai_listen 24 = .ok (.getfield 207, 3) := by decide +kernel
theorem d_Ai_listen_27 : decode b_Ai_listen 27 = .ok (.iload_n 2, 1) := by decide +kernel
theorem d_Ai_listen_28 : decode b_Ai_listen 28 = .ok (.iaload, 1) := by decide +kernel
theorem d_Ai_listen_29 : decode b_Ai_listen 29 = .ok (.ifCond .le 80, 3) := by decide +kernel
theorem d_Ai_listen_32 : decode b_Ai_listen 32 = .ok (.aload_n 0, 1) := by decide +kernel
theorem d_Ai_listen_33 : decode b_Ai_listen 33 = .ok (.getfield 32, 3) := by decide +kernel
theorem d_Ai_listen_36 : decode b_Ai_listen 36 = .ok (.aload_n 0, 1) := by decide +kernel
theorem d_Ai_listen_37 : decode b_Ai_listen 37 = .ok (.getfield 12, 3) := by decide +kernel
theorem d_Ai_listen_40 : decode b_Ai_listen 40 = .ok (.iload_n 2, 1) := by decide +kernel
theorem d_Ai_listen_41 : decode b_Ai_listen 41 = .ok (.aload_n 0, 1) := by decide +kernel
theorem d_Ai_listen_42 : decode b_Ai_listen 42 = .ok (.getfield 12, 3) := by decide +kernel
theorem d_Ai_listen_45 : decode b_Ai_listen 45 = .ok (.getfield 207, 3) := by decide +kernel
theorem d_Ai_listen_48 : decode b_Ai_listen 48 = .ok (.iload_n 2, 1) := by decide +kernel
theorem d_Ai_listen_49 : decode b_Ai_listen 49 = .ok (.iaload, 1) := by decide +kernel
theorem d_Ai_listen_50 : decode b_Ai_listen 50 = .ok (.iload_n 1, 1) := by decide +kernel
theorem d_Ai_listen_51 : decode b_Ai_listen 51 = .ok (.iconst 0, 1) := by decide +kernel
theorem d_Ai_listen_52 : decode b_Ai_listen 52 = .ok (.iconst 0, 1) := by decide +kernel
theorem d_Ai_listen_53 : decode b_Ai_listen 53 = .ok (.invokevirtual 188, 3) := by decide +kernel
theorem d_Ai_listen_56 : decode b_Ai_listen 56 = .ok (.iconst 0, 1) := by decide +kernel
theorem d_Ai_listen_57 : decode b_Ai_listen 57 = .ok (.istore_n 3, 1) := by decide +kernel
theorem d_Ai_listen_58 : decode b_Ai_listen 58 = .ok (.iload_n 3, 1) := by decide +kernel
theorem d_Ai_listen_59 : decode b_Ai_listen 59 = .ok (.aload_n 0, 1) := by decide +kernel
theorem d_Ai_listen_60 : decode b_Ai_listen 60 = .ok (.getfield 12, 3) := by decide +kernel
theorem d_Ai_listen_63 : decode b_Ai_listen 63 = .ok (.getfield 80, 3) := by decide +kernel
theorem d_Ai_listen_66 : decode b_Ai_listen 66 = .ok (.if_icmp .ge 43, 3) := by decide +kernel
theorem d_Ai_listen_69 : decode b_Ai_listen 69 = .ok (.aload_n 0, 1) := by decide +kernel
theorem d_Ai_listen_70 : decode b_Ai_listen 70 = .ok (.getfield 32, 3) := by decide +kernel
theorem d_Ai_listen_73 : decode b_Ai_listen 73 = .ok (.getfield 147, 3) := by decide +kernel
theorem d_Ai_listen_76 : decode b_Ai_listen 76 = .ok (.aload_n 0, 1) := by decide +kernel
theorem d_Ai_listen_77 : decode b_Ai_listen 77 = .ok (.getfield 12, 3) := by decide +kernel
theorem d_Ai_listen_80 : decode b_Ai_listen 80 = .ok (.getfield 272, 3) := by decide +kernel
theorem d_Ai_listen_83 : decode b_Ai_listen 83 = .ok (.iload_n 3, 1) := by decide +kernel
theorem d_Ai_listen_84 : decode b_Ai_listen 84 = .ok (.iaload, 1) := by decide +kernel
theorem d_Ai_listen_85 : decode b_Ai_listen 85 = .ok (.invokestatic 225, 3) := by decide +kernel
theorem d_Ai_listen_88 : decode b_Ai_listen 88 = .ok (.ifCond .eq 15, 3) := by decide +kernel
theorem d_Ai_listen_91 : decode b_Ai_listen 91 = .ok (.aload_n 0, 1) := by decide +kernel
theorem d_Ai_listen_92 : decode b_Ai_listen 92 = .ok (.getfield 47, 3) := by decide +kernel
theorem d_Ai_listen_95 : decode b_Ai_listen 95 = .ok (.iload_n 2, 1) := by decide +kernel
theorem d_Ai_listen_96 : decode b_Ai_listen 96 = .ok (.dup2, 1) := by decide +kernel
theorem d_Ai_listen_97 : decode b_Ai_listen 97 = .ok (.iaload, 1) := by decide +kernel
theorem d_Ai_listen_98 : decode b_Ai_listen 98 = .ok (.iconst 1, 1) := by decide +kernel
theorem d_Ai_listen_99 : decode b_Ai_listen 99 = .ok (.iload_n 3, 1) := by decide +kernel
theorem d_Ai_listen_100 : decode b_Ai_listen 100 = .ok (.ishl, 1) := by decide +kernel
theorem d_Ai_listen_101 : decode b_Ai_listen 101 = .ok (.ior, 1) := by decide +kernel
theorem d_Ai_listen_102 : decode b_Ai_listen 102 = .ok (.iastore, 1) := by decide +kernel
theorem d_Ai_listen_103 : decode b_Ai_listen 103 = .ok (.iinc 3 1, 3) := by decide +kernel
theorem d_Ai_listen_106 : decode b_Ai_listen 106 = .ok (.goto (-48), 3) := by decide +kernel
theorem d_Ai_listen_109 : decode b_Ai_listen 109 = .ok (.iinc 2 1, 3) := by decide +kernel
theorem d_Ai_listen_112 : decode b_Ai_listen 112 = .ok (.goto (-110), 3) := by decide +kernel
theorem d_Ai_listen_115 : decode b_Ai_listen 115 = .ok (.return_, 1) := by decide +kernel
theorem d_Ai_behind_0 : decode b_Ai_behind 0 = .ok (.iload_n 1, 1) := by decide +kernel
theorem d_Ai_behind_1 : decode b_Ai_behind 1 = .ok (.istore_n 2, 1) := by decide +kernel
theorem d_Ai_behind_2 : decode b_Ai_behind 2 = .ok (.iconst 0, 1) := by decide +kernel
theorem d_Ai_behind_3 : decode b_Ai_behind 3 = .ok (.istore_n 3, 1) := by decide +kernel
theorem d_Ai_behind_4 : decode b_Ai_behind 4 = .ok (.iload_n 3, 1) := by decide +kernel
theorem d_Ai_behind_5 : decode b_Ai_behind 5 = .ok (.aload_n 0, 1) := by decide +kernel
theorem d_Ai_behind_6 : decode b_Ai_behind 6 = .ok (.getfield 12, 3) := by decide +kernel
theorem d_Ai_behind_9 : decode b_Ai_behind 9 = .ok (.getfield 80, 3) := by decide +kernel
theorem d_Ai_behind_12 : decode b_Ai_behind 12 = .ok (.if_icmp .ge 26, 3) := by decide +kernel
theorem d_Ai_behind_15 : decode b_Ai_behind 15 = .ok (.aload_n 0, 1) := by decide +kernel
theorem d_Ai_behind_16 : decode b_Ai_behind 16 = .ok (.getfield 47, 3) := by decide +kernel
theorem d_Ai_behind_19 : decode b_Ai_behind 19 = .ok (.iload_n 3, 1) := by decide +kernel
theorem d_Ai_behind_20 : decode b_Ai_behind 20 = .ok (.iaload, 1) := by decide +kernel
theorem d_Ai_behind_21 : decode b_Ai_behind 21 = .ok (.iload_n 1, 1) := by decide +kernel
theorem d_Ai_behind_22 : decode b_Ai_behind 22 = .ok (.iand, 1) := by decide +kernel
theorem d_Ai_behind_23 : decode b_Ai_behind 23 = .ok (.ifCond .eq 9, 3) := by decide +kernel
theorem d_Ai_behind_26 : decode b_Ai_behind 26 = .ok (.iload_n 2, 1) := by decide +kernel
theorem d_Ai_behind_27 : decode b_Ai_behind 27 = .ok (.iconst 1, 1) := by decide +kernel
theorem d_Ai_behind_28 : decode b_Ai_behind 28 = .ok (.iload_n 3, 1) := by decide +kernel
theorem d_Ai_behind_29 : decode b_Ai_behind 29 = .ok (.ishl, 1) := by decide +kernel
theorem d_Ai_behind_30 : decode b_Ai_behind 30 = .ok (.ior, 1) := by decide +kernel
theorem d_Ai_behind_31 : decode b_Ai_behind 31 = .ok (.istore_n 2, 1) := by decide +kernel
theorem d_Ai_behind_32 : decode b_Ai_behind 32 = .ok (.iinc 3 1, 3) := by decide +kernel
theorem d_Ai_behind_35 : decode b_Ai_behind 35 = .ok (.goto (-31), 3) := by decide +kernel
theorem d_Ai_behind_38 : decode b_Ai_behind 38 = .ok (.iload_n 2, 1) := by decide +kernel
theorem d_Ai_behind_39 : decode b_Ai_behind 39 = .ok (.ireturn, 1) := by decide +kernel
theorem d_Ai_leastOf_0 : decode b_Ai_leastOf 0 = .ok (.iconst 0, 1) := by decide +kernel
theorem d_Ai_leastOf_1 : decode b_Ai_leastOf 1 = .ok (.istore_n 1, 1) := by decide +kernel
theorem d_Ai_leastOf_2 : decode b_Ai_leastOf 2 = .ok (.iload_n 1, 1) := by decide +kernel
theorem d_Ai_leastOf_3 : decode b_Ai_leastOf 3 = .ok (.bipush 6, 2) := by decide +kernel
theorem d_Ai_leastOf_5 : decode b_Ai_leastOf 5 = .ok (.if_icmp .ge 19, 3) := by decide +kernel
theorem d_Ai_leastOf_8 : decode b_Ai_leastOf 8 = .ok (.iload_n 0, 1) := by decide +kernel
theorem d_Ai_leastOf_9 : decode b_Ai_leastOf 9 = .ok (.iload_n 1, 1) := by decide +kernel
theorem d_Ai_leastOf_10 : decode b_Ai_leastOf 10 = .ok (.ishr, 1) := by decide +kernel
theorem d_Ai_leastOf_11 : decode b_Ai_leastOf 11 = .ok (.iconst 1, 1) := by decide +kernel
theorem d_Ai_leastOf_12 : decode b_Ai_leastOf 12 = .ok (.iand, 1) := by decide +kernel
theorem d_Ai_leastOf_13 : decode b_Ai_leastOf 13 = .ok (.ifCond .eq 5, 3) := by decide +kernel
theorem d_Ai_leastOf_16 : decode b_Ai_leastOf 16 = .ok (.iload_n 1, 1) := by decide +kernel
theorem d_Ai_leastOf_17 : decode b_Ai_leastOf 17 = .ok (.ireturn, 1) := by decide +kernel
theorem d_Ai_leastOf_18 : decode b_Ai_leastOf 18 = .ok (.iinc 1 1, 3) := by decide +kernel
theorem d_Ai_leastOf_21 : decode b_Ai_leastOf 21 = .ok (.goto (-19), 3) := by decide +kernel
theorem d_Ai_leastOf_24 : decode b_Ai_leastOf 24 = .ok (.iconst (-1), 1) := by decide +kernel
theorem d_Ai_leastOf_25 : decode b_Ai_leastOf 25 = .ok (.ireturn, 1) := by decide +kernel
theorem d_Ai_hasCell_0 : decode b_Ai_hasCell 0 = .ok (.lload_n 0, 1) := by decide +kernel
theorem d_Ai_hasCell_1 : decode b_Ai_hasCell 1 = .ok (.iload_n 2, 1) := by decide +kernel
theorem d_Ai_hasCell_2 : decode b_Ai_hasCell 2 = .ok (.lshr, 1) := by decide +kernel
theorem d_Ai_hasCell_3 : decode b_Ai_hasCell 3 = .ok (.lconst 1, 1) := by decide +kernel
theorem d_Ai_hasCell_4 : decode b_Ai_hasCell 4 = .ok (.land, 1) := by decide +kernel
theorem d_Ai_hasCell_5 : decode b_Ai_hasCell 5 = .ok (.lconst 0, 1) := by decide +kernel
theorem d_Ai_hasCell_6 : decode b_Ai_hasCell 6 = .ok (.lcmp, 1) := by decide +kernel
theorem d_Ai_hasCell_7 : decode b_Ai_hasCell 7 = .ok (.ifCond .eq 7, 3) := by decide +kernel
theorem d_Ai_hasCell_10 : decode b_Ai_hasCell 10 = .ok (.iconst 1, 1) := by decide +kernel
theorem d_Ai_hasCell_11 : decode b_Ai_hasCell 11 = .ok (.goto 4, 3) := by decide +kernel
theorem d_Ai_hasCell_14 : decode b_Ai_hasCell 14 = .ok (.iconst 0, 1) := by decide +kernel
theorem d_Ai_hasCell_15 : decode b_Ai_hasCell 15 = .ok (.ireturn, 1) := by decide +kernel
theorem d_Ai_pick_0 : decode b_Ai_pick 0 = .ok (.iload_n 2, 1) := by decide +kernel
theorem d_Ai_pick_1 : decode b_Ai_pick 1 = .ok (.iconst (-1), 1) := by decide +kernel
theorem d_Ai_pick_2 : decode b_Ai_pick 2 = .ok (.if_icmp .ne 8, 3) := by decide +kernel
theorem d_Ai_pick_5 : decode b_Ai_pick 5 = .ok (.lload_n 0, 1) := by decide +kernel
theorem d_Ai_pick_6 : decode b_Ai_pick 6 = .ok (.invokestatic 151, 3) := by decide +kernel
theorem d_Ai_pick_9 : decode b_Ai_pick 9 = .ok (.ireturn, 1) := by decide +kernel
theorem d_Ai_pick_10 : decode b_Ai_pick 10 = .ok (.iconst 0, 1) := by decide +kernel
theorem d_Ai_pick_11 : decode b_Ai_pick 11 = .ok (.istore_n 3, 1) := by decide +kernel
theorem d_Ai_pick_12 : decode b_Ai_pick 12 = .ok (.iconst 0, 1) := by decide +kernel
theorem d_Ai_pick_13 : decode b_Ai_pick 13 = .ok (.istore 4, 2) := by decide +kernel
theorem d_Ai_pick_15 : decode b_Ai_pick 15 = .ok (.iload 4, 2) := by decide +kernel
theorem d_Ai_pick_17 : decode b_Ai_pick 17 = .ok (.bipush 36, 2) := by decide +kernel
theorem d_Ai_pick_19 : decode b_Ai_pick 19 = .ok (.if_icmp .ge 29, 3) := by decide +kernel
theorem d_Ai_pick_22 : decode b_Ai_pick 22 = .ok (.lload_n 0, 1) := by decide +kernel
theorem d_Ai_pick_23 : decode b_Ai_pick 23 = .ok (.iload 4, 2) := by decide +kernel
theorem d_Ai_pick_25 : decode b_Ai_pick 25 = .ok (.invokestatic 225, 3) := by decide +kernel
theorem d_Ai_pick_28 : decode b_Ai_pick 28 = .ok (.ifCond .eq 14, 3) := by decide +kernel
theorem d_Ai_pick_31 : decode b_Ai_pick 31 = .ok (.iload_n 3, 1) := by decide +kernel
theorem d_Ai_pick_32 : decode b_Ai_pick 32 = .ok (.iload_n 2, 1) := by decide +kernel
theorem d_Ai_pick_33 : decode b_Ai_pick 33 = .ok (.if_icmp .ne 6, 3) := by decide +kernel
theorem d_Ai_pick_36 : decode b_Ai_pick 36 = .ok (.iload 4, 2) := by decide +kernel
theorem d_Ai_pick_38 : decode b_Ai_pick 38 = .ok (.ireturn, 1) := by decide +kernel
theorem d_Ai_pick_39 : decode b_Ai_pick 39 = .ok (.iinc 3 1, 3) := by decide +kernel
theorem d_Ai_pick_42 : decode b_Ai_pick 42 = .ok (.iinc 4 1, 3) := by decide +kernel
theorem d_Ai_pick_45 : decode b_Ai_pick 45 = .ok (.goto (-30), 3) := by decide +kernel
theorem d_Ai_pick_48 : decode b_Ai_pick 48 = .ok (.bipush (-5), 2) := by decide +kernel
theorem d_Ai_pick_50 : decode b_Ai_pick 50 = .ok (.ireturn, 1) := by decide +kernel
