theorem dX5_valueWithout_54 : decode cX5_valueWithout 54 = .ok (.getfield 20, 3) := by decide +kernel
theorem dX5_valueWithout_57 : decode cX5_valueWithout 57 = .ok (.invokevirtual 131, 3) := by decide +kernel
theorem dX5_valueWithout_60 : decode cX5_valueWithout 60 = .ok (.ixor, 1) := by decide +kernel
theorem dX5_valueWithout_61 : decode cX5_valueWithout 61 = .ok (.ireturn, 1) := by decide +kernel
theorem dX5_lay_0 : decode cX5_lay 0 = .ok (.aload_n 0, 1) := by decide +kernel
theorem dX5_lay_1 : decode cX5_lay 1 = .ok (.getfield 20, 3) := by decide +kernel
theorem dX5_lay_4 : decode cX5_lay 4 = .ok (.iload_n 1, 1) := by decide +kernel
theorem dX5_lay_5 : decode cX5_lay 5 = .ok (.iload_n 2, 1) := by decide +kernel
theorem dX5_lay_6 : decode cX5_lay 6 = .ok (.invokevirtual 165, 3) := by decide +kernel
theorem dX5_lay_9 : decode cX5_lay 9 = .ok (.ifCond .ne 13, 3) := by decide +kernel
theorem dX5_lay_12 : decode cX5_lay 12 = .ok (.new 140, 3) := by decide +kernel
theorem dX5_lay_15 : decode cX5_lay 15 = .ok (.dup, 1) := by decide +kernel
theorem dX5_lay_16 : decode cX5_lay 16 = .ok (.ldc 169, 2) := by decide +kernel
theorem dX5_lay_18 : decode cX5_lay 18 = .ok (.invokespecial 144, 3) := by decide +kernel
theorem dX5_lay_21 : decode cX5_lay 21 = .ok (.athrow, 1) := by decide +kernel
theorem dX5_lay_22 : decode cX5_lay 22 = .ok (.aload_n 0, 1) := by decide +kernel
theorem dX5_lay_23 : decode cX5_lay 23 = .ok (.getfield 20, 3) := by decide +kernel
theorem dX5_lay_26 : decode cX5_lay 26 = .ok (.iload_n 1, 1) := by decide +kernel
theorem dX5_lay_27 : decode cX5_lay 27 = .ok (.iload_n 2, 1) := by decide +kernel
theorem dX5_lay_28 : decode cX5_lay 28 = .ok (.invokevirtual 171, 3) := by decide +kernel
theorem dX5_lay_31 : decode cX5_lay 31 = .ok (.ifCond .eq 13, 3) := by decide +kernel
theorem dX5_lay_34 : decode cX5_lay 34 = .ok (.new 49, 3) := by decide +kernel
theorem dX5_lay_37 : decode cX5_lay 37 = .ok (.dup, 1) := by decide +kernel
theorem dX5_lay_38 : decode cX5_lay 38 = .ok (.ldc 202, 2) := by decide +kernel
theorem dX5_lay_40 : decode cX5_lay 40 = .ok (.invokespecial 53, 3) := by decide +kernel
theorem dX5_lay_43 : decode cX5_lay 43 = .ok (.athrow, 1) := by decide +kernel
theorem dX5_lay_44 : decode cX5_lay 44 = .ok (.aload_n 0, 1) := by decide +kernel
theorem dX5_lay_45 : decode cX5_lay 45 = .ok (.getfield 31, 3) := by decide +kernel
theorem dX5_lay_48 : decode cX5_lay 48 = .ok (.aload_n 0, 1) := by decide +kernel
theorem dX5_lay_49 : decode cX5_lay 49 = .ok (.getfield 20, 3) := by decide +kernel
theorem dX5_lay_52 : decode cX5_lay 52 = .ok (.invokevirtual 69, 3) := by decide +kernel
theorem dX5_lay_55 : decode cX5_lay 55 = .ok (.aload_n 0, 1) := by decide +kernel
theorem dX5_lay_56 : decode cX5_lay 56 = .ok (.getfield 20, 3) := by decide +kernel
theorem dX5_lay_59 : decode cX5_lay 59 = .ok (.iload_n 1, 1) := by decide +kernel
theorem dX5_lay_60 : decode cX5_lay 60 = .ok (.iload_n 2, 1) := by decide +kernel
theorem dX5_lay_61 : decode cX5_lay 61 = .ok (.invokevirtual 227, 3) := by decide +kernel
theorem dX5_lay_64 : decode cX5_lay 64 = .ok (.aload_n 0, 1) := by decide +kernel
theorem dX5_lay_65 : decode cX5_lay 65 = .ok (.getfield 20, 3) := by decide +kernel
theorem dX5_lay_68 : decode cX5_lay 68 = .ok (.aload_n 0, 1) := by decide +kernel
theorem dX5_lay_69 : decode cX5_lay 69 = .ok (.getfield 20, 3) := by decide +kernel
theorem dX5_lay_72 : decode cX5_lay 72 = .ok (.getfield 104, 3) := by decide +kernel
theorem dX5_lay_75 : decode cX5_lay 75 = .ok (.invokevirtual 112, 3) := by decide +kernel
theorem dX5_lay_78 : decode cX5_lay 78 = .ok (.ireturn, 1) := by decide +kernel
theorem dX5_pass_0 : decode cX5_pass 0 = .ok (.aload_n 0, 1) := by decide +kernel
theorem dX5_pass_1 : decode cX5_pass 1 = .ok (.getfield 20, 3) := by decide +kernel
theorem dX5_pass_4 : decode cX5_pass 4 = .ok (.getfield 101, 3) := by decide +kernel
theorem dX5_pass_7 : decode cX5_pass 7 = .ok (.ifCond .ne 13, 3) := by decide +kernel
theorem dX5_pass_10 : decode cX5_pass 10 = .ok (.new 49, 3) := by decide +kernel
theorem dX5_pass_13 : decode cX5_pass 13 = .ok (.dup, 1) := by decide +kernel
theorem dX5_pass_14 : decode cX5_pass 14 = .ok (.ldc 231, 2) := by decide +kernel
theorem dX5_pass_16 : decode cX5_pass 16 = .ok (.invokespecial 53, 3) := by decide +kernel
theorem dX5_pass_19 : decode cX5_pass 19 = .ok (.athrow, 1) := by decide +kernel
theorem dX5_pass_20 : decode cX5_pass 20 = .ok (.aload_n 0, 1) := by decide +kernel
theorem dX5_pass_21 : decode cX5_pass 21 = .ok (.getfield 31, 3) := by decide +kernel
theorem dX5_pass_24 : decode cX5_pass 24 = .ok (.aload_n 0, 1) := by decide +kernel
theorem dX5_pass_25 : decode cX5_pass 25 = .ok (.getfield 20, 3) := by decide +kernel
theorem dX5_pass_28 : decode cX5_pass 28 = .ok (.invokevirtual 69, 3) := by decide +kernel
theorem dX5_pass_31 : decode cX5_pass 31 = .ok (.aload_n 0, 1) := by decide +kernel
theorem dX5_pass_32 : decode cX5_pass 32 = .ok (.getfield 20, 3) := by decide +kernel
theorem dX5_pass_35 : decode cX5_pass 35 = .ok (.invokevirtual 233, 3) := by decide +kernel
theorem dX5_pass_38 : decode cX5_pass 38 = .ok (.aload_n 0, 1) := by decide +kernel
theorem dX5_pass_39 : decode cX5_pass 39 = .ok (.getfield 20, 3) := by decide +kernel
theorem dX5_pass_42 : decode cX5_pass 42 = .ok (.getfield 101, 3) := by decide +kernel
theorem dX5_pass_45 : decode cX5_pass 45 = .ok (.ireturn, 1) := by decide +kernel
theorem dX5_playOut_0 : decode cX5_playOut 0 = .ok (.iload_n 1, 1) := by decide +kernel
theorem dX5_playOut_1 : decode cX5_playOut 1 = .ok (.iconst 1, 1) := by decide +kernel
theorem dX5_playOut_2 : decode cX5_playOut 2 = .ok (.if_icmp .lt 9, 3) := by decide +kernel
theorem dX5_playOut_5 : decode cX5_playOut 5 = .ok (.iload_n 1, 1) := by decide +kernel
theorem dX5_playOut_6 : decode cX5_playOut 6 = .ok (.bipush 20, 2) := by decide +kernel
theorem dX5_playOut_8 : decode cX5_playOut 8 = .ok (.if_icmp .le 13, 3) := by decide +kernel
theorem dX5_playOut_11 : decode cX5_playOut 11 = .ok (.new 60, 3) := by decide +kernel
theorem dX5_playOut_14 : decode cX5_playOut 14 = .ok (.dup, 1) := by decide +kernel
theorem dX5_playOut_15 : decode cX5_playOut 15 = .ok (.ldc 236, 2) := by decide +kernel
theorem dX5_playOut_17 : decode cX5_playOut 17 = .ok (.invokespecial 64, 3) := by decide +kernel
theorem dX5_playOut_20 : decode cX5_playOut 20 = .ok (.athrow, 1) := by decide +kernel
theorem dX5_playOut_21 : decode cX5_playOut 21 = .ok (.aload_n 0, 1) := by decide +kernel
theorem dX5_playOut_22 : decode cX5_playOut 22 = .ok (.getfield 31, 3) := by decide +kernel
theorem dX5_playOut_25 : decode cX5_playOut 25 = .ok (.aload_n 0, 1) := by decide +kernel
theorem dX5_playOut_26 : decode cX5_playOut 26 = .ok (.getfield 20, 3) := by decide +kernel
theorem dX5_playOut_29 : decode cX5_playOut 29 = .ok (.invokevirtual 69, 3) := by decide +kernel
theorem dX5_playOut_32 : decode cX5_playOut 32 = .ok (.iconst 0, 1) := by decide +kernel
theorem dX5_playOut_33 : decode cX5_playOut 33 = .ok (.istore_n 2, 1) := by decide +kernel
theorem dX5_playOut_34 : decode cX5_playOut 34 = .ok (.iload_n 2, 1) := by decide +kernel
theorem dX5_playOut_35 : decode cX5_playOut 35 = .ok (.iload_n 1, 1) := by decide +kernel
theorem dX5_playOut_36 : decode cX5_playOut 36 = .ok (.if_icmp .ge 53, 3) := by decide +kernel
theorem dX5_playOut_39 : decode cX5_playOut 39 = .ok (.aload_n 0, 1) := by decide +kernel
theorem dX5_playOut_40 : decode cX5_playOut 40 = .ok (.getfield 20, 3) := by decide +kernel
theorem dX5_playOut_43 : decode cX5_playOut 43 = .ok (.invokevirtual 121, 3) := by decide +kernel
theorem dX5_playOut_46 : decode cX5_playOut 46 = .ok (.ifCond .ne 43, 3) := by decide +kernel
theorem dX5_playOut_49 : decode cX5_playOut 49 = .ok (.aload_n 0, 1) := by decide +kernel
theorem dX5_playOut_50 : decode cX5_playOut 50 = .ok (.invokevirtual 216, 3) := by decide +kernel
theorem dX5_playOut_53 : decode cX5_playOut 53 = .ok (.istore_n 3, 1) := by decide +kernel
theorem dX5_playOut_54 : decode cX5_playOut 54 = .ok (.iload_n 3, 1) := by decide +kernel
theorem dX5_playOut_55 : decode cX5_playOut 55 = .ok (.bipush 100, 2) := by decide +kernel
theorem dX5_playOut_57 : decode cX5_playOut 57 = .ok (.if_icmp .ne 13, 3) := by decide +kernel
theorem dX5_playOut_60 : decode cX5_playOut 60 = .ok (.aload_n 0, 1) := by decide +kernel
theorem dX5_playOut_61 : decode cX5_playOut 61 = .ok (.getfield 20, 3) := by decide +kernel
theorem dX5_playOut_64 : decode cX5_playOut 64 = .ok (.invokevirtual 233, 3) := by decide +kernel
theorem dX5_playOut_67 : decode cX5_playOut 67 = .ok (.goto 16, 3) := by decide +kernel
theorem dX5_playOut_70 : decode cX5_playOut 70 = .ok (.aload_n 0, 1) := by decide +kernel
theorem dX5_playOut_71 : decode cX5_playOut 71 = .ok (.getfield 20, 3) := by decide +kernel
theorem dX5_playOut_74 : decode cX5_playOut 74 = .ok (.iload_n 3, 1) := by decide +kernel
theorem dX5_playOut_75 : decode cX5_playOut 75 = .ok (.iconst 4, 1) := by decide +kernel
theorem dX5_playOut_76 : decode cX5_playOut 76 = .ok (.idiv, 1) := by decide +kernel
theorem dX5_playOut_77 : decode cX5_playOut 77 = .ok (.iload_n 3, 1) := by decide +kernel
theorem dX5_playOut_78 : decode cX5_playOut 78 = .ok (.iconst 4, 1) := by decide +kernel
theorem dX5_playOut_79 : decode cX5_playOut 79 = .ok (.irem, 1) := by decide +kernel
theorem dX5_playOut_80 : decode cX5_playOut 80 = .ok (.invokevirtual 227, 3) := by decide +kernel
theorem dX5_playOut_83 : decode cX5_playOut 83 = .ok (.iinc 2 1, 3) := by decide +kernel
theorem dX5_playOut_86 : decode cX5_playOut 86 = .ok (.goto (-52), 3) := by decide +kernel
theorem dX5_playOut_89 : decode cX5_playOut 89 = .ok (.iload_n 2, 1) := by decide +kernel
theorem dX5_playOut_90 : decode cX5_playOut 90 = .ok (.ireturn, 1) := by decide +kernel
theorem dX5_setPasses_0 : decode cX5_setPasses 0 = .ok (.iload_n 1, 1) := by decide +kernel
theorem dX5_setPasses_1 : decode cX5_setPasses 1 = .ok (.ifCond .lt 9, 3) := by decide +kernel
theorem dX5_setPasses_4 : decode cX5_setPasses 4 = .ok (.iload_n 1, 1) := by decide +kernel
theorem dX5_setPasses_5 : decode cX5_setPasses 5 = .ok (.bipush 9, 2) := by decide +kernel
theorem dX5_setPasses_7 : decode cX5_setPasses 7 = .ok (.if_icmp .le 13, 3) := by decide +kernel
theorem dX5_setPasses_10 : decode cX5_setPasses 10 = .ok (.new 60, 3) := by decide +kernel
theorem dX5_setPasses_13 : decode cX5_setPasses 13 = .ok (.dup, 1) := by decide +kernel
theorem dX5_setPasses_14 : decode cX5_setPasses 14 = .ok (.ldc 238, 2) := by decide +kernel
theorem dX5_setPasses_16 : decode cX5_setPasses 16 = .ok (.invokespecial 64, 3) := by decide +kernel
theorem dX5_setPasses_19 : decode cX5_setPasses 19 = .ok (.athrow, 1) := by decide +kernel
theorem dX5_setPasses_20 : decode cX5_setPasses 20 = .ok (.aload_n 0, 1) := by decide +kernel
theorem dX5_setPasses_21 : decode cX5_setPasses 21 = .ok (.getfield 31, 3) := by decide +kernel
theorem dX5_setPasses_24 : decode cX5_setPasses 24 = .ok (.aload_n 0, 1) := by decide +kernel
theorem dX5_setPasses_25 : decode cX5_setPasses 25 = .ok (.getfield 20, 3) := by decide +kernel
theorem dX5_setPasses_28 : decode cX5_setPasses 28 = .ok (.invokevirtual 69, 3) := by decide +kernel
theorem dX5_setPasses_31 : decode cX5_setPasses 31 = .ok (.aload_n 0, 1) := by decide +kernel
theorem dX5_setPasses_32 : decode cX5_setPasses 32 = .ok (.getfield 20, 3) := by decide +kernel
theorem dX5_setPasses_35 : decode cX5_setPasses 35 = .ok (.getfield 101, 3) := by decide +kernel
theorem dX5_setPasses_38 : decode cX5_setPasses 38 = .ok (.istore_n 2, 1) := by decide +kernel
theorem dX5_setPasses_39 : decode cX5_setPasses 39 = .ok (.aload_n 0, 1) := by decide +kernel
theorem dX5_setPasses_40 : decode cX5_setPasses 40 = .ok (.getfield 20, 3) := by decide +kernel
theorem dX5_setPasses_43 : decode cX5_setPasses 43 = .ok (.iload_n 1, 1) := by decide +kernel
theorem dX5_setPasses_44 : decode cX5_setPasses 44 = .ok (.putfield 101, 3) := by decide +kernel
theorem dX5_setPasses_47 : decode cX5_setPasses 47 = .ok (.iload_n 2, 1) := by decide +kernel
theorem dX5_setPasses_48 : decode cX5_setPasses 48 = .ok (.ireturn, 1) := by decide +kernel
theorem dX5_move_0 : decode cX5_move 0 = .ok (.aload_n 0, 1) := by decide +kernel
theorem dX5_move_1 : decode cX5_move 1 = .ok (.getfield 20, 3) := by decide +kernel
theorem dX5_move_4 : decode cX5_move 4 = .ok (.iload_n 1, 1) := by decide +kernel
theorem dX5_move_5 : decode cX5_move 5 = .ok (.invokevirtual 240, 3) := by decide +kernel
theorem dX5_move_8 : decode cX5_move 8 = .ok (.astore_n 3, 1) := by decide +kernel
theorem dX5_move_9 : decode cX5_move 9 = .ok (.aload_n 3, 1) := by decide +kernel
theorem dX5_move_10 : decode cX5_move 10 = .ok (.ifnonnull 13, 3) := by decide +kernel
theorem dX5_move_13 : decode cX5_move 13 = .ok (.new 140, 3) := by decide +kernel
theorem dX5_move_16 : decode cX5_move 16 = .ok (.dup, 1) := by decide +kernel
theorem dX5_move_17 : decode cX5_move 17 = .ok (.ldc 244, 2) := by decide +kernel
theorem dX5_move_19 : decode cX5_move 19 = .ok (.invokespecial 144, 3) := by decide +kernel
theorem dX5_move_22 : decode cX5_move 22 = .ok (.athrow, 1) := by decide +kernel
theorem dX5_move_23 : decode cX5_move 23 = .ok (.iload_n 2, 1) := by decide +kernel
theorem dX5_move_24 : decode cX5_move 24 = .ok (.tableswitch 51 0 3 #[32, 36, 41, 46], 32) := by decide +kernel
theorem dX5_move_56 : decode cX5_move 56 = .ok (.iload_n 1, 1) := by decide +kernel
theorem dX5_move_57 : decode cX5_move 57 = .ok (.iconst 2, 1) := by decide +kernel
theorem dX5_move_58 : decode cX5_move 58 = .ok (.irem, 1) := by decide +kernel
theorem dX5_move_59 : decode cX5_move 59 = .ok (.ireturn, 1) := by decide +kernel
theorem dX5_move_60 : decode cX5_move 60 = .ok (.aload_n 3, 1) := by decide +kernel
theorem dX5_move_61 : decode cX5_move 61 = .ok (.getfield 246, 3) := by decide +kernel
theorem dX5_move_64 : decode cX5_move 64 = .ok (.ireturn, 1) := by decide +kernel
theorem dX5_move_65 : decode cX5_move 65 = .ok (.aload_n 3, 1) := by decide +kernel
theorem dX5_move_66 : decode cX5_move 66 = .ok (.getfield 251, 3) := by decide +kernel
theorem dX5_move_69 : decode cX5_move 69 = .ok (.ireturn, 1) := by decide +kernel
theorem dX5_move_70 : decode cX5_move 70 = .ok (.aload_n 3, 1) := by decide +kernel
theorem dX5_move_71 : decode cX5_move 71 = .ok (.getfield 254, 3) := by decide +kernel
theorem dX5_move_74 : decode cX5_move 74 = .ok (.ireturn, 1) := by decide +kernel
theorem dX5_move_75 : decode cX5_move 75 = .ok (.new 60, 3) := by decide +kernel
theorem dX5_move_78 : decode cX5_move 78 = .ok (.dup, 1) := by decide +kernel
theorem dX5_move_79 : decode cX5_move 79 = .ok (.ldc_w 257, 3) := by decide +kernel
theorem dX5_move_82 : decode cX5_move 82 = .ok (.invokespecial 64, 3) := by decide +kernel
theorem dX5_move_85 : decode cX5_move 85 = .ok (.athrow, 1) := by decide +kernel
theorem dX5_account_0 : decode cX5_account 0 = .ok (.iload_n 1, 1) := by decide +kernel
theorem dX5_account_1 : decode cX5_account 1 = .ok (.ifCond .lt 8, 3) := by decide +kernel
theorem dX5_account_4 : decode cX5_account 4 = .ok (.iload_n 1, 1) := by decide +kernel
theorem dX5_account_5 : decode cX5_account 5 = .ok (.iconst 1, 1) := by decide +kernel
theorem dX5_account_6 : decode cX5_account 6 = .ok (.if_icmp .le 14, 3) := by decide +kernel
theorem dX5_account_9 : decode cX5_account 9 = .ok (.new 140, 3) := by decide +kernel
theorem dX5_account_12 : decode cX5_account 12 = .ok (.dup, 1) := by decide +kernel
theorem dX5_account_13 : decode cX5_account 13 = .ok (.ldc_w 259, 3) := by decide +kernel
theorem dX5_account_16 : decode cX5_account 16 = .ok (.invokespecial 144, 3) := by decide +kernel
theorem dX5_account_19 : decode cX5_account 19 = .ok (.athrow, 1) := by decide +kernel
theorem dX5_account_20 : decode cX5_account 20 = .ok (.iload_n 2, 1) := by decide +kernel
theorem dX5_account_21 : decode cX5_account 21 = .ok (.ifCond .lt 8, 3) := by decide +kernel
theorem dX5_account_24 : decode cX5_account 24 = .ok (.iload_n 2, 1) := by decide +kernel
theorem dX5_account_25 : decode cX5_account 25 = .ok (.iconst 4, 1) := by decide +kernel
theorem dX5_account_26 : decode cX5_account 26 = .ok (.if_icmp .le 14, 3) := by decide +kernel
theorem dX5_account_29 : decode cX5_account 29 = .ok (.new 60, 3) := by decide +kernel
theorem dX5_account_32 : decode cX5_account 32 = .ok (.dup, 1) := by decide +kernel
theorem dX5_account_33 : decode cX5_account 33 = .ok (.ldc_w 261, 3) := by decide +kernel
theorem dX5_account_36 : decode cX5_account 36 = .ok (.invokespecial 64, 3) := by decide +kernel
theorem dX5_account_39 : decode cX5_account 39 = .ok (.athrow, 1) := by decide +kernel
theorem dX5_account_40 : decode cX5_account 40 = .ok (.iload_n 2, 1) := by decide +kernel
theorem dX5_account_41 : decode cX5_account 41 = .ok (.iconst 4, 1) := by decide +kernel
theorem dX5_account_42 : decode cX5_account 42 = .ok (.if_icmp .ne 17, 3) := by decide +kernel
theorem dX5_account_45 : decode cX5_account 45 = .ok (.aload_n 0, 1) := by decide +kernel
theorem dX5_account_46 : decode cX5_account 46 = .ok (.getfield 20, 3) := by decide +kernel
theorem dX5_account_49 : decode cX5_account 49 = .ok (.iload_n 1, 1) := by decide +kernel
theorem dX5_account_50 : decode cX5_account 50 = .ok (.invokevirtual 263, 3) := by decide +kernel
theorem dX5_account_53 : decode cX5_account 53 = .ok (.invokestatic 107, 3) := by decide +kernel
theorem dX5_account_56 : decode cX5_account 56 = .ok (.goto 12, 3) := by decide +kernel
theorem dX5_account_59 : decode cX5_account 59 = .ok (.aload_n 0, 1) := by decide +kernel
theorem dX5_account_60 : decode cX5_account 60 = .ok (.getfield 20, 3) := by decide +kernel
theorem dX5_account_63 : decode cX5_account 63 = .ok (.iload_n 1, 1) := by decide +kernel
theorem dX5_account_64 : decode cX5_account 64 = .ok (.iload_n 2, 1) := by decide +kernel
theorem dX5_account_65 : decode cX5_account 65 = .ok (.invokevirtual 266, 3) := by decide +kernel
theorem dX5_account_68 : decode cX5_account 68 = .ok (.ireturn, 1) := by decide +kernel
theorem dX5_writeBoard_0 : decode cX5_writeBoard 0 = .ok (.aload_n 0, 1) := by decide +kernel
theorem dX5_writeBoard_1 : decode cX5_writeBoard 1 = .ok (.iconst 0, 1) := by decide +kernel
theorem dX5_writeBoard_2 : decode cX5_writeBoard 2 = .ok (.putfield 269, 3) := by decide +kernel
theorem dX5_writeBoard_5 : decode cX5_writeBoard 5 = .ok (.iconst 0, 1) := by decide +kernel
theorem dX5_writeBoard_6 : decode cX5_writeBoard 6 = .ok (.istore_n 1, 1) := by decide +kernel
theorem dX5_writeBoard_7 : decode cX5_writeBoard 7 = .ok (.iload_n 1, 1) := by decide +kernel
theorem dX5_writeBoard_8 : decode cX5_writeBoard 8 = .ok (.aload_n 0, 1) := by decide +kernel
theorem dX5_writeBoard_9 : decode cX5_writeBoard 9 = .ok (.getfield 20, 3) := by decide +kernel
theorem dX5_writeBoard_12 : decode cX5_writeBoard 12 = .ok (.getfield 85, 3) := by decide +kernel
theorem dX5_writeBoard_15 : decode cX5_writeBoard 15 = .ok (.if_icmp .ge 40, 3) := by decide +kernel
theorem dX5_writeBoard_18 : decode cX5_writeBoard 18 = .ok (.aload_n 0, 1) := by decide +kernel
theorem dX5_writeBoard_19 : decode cX5_writeBoard 19 = .ok (.aload_n 0, 1) := by decide +kernel
theorem dX5_writeBoard_20 : decode cX5_writeBoard 20 = .ok (.getfield 20, 3) := by decide +kernel
theorem dX5_writeBoard_23 : decode cX5_writeBoard 23 = .ok (.iload_n 1, 1) := by decide +kernel
theorem dX5_writeBoard_24 : decode cX5_writeBoard 24 = .ok (.invokevirtual 157, 3) := by decide +kernel
theorem dX5_writeBoard_27 : decode cX5_writeBoard 27 = .ok (.ifCond .eq 8, 3) := by decide +kernel
theorem dX5_writeBoard_30 : decode cX5_writeBoard 30 = .ok (.bipush 46, 2) := by decide +kernel
theorem dX5_writeBoard_32 : decode cX5_writeBoard 32 = .ok (.goto 14, 3) := by decide +kernel
theorem dX5_writeBoard_35 : decode cX5_writeBoard 35 = .ok (.bipush 97, 2) := by decide +kernel
theorem dX5_writeBoard_37 : decode cX5_writeBoard 37 = .ok (.aload_n 0, 1) := by decide +kernel
theorem dX5_writeBoard_38 : decode cX5_writeBoard 38 = .ok (.getfield 20, 3) := by decide +kernel
theorem dX5_writeBoard_41 : decode cX5_writeBoard 41 = .ok (.iload_n 1, 1) := by decide +kernel
theorem dX5_writeBoard_42 : decode cX5_writeBoard 42 = .ok (.invokevirtual 145, 3) := by decide +kernel
theorem dX5_writeBoard_45 : decode cX5_writeBoard 45 = .ok (.iadd, 1) := by decide +kernel
theorem dX5_writeBoard_46 : decode cX5_writeBoard 46 = .ok (.invokevirtual 272, 3) := by decide +kernel
theorem dX5_writeBoard_49 : decode cX5_writeBoard 49 = .ok (.iinc 1 1, 3) := by decide +kernel
theorem dX5_writeBoard_52 : decode cX5_writeBoard 52 = .ok (.goto (-45), 3) := by decide +kernel
theorem dX5_writeBoard_55 : decode cX5_writeBoard 55 = .ok (.aload_n 0, 1) := by decide +kernel
theorem dX5_writeBoard_56 : decode cX5_writeBoard 56 = .ok (.bipush 47, 2) := by decide +kernel
theorem dX5_writeBoard_58 : decode cX5_writeBoard 58 = .ok (.invokevirtual 272, 3) := by decide +kernel
theorem dX5_writeBoard_61 : decode cX5_writeBoard 61 = .ok (.aload_n 0, 1) := by decide +kernel
theorem dX5_writeBoard_62 : decode cX5_writeBoard 62 = .ok (.bipush 48, 2) := by decide +kernel
theorem dX5_writeBoard_64 : decode cX5_writeBoard 64 = .ok (.aload_n 0, 1) := by decide +kernel
theorem dX5_writeBoard_65 : decode cX5_writeBoard 65 = .ok (.getfield 20, 3) := by decide +kernel
theorem dX5_writeBoard_68 : decode cX5_writeBoard 68 = .ok (.invokevirtual 115, 3) := by decide +kernel
theorem dX5_writeBoard_71 : decode cX5_writeBoard 71 = .ok (.iadd, 1) := by decide +kernel
theorem dX5_writeBoard_72 : decode cX5_writeBoard 72 = .ok (.invokevirtual 272, 3) := by decide +kernel
theorem dX5_writeBoard_75 : decode cX5_writeBoard 75 = .ok (.aload_n 0, 1) := by decide +kernel
theorem dX5_writeBoard_76 : decode cX5_writeBoard 76 = .ok (.bipush 47, 2) := by decide +kernel
theorem dX5_writeBoard_78 : decode cX5_writeBoard 78 = .ok (.invokevirtual 272, 3) := by decide +kernel
theorem dX5_writeBoard_81 : decode cX5_writeBoard 81 = .ok (.aload_n 0, 1) := by decide +kernel
theorem dX5_writeBoard_82 : decode cX5_writeBoard 82 = .ok (.bipush 48, 2) := by decide +kernel
theorem dX5_writeBoard_84 : decode cX5_writeBoard 84 = .ok (.aload_n 0, 1) := by decide +kernel
theorem dX5_writeBoard_85 : decode cX5_writeBoard 85 = .ok (.getfield 20, 3) := by decide +kernel
theorem dX5_writeBoard_88 : decode cX5_writeBoard 88 = .ok (.getfield 101, 3) := by decide +kernel
theorem dX5_writeBoard_91 : decode cX5_writeBoard 91 = .ok (.iadd, 1) := by decide +kernel
theorem dX5_writeBoard_92 : decode cX5_writeBoard 92 = .ok (.invokevirtual 272, 3) := by decide +kernel
theorem dX5_writeBoard_95 : decode cX5_writeBoard 95 = .ok (.aload_n 0, 1) := by decide +kernel
theorem dX5_writeBoard_96 : decode cX5_writeBoard 96 = .ok (.getfield 269, 3) := by decide +kernel
theorem dX5_writeBoard_99 : decode cX5_writeBoard 99 = .ok (.ireturn, 1) := by decide +kernel
theorem dX5_writtenByte_0 : decode cX5_writtenByte 0 = .ok (.iload_n 1, 1) := by decide +kernel
theorem dX5_writtenByte_1 : decode cX5_writtenByte 1 = .ok (.ifCond .lt 20, 3) := by decide +kernel
theorem dX5_writtenByte_4 : decode cX5_writtenByte 4 = .ok (.iload_n 1, 1) := by decide +kernel
theorem dX5_writtenByte_5 : decode cX5_writtenByte 5 = .ok (.aload_n 0, 1) := by decide +kernel
theorem dX5_writtenByte_6 : decode cX5_writtenByte 6 = .ok (.getfield 269, 3) := by decide +kernel
theorem dX5_writtenByte_9 : decode cX5_writtenByte 9 = .ok (.if_icmp .ge 12, 3) := by decide +kernel
theorem dX5_writtenByte_12 : decode cX5_writtenByte 12 = .ok (.iload_n 1, 1) := by decide +kernel
theorem dX5_writtenByte_13 : decode cX5_writtenByte 13 = .ok (.aload_n 0, 1) := by decide +kernel
theorem dX5_writtenByte_14 : decode cX5_writtenByte 14 = .ok (.getfield 41, 3) := by decide +kernel
theorem dX5_writtenByte_17 : decode cX5_writtenByte 17 = .ok (.arraylength, 1) := by decide +kernel
theorem dX5_writtenByte_18 : decode cX5_writtenByte 18 = .ok (.if_icmp .lt 14, 3) := by decide +kernel
theorem dX5_writtenByte_21 : decode cX5_writtenByte 21 = .ok (.new 140, 3) := by decide +kernel
theorem dX5_writtenByte_24 : decode cX5_writtenByte 24 = .ok (.dup, 1) := by decide +kernel
theorem dX5_writtenByte_25 : decode cX5_writtenByte 25 = .ok (.ldc_w 275, 3) := by decide +kernel
theorem dX5_writtenByte_28 : decode cX5_writtenByte 28 = .ok (.invokespecial 144, 3) := by decide +kernel
theorem dX5_writtenByte_31 : decode cX5_writtenByte 31 = .ok (.athrow, 1) := by decide +kernel
theorem dX5_writtenByte_32 : decode cX5_writtenByte 32 = .ok (.aload_n 0, 1) := by decide +kernel
theorem dX5_writtenByte_33 : decode cX5_writtenByte 33 = .ok (.getfield 41, 3) := by decide +kernel
theorem dX5_writtenByte_36 : decode cX5_writtenByte 36 = .ok (.iload_n 1, 1) := by decide +kernel
theorem dX5_writtenByte_37 : decode cX5_writtenByte 37 = .ok (.baload, 1) := by decide +kernel
theorem dX5_writtenByte_38 : decode cX5_writtenByte 38 = .ok (.ireturn, 1) := by decide +kernel
theorem dX5_undo_0 : decode cX5_undo 0 = .ok (.aload_n 0, 1) := by decide +kernel
theorem dX5_undo_1 : decode cX5_undo 1 = .ok (.getfield 31, 3) := by decide +kernel
theorem dX5_undo_4 : decode cX5_undo 4 = .ok (.getfield 277, 3) := by decide +kernel
theorem dX5_undo_7 : decode cX5_undo 7 = .ok (.ifCond .ne 14, 3) := by decide +kernel
theorem dX5_undo_10 : decode cX5_undo 10 = .ok (.new 49, 3) := by decide +kernel
theorem dX5_undo_13 : decode cX5_undo 13 = .ok (.dup, 1) := by decide +kernel
theorem dX5_undo_14 : decode cX5_undo 14 = .ok (.ldc_w 280, 3) := by decide +kernel
theorem dX5_undo_17 : decode cX5_undo 17 = .ok (.invokespecial 53, 3) := by decide +kernel
theorem dX5_undo_20 : decode cX5_undo 20 = .ok (.athrow, 1) := by decide +kernel
theorem dX5_undo_21 : decode cX5_undo 21 = .ok (.aload_n 0, 1) := by decide +kernel
theorem dX5_undo_22 : decode cX5_undo 22 = .ok (.getfield 31, 3) := by decide +kernel
theorem dX5_undo_25 : decode cX5_undo 25 = .ok (.aload_n 0, 1) := by decide +kernel
theorem dX5_undo_26 : decode cX5_undo 26 = .ok (.getfield 20, 3) := by decide +kernel
theorem dX5_undo_29 : decode cX5_undo 29 = .ok (.invokevirtual 282, 3) := by decide +kernel
theorem dX5_undo_32 : decode cX5_undo 32 = .ok (.aload_n 0, 1) := by decide +kernel
theorem dX5_undo_33 : decode cX5_undo 33 = .ok (.getfield 31, 3) := by decide +kernel
theorem dX5_undo_36 : decode cX5_undo 36 = .ok (.getfield 277, 3) := by decide +kernel
theorem dX5_undo_39 : decode cX5_undo 39 = .ok (.ireturn, 1) := by decide +kernel
theorem dX5_save_0 : decode cX5_save 0 = .ok (.iload_n 1, 1) := by decide +kernel
theorem dX5_save_1 : decode cX5_save 1 = .ok (.ifCond .lt 12, 3) := by decide +kernel
theorem dX5_save_4 : decode cX5_save 4 = .ok (.iload_n 1, 1) := by decide +kernel
theorem dX5_save_5 : decode cX5_save 5 = .ok (.aload_n 0, 1) := by decide +kernel
theorem dX5_save_6 : decode cX5_save 6 = .ok (.getfield 37, 3) := by decide +kernel
theorem dX5_save_9 : decode cX5_save 9 = .ok (.arraylength, 1) := by decide +kernel
theorem dX5_save_10 : decode cX5_save 10 = .ok (.if_icmp .lt 14, 3) := by decide +kernel
theorem dX5_save_13 : decode cX5_save 13 = .ok (.new 140, 3) := by decide +kernel
theorem dX5_save_16 : decode cX5_save 16 = .ok (.dup, 1) := by decide +kernel
theorem dX5_save_17 : decode cX5_save 17 = .ok (.ldc_w 285, 3) := by decide +kernel
theorem dX5_save_20 : decode cX5_save 20 = .ok (.invokespecial 144, 3) := by decide +kernel
theorem dX5_save_23 : decode cX5_save 23 = .ok (.athrow, 1) := by decide +kernel
theorem dX5_save_24 : decode cX5_save 24 = .ok (.aload_n 0, 1) := by decide +kernel
theorem dX5_save_25 : decode cX5_save 25 = .ok (.getfield 37, 3) := by decide +kernel
theorem dX5_save_28 : decode cX5_save 28 = .ok (.iload_n 1, 1) := by decide +kernel
theorem dX5_save_29 : decode cX5_save 29 = .ok (.aload_n 0, 1) := by decide +kernel
theorem dX5_save_30 : decode cX5_save 30 = .ok (.getfield 20, 3) := by decide +kernel
theorem dX5_save_33 : decode cX5_save 33 = .ok (.invokestatic 287, 3) := by decide +kernel
theorem dX5_save_36 : decode cX5_save 36 = .ok (.aload_n 0, 1) := by decide +kernel
theorem dX5_save_37 : decode cX5_save 37 = .ok (.getfield 20, 3) := by decide +kernel
theorem dX5_save_40 : decode cX5_save 40 = .ok (.getfield 118, 3) := by decide +kernel
theorem dX5_save_43 : decode cX5_save 43 = .ok (.ireturn, 1) := by decide +kernel
theorem dX5_restore_0 : decode cX5_restore 0 = .ok (.iload_n 1, 1) := by decide +kernel
theorem dX5_restore_1 : decode cX5_restore 1 = .ok (.ifCond .lt 12, 3) := by decide +kernel
theorem dX5_restore_4 : decode cX5_restore 4 = .ok (.iload_n 1, 1) := by decide +kernel
theorem dX5_restore_5 : decode cX5_restore 5 = .ok (.aload_n 0, 1) := by decide +kernel
theorem dX5_restore_6 : decode cX5_restore 6 = .ok (.getfield 37, 3) := by decide +kernel
theorem dX5_restore_9 : decode cX5_restore 9 = .ok (.arraylength, 1) := by decide +kernel
theorem dX5_restore_10 : decode cX5_restore 10 = .ok (.if_icmp .lt 14, 3) := by decide +kernel
theorem dX5_restore_13 : decode cX5_restore 13 = .ok (.new 140, 3) := by decide +kernel
theorem dX5_restore_16 : decode cX5_restore 16 = .ok (.dup, 1) := by decide +kernel
theorem dX5_restore_17 : decode cX5_restore 17 = .ok (.ldc_w 285, 3) := by decide +kernel
theorem dX5_restore_20 : decode cX5_restore 20 = .ok (.invokespecial 144, 3) := by decide +kernel
theorem dX5_restore_23 : decode cX5_restore 23 = .ok (.athrow, 1) := by decide +kernel
theorem dX5_restore_24 : decode cX5_restore 24 = .ok (.aload_n 0, 1) := by decide +kernel
theorem dX5_restore_25 : decode cX5_restore 25 = .ok (.getfield 37, 3) := by decide +kernel
theorem dX5_restore_28 : decode cX5_restore 28 = .ok (.iload_n 1, 1) := by decide +kernel
theorem dX5_restore_29 : decode cX5_restore 29 = .ok (.aaload, 1) := by decide +kernel
theorem dX5_restore_30 : decode cX5_restore 30 = .ok (.astore_n 2, 1) := by decide +kernel
theorem dX5_restore_31 : decode cX5_restore 31 = .ok (.aload_n 2, 1) := by decide +kernel
theorem dX5_restore_32 : decode cX5_restore 32 = .ok (.ifnonnull 14, 3) := by decide +kernel
theorem dX5_restore_35 : decode cX5_restore 35 = .ok (.new 49, 3) := by decide +kernel
theorem dX5_restore_38 : decode cX5_restore 38 = .ok (.dup, 1) := by decide +kernel
theorem dX5_restore_39 : decode cX5_restore 39 = .ok (.ldc_w 291, 3) := by decide +kernel
theorem dX5_restore_42 : decode cX5_restore 42 = .ok (.invokespecial 53, 3) := by decide +kernel
theorem dX5_restore_45 : decode cX5_restore 45 = .ok (.athrow, 1) := by decide +kernel
theorem dX5_restore_46 : decode cX5_restore 46 = .ok (.aload_n 0, 1) := by decide +kernel
theorem dX5_restore_47 : decode cX5_restore 47 = .ok (.getfield 31, 3) := by decide +kernel
theorem dX5_restore_50 : decode cX5_restore 50 = .ok (.aload_n 0, 1) := by decide +kernel
theorem dX5_restore_51 : decode cX5_restore 51 = .ok (.getfield 20, 3) := by decide +kernel
theorem dX5_restore_54 : decode cX5_restore 54 = .ok (.invokevirtual 69, 3) := by decide +kernel
theorem dX5_restore_57 : decode cX5_restore 57 = .ok (.aload_n 0, 1) := by decide +kernel
theorem dX5_restore_58 : decode cX5_restore 58 = .ok (.getfield 20, 3) := by decide +kernel
theorem dX5_restore_61 : decode cX5_restore 61 = .ok (.aload_n 2, 1) := by decide +kernel
theorem dX5_restore_62 : decode cX5_restore 62 = .ok (.invokevirtual 79, 3) := by decide +kernel
theorem dX5_restore_65 : decode cX5_restore 65 = .ok (.aload_n 0, 1) := by decide +kernel
theorem dX5_restore_66 : decode cX5_restore 66 = .ok (.getfield 20, 3) := by decide +kernel
theorem dX5_restore_69 : decode cX5_restore 69 = .ok (.getfield 118, 3) := by decide +kernel
theorem dX5_restore_72 : decode cX5_restore 72 = .ok (.ireturn, 1) := by decide +kernel
theorem dX5_winnersOn_0 : decode cX5_winnersOn 0 = .ok (.aload_n 0, 1) := by decide +kernel
theorem dX5_winnersOn_1 : decode cX5_winnersOn 1 = .ok (.getfield 20, 3) := by decide +kernel
theorem dX5_winnersOn_4 : decode cX5_winnersOn 4 = .ok (.iload_n 1, 1) := by decide +kernel
theorem dX5_winnersOn_5 : decode cX5_winnersOn 5 = .ok (.invokevirtual 151, 3) := by decide +kernel
theorem dX5_winnersOn_8 : decode cX5_winnersOn 8 = .ok (.istore_n 2, 1) := by decide +kernel
theorem dX5_winnersOn_9 : decode cX5_winnersOn 9 = .ok (.iconst 0, 1) := by decide +kernel
theorem dX5_winnersOn_10 : decode cX5_winnersOn 10 = .ok (.istore_n 3, 1) := by decide +kernel
theorem dX5_winnersOn_11 : decode cX5_winnersOn 11 = .ok (.iconst 0, 1) := by decide +kernel
theorem dX5_winnersOn_12 : decode cX5_winnersOn 12 = .ok (.istore 4, 2) := by decide +kernel
theorem dX5_winnersOn_14 : decode cX5_winnersOn 14 = .ok (.iload 4, 2) := by decide +kernel
theorem dX5_winnersOn_16 : decode cX5_winnersOn 16 = .ok (.iconst 3, 1) := by decide +kernel
theorem dX5_winnersOn_17 : decode cX5_winnersOn 17 = .ok (.if_icmp .ge 48, 3) := by decide +kernel
theorem dX5_winnersOn_20 : decode cX5_winnersOn 20 = .ok (.iload_n 2, 1) := by decide +kernel
theorem dX5_winnersOn_21 : decode cX5_winnersOn 21 = .ok (.iload 4, 2) := by decide +kernel
theorem dX5_winnersOn_23 : decode cX5_winnersOn 23 = .ok (.invokestatic 293, 3) := by decide +kernel
theorem dX5_winnersOn_26 : decode cX5_winnersOn 26 = .ok (.ifCond .eq 33, 3) := by decide +kernel
theorem dX5_winnersOn_29 : decode cX5_winnersOn 29 = .ok (.aload_n 0, 1) := by decide +kernel
theorem dX5_winnersOn_30 : decode cX5_winnersOn 30 = .ok (.getfield 10, 3) := by decide +kernel
theorem dX5_winnersOn_33 : decode cX5_winnersOn 33 = .ok (.iload_n 1, 1) := by decide +kernel
theorem dX5_winnersOn_34 : decode cX5_winnersOn 34 = .ok (.iload 4, 2) := by decide +kernel
theorem dX5_winnersOn_36 : decode cX5_winnersOn 36 = .ok (.invokevirtual 205, 3) := by decide +kernel
theorem dX5_winnersOn_39 : decode cX5_winnersOn 39 = .ok (.invokestatic 189, 3) := by decide +kernel
theorem dX5_winnersOn_42 : decode cX5_winnersOn 42 = .ok (.aload_n 0, 1) := by decide +kernel
theorem dX5_winnersOn_43 : decode cX5_winnersOn 43 = .ok (.getfield 20, 3) := by decide +kernel
theorem dX5_winnersOn_46 : decode cX5_winnersOn 46 = .ok (.invokevirtual 131, 3) := by decide +kernel
theorem dX5_winnersOn_49 : decode cX5_winnersOn 49 = .ok (.if_icmp .ne 10, 3) := by decide +kernel
theorem dX5_winnersOn_52 : decode cX5_winnersOn 52 = .ok (.iload_n 3, 1) := by decide +kernel
theorem dX5_winnersOn_53 : decode cX5_winnersOn 53 = .ok (.iconst 1, 1) := by decide +kernel
theorem dX5_winnersOn_54 : decode cX5_winnersOn 54 = .ok (.iload 4, 2) := by decide +kernel
theorem dX5_winnersOn_56 : decode cX5_winnersOn 56 = .ok (.ishl, 1) := by decide +kernel
theorem dX5_winnersOn_57 : decode cX5_winnersOn 57 = .ok (.ior, 1) := by decide +kernel
theorem dX5_winnersOn_58 : decode cX5_winnersOn 58 = .ok (.istore_n 3, 1) := by decide +kernel
theorem dX5_winnersOn_59 : decode cX5_winnersOn 59 = .ok (.iinc 4 1, 3) := by decide +kernel
theorem dX5_winnersOn_62 : decode cX5_winnersOn 62 = .ok (.goto (-48), 3) := by decide +kernel
theorem dX5_winnersOn_65 : decode cX5_winnersOn 65 = .ok (.iload_n 3, 1) := by decide +kernel
theorem dX5_winnersOn_66 : decode cX5_winnersOn 66 = .ok (.ireturn, 1) := by decide +kernel
theorem dX5_passWins_0 : decode cX5_passWins 0 = .ok (.aload_n 0, 1) := by decide +kernel
theorem dX5_passWins_1 : decode cX5_passWins 1 = .ok (.getfield 10, 3) := by decide +kernel
theorem dX5_passWins_4 : decode cX5_passWins 4 = .ok (.aload_n 0, 1) := by decide +kernel
theorem dX5_passWins_5 : decode cX5_passWins 5 = .ok (.getfield 20, 3) := by decide +kernel
theorem dX5_passWins_8 : decode cX5_passWins 8 = .ok (.getfield 104, 3) := by decide +kernel
theorem dX5_passWins_11 : decode cX5_passWins 11 = .ok (.invokevirtual 186, 3) := by decide +kernel
theorem dX5_passWins_14 : decode cX5_passWins 14 = .ok (.invokestatic 189, 3) := by decide +kernel
theorem dX5_passWins_17 : decode cX5_passWins 17 = .ok (.aload_n 0, 1) := by decide +kernel
theorem dX5_passWins_18 : decode cX5_passWins 18 = .ok (.getfield 20, 3) := by decide +kernel
theorem dX5_passWins_21 : decode cX5_passWins 21 = .ok (.invokevirtual 131, 3) := by decide +kernel
theorem dX5_passWins_24 : decode cX5_passWins 24 = .ok (.ixor, 1) := by decide +kernel
theorem dX5_passWins_25 : decode cX5_passWins 25 = .ok (.iconst 1, 1) := by decide +kernel
theorem dX5_passWins_26 : decode cX5_passWins 26 = .ok (.ixor, 1) := by decide +kernel
theorem dX5_passWins_27 : decode cX5_passWins 27 = .ok (.istore_n 1, 1) := by decide +kernel
theorem dX5_passWins_28 : decode cX5_passWins 28 = .ok (.aload_n 0, 1) := by decide +kernel
theorem dX5_passWins_29 : decode cX5_passWins 29 = .ok (.getfield 20, 3) := by decide +kernel
theorem dX5_passWins_32 : decode cX5_passWins 32 = .ok (.getfield 101, 3) := by decide +kernel
theorem dX5_passWins_35 : decode cX5_passWins 35 = .ok (.ifCond .le 11, 3) := by decide +kernel
theorem dX5_passWins_38 : decode cX5_passWins 38 = .ok (.iload_n 1, 1) := by decide +kernel
theorem dX5_passWins_39 : decode cX5_passWins 39 = .ok (.ifCond .ne 7, 3) := by decide +kernel
theorem dX5_passWins_42 : decode cX5_passWins 42 = .ok (.iconst 1, 1) := by decide +kernel
theorem dX5_passWins_43 : decode cX5_passWins 43 = .ok (.goto 4, 3) := by decide +kernel
theorem dX5_passWins_46 : decode cX5_passWins 46 = .ok (.iconst 0, 1) := by decide +kernel
theorem dX5_passWins_47 : decode cX5_passWins 47 = .ok (.ireturn, 1) := by decide +kernel
theorem dX5_chosenMove_0 : decode cX5_chosenMove 0 = .ok (.bipush 100, 2) := by decide +kernel
theorem dX5_chosenMove_2 : decode cX5_chosenMove 2 = .ok (.istore_n 1, 1) := by decide +kernel
theorem dX5_chosenMove_3 : decode cX5_chosenMove 3 = .ok (.iconst (-1), 1) := by decide +kernel
theorem dX5_chosenMove_4 : decode cX5_chosenMove 4 = .ok (.istore_n 2, 1) := by decide +kernel
theorem dX5_chosenMove_5 : decode cX5_chosenMove 5 = .ok (.iconst 0, 1) := by decide +kernel
theorem dX5_chosenMove_6 : decode cX5_chosenMove 6 = .ok (.istore_n 3, 1) := by decide +kernel
theorem dX5_chosenMove_7 : decode cX5_chosenMove 7 = .ok (.iload_n 3, 1) := by decide +kernel
theorem dX5_chosenMove_8 : decode cX5_chosenMove 8 = .ok (.aload_n 0, 1) := by decide +kernel
theorem dX5_chosenMove_9 : decode cX5_chosenMove 9 = .ok (.getfield 20, 3) := by decide +kernel
theorem dX5_chosenMove_12 : decode cX5_chosenMove 12 = .ok (.getfield 85, 3) := by decide +kernel
theorem dX5_chosenMove_15 : decode cX5_chosenMove 15 = .ok (.if_icmp .ge 116, 3) := by decide +kernel
theorem dX5_chosenMove_18 : decode cX5_chosenMove 18 = .ok (.aload_n 0, 1) := by decide +kernel
theorem dX5_chosenMove_19 : decode cX5_chosenMove 19 = .ok (.getfield 20, 3) := by decide +kernel
theorem dX5_chosenMove_22 : decode cX5_chosenMove 22 = .ok (.iload_n 3, 1) := by decide +kernel
theorem dX5_chosenMove_23 : decode cX5_chosenMove 23 = .ok (.invokevirtual 151, 3) := by decide +kernel
theorem dX5_chosenMove_26 : decode cX5_chosenMove 26 = .ok (.istore 4, 2) := by decide +kernel
theorem dX5_chosenMove_28 : decode cX5_chosenMove 28 = .ok (.iconst 0, 1) := by decide +kernel
theorem dX5_chosenMove_29 : decode cX5_chosenMove 29 = .ok (.istore 5, 2) := by decide +kernel
theorem dX5_chosenMove_31 : decode cX5_chosenMove 31 = .ok (.iload 5, 2) := by decide +kernel
theorem dX5_chosenMove_33 : decode cX5_chosenMove 33 = .ok (.iconst 3, 1) := by decide +kernel
theorem dX5_chosenMove_34 : decode cX5_chosenMove 34 = .ok (.if_icmp .ge 91, 3) := by decide +kernel
theorem dX5_chosenMove_37 : decode cX5_chosenMove 37 = .ok (.iload 4, 2) := by decide +kernel
theorem dX5_chosenMove_39 : decode cX5_chosenMove 39 = .ok (.iload 5, 2) := by decide +kernel
theorem dX5_chosenMove_41 : decode cX5_chosenMove 41 = .ok (.invokestatic 293, 3) := by decide +kernel
theorem dX5_chosenMove_44 : decode cX5_chosenMove 44 = .ok (.ifCond .eq 75, 3) := by decide +kernel
theorem dX5_chosenMove_47 : decode cX5_chosenMove 47 = .ok (.aload_n 0, 1) := by decide +kernel
theorem dX5_chosenMove_48 : decode cX5_chosenMove 48 = .ok (.getfield 10, 3) := by decide +kernel
theorem dX5_chosenMove_51 : decode cX5_chosenMove 51 = .ok (.iload_n 3, 1) := by decide +kernel
theorem dX5_chosenMove_52 : decode cX5_chosenMove 52 = .ok (.iload 5, 2) := by decide +kernel
theorem dX5_chosenMove_54 : decode cX5_chosenMove 54 = .ok (.invokevirtual 205, 3) := by decide +kernel
theorem dX5_chosenMove_57 : decode cX5_chosenMove 57 = .ok (.istore 6, 2) := by decide +kernel
theorem dX5_chosenMove_59 : decode cX5_chosenMove 59 = .ok (.iload 6, 2) := by decide +kernel
theorem dX5_chosenMove_61 : decode cX5_chosenMove 61 = .ok (.invokestatic 189, 3) := by decide +kernel
theorem dX5_chosenMove_64 : decode cX5_chosenMove 64 = .ok (.aload_n 0, 1) := by decide +kernel
theorem dX5_chosenMove_65 : decode cX5_chosenMove 65 = .ok (.getfield 20, 3) := by decide +kernel
theorem dX5_chosenMove_68 : decode cX5_chosenMove 68 = .ok (.invokevirtual 131, 3) := by decide +kernel
theorem dX5_chosenMove_71 : decode cX5_chosenMove 71 = .ok (.if_icmp .ne 10, 3) := by decide +kernel
theorem dX5_chosenMove_74 : decode cX5_chosenMove 74 = .ok (.iconst 4, 1) := by decide +kernel
theorem dX5_chosenMove_75 : decode cX5_chosenMove 75 = .ok (.iload_n 3, 1) := by decide +kernel
theorem dX5_chosenMove_76 : decode cX5_chosenMove 76 = .ok (.imul, 1) := by decide +kernel
theorem dX5_chosenMove_77 : decode cX5_chosenMove 77 = .ok (.iload 5, 2) := by decide +kernel
theorem dX5_chosenMove_79 : decode cX5_chosenMove 79 = .ok (.iadd, 1) := by decide +kernel
theorem dX5_chosenMove_80 : decode cX5_chosenMove 80 = .ok (.ireturn, 1) := by decide +kernel
theorem dX5_chosenMove_81 : decode cX5_chosenMove 81 = .ok (.iload 6, 2) := by decide +kernel
theorem dX5_chosenMove_83 : decode cX5_chosenMove 83 = .ok (.invokestatic 192, 3) := by decide +kernel
theorem dX5_chosenMove_86 : decode cX5_chosenMove 86 = .ok (.aload_n 0, 1) := by decide +kernel
theorem dX5_chosenMove_87 : decode cX5_chosenMove 87 = .ok (.getfield 20, 3) := by decide +kernel
theorem dX5_chosenMove_90 : decode cX5_chosenMove 90 = .ok (.getfield 101, 3) := by decide +kernel
theorem dX5_chosenMove_93 : decode cX5_chosenMove 93 = .ok (.iadd, 1) := by decide +kernel
theorem dX5_chosenMove_94 : decode cX5_chosenMove 94 = .ok (.iload_n 2, 1) := by decide +kernel
theorem dX5_chosenMove_95 : decode cX5_chosenMove 95 = .ok (.if_icmp .le 24, 3) := by decide +kernel
theorem dX5_chosenMove_98 : decode cX5_chosenMove 98 = .ok (.iload 6, 2) := by decide +kernel
theorem dX5_chosenMove_100 : decode cX5_chosenMove 100 = .ok (.invokestatic 192, 3) := by decide +kernel
theorem dX5_chosenMove_103 : decode cX5_chosenMove 103 = .ok (.aload_n 0, 1) := by decide +kernel
theorem dX5_chosenMove_104 : decode cX5_chosenMove 104 = .ok (.getfield 20, 3) := by decide +kernel
theorem dX5_chosenMove_107 : decode cX5_chosenMove 107 = .ok (.getfield 101, 3) := by decide +kernel
theorem dX5_chosenMove_110 : decode cX5_chosenMove 110 = .ok (.iadd, 1) := by decide +kernel
theorem dX5_chosenMove_111 : decode cX5_chosenMove 111 = .ok (.istore_n 2, 1) := by decide +kernel
theorem dX5_chosenMove_112 : decode cX5_chosenMove 112 = .ok (.iconst 4, 1) := by decide +kernel
theorem dX5_chosenMove_113 : decode cX5_chosenMove 113 = .ok (.iload_n 3, 1) := by decide +kernel
theorem dX5_chosenMove_114 : decode cX5_chosenMove 114 = .ok (.imul, 1) := by decide +kernel
theorem dX5_chosenMove_115 : decode cX5_chosenMove 115 = .ok (.iload 5, 2) := by decide +kernel
theorem dX5_chosenMove_117 : decode cX5_chosenMove 117 = .ok (.iadd, 1) := by decide +kernel
theorem dX5_chosenMove_118 : decode cX5_chosenMove 118 = .ok (.istore_n 1, 1) := by decide +kernel
theorem dX5_chosenMove_119 : decode cX5_chosenMove 119 = .ok (.iinc 5 1, 3) := by decide +kernel
theorem dX5_chosenMove_122 : decode cX5_chosenMove 122 = .ok (.goto (-91), 3) := by decide +kernel
theorem dX5_chosenMove_125 : decode cX5_chosenMove 125 = .ok (.iinc 3 1, 3) := by decide +kernel
theorem dX5_chosenMove_128 : decode cX5_chosenMove 128 = .ok (.goto (-121), 3) := by decide +kernel
theorem dX5_chosenMove_131 : decode cX5_chosenMove 131 = .ok (.aload_n 0, 1) := by decide +kernel
theorem dX5_chosenMove_132 : decode cX5_chosenMove 132 = .ok (.invokevirtual 208, 3) := by decide +kernel
theorem dX5_chosenMove_135 : decode cX5_chosenMove 135 = .ok (.ifCond .ne 13, 3) := by decide +kernel
theorem dX5_chosenMove_138 : decode cX5_chosenMove 138 = .ok (.aload_n 0, 1) := by decide +kernel
theorem dX5_chosenMove_139 : decode cX5_chosenMove 139 = .ok (.invokevirtual 296, 3) := by decide +kernel
theorem dX5_chosenMove_142 : decode cX5_chosenMove 142 = .ok (.iconst 1, 1) := by decide +kernel
theorem dX5_chosenMove_143 : decode cX5_chosenMove 143 = .ok (.isub, 1) := by decide +kernel
theorem dX5_chosenMove_144 : decode cX5_chosenMove 144 = .ok (.iload_n 2, 1) := by decide +kernel
theorem dX5_chosenMove_145 : decode cX5_chosenMove 145 = .ok (.if_icmp .le 7, 3) := by decide +kernel
theorem dX5_chosenMove_148 : decode cX5_chosenMove 148 = .ok (.iconst 1, 1) := by decide +kernel
theorem dX5_chosenMove_149 : decode cX5_chosenMove 149 = .ok (.goto 4, 3) := by decide +kernel
theorem dX5_chosenMove_152 : decode cX5_chosenMove 152 = .ok (.iconst 0, 1) := by decide +kernel
theorem dX5_chosenMove_153 : decode cX5_chosenMove 153 = .ok (.istore_n 3, 1) := by decide +kernel
theorem dX5_chosenMove_154 : decode cX5_chosenMove 154 = .ok (.aload_n 0, 1) := by decide +kernel
theorem dX5_chosenMove_155 : decode cX5_chosenMove 155 = .ok (.getfield 20, 3) := by decide +kernel
theorem dX5_chosenMove_158 : decode cX5_chosenMove 158 = .ok (.getfield 101, 3) := by decide +kernel
theorem dX5_chosenMove_161 : decode cX5_chosenMove 161 = .ok (.ifCond .le 12, 3) := by decide +kernel
theorem dX5_chosenMove_164 : decode cX5_chosenMove 164 = .ok (.iload_n 3, 1) := by decide +kernel
theorem dX5_chosenMove_165 : decode cX5_chosenMove 165 = .ok (.ifCond .eq 8, 3) := by decide +kernel
theorem dX5_chosenMove_168 : decode cX5_chosenMove 168 = .ok (.bipush 100, 2) := by decide +kernel
theorem dX5_chosenMove_170 : decode cX5_chosenMove 170 = .ok (.goto 4, 3) := by decide +kernel
theorem dX5_chosenMove_173 : decode cX5_chosenMove 173 = .ok (.iload_n 1, 1) := by decide +kernel
theorem dX5_chosenMove_174 : decode cX5_chosenMove 174 = .ok (.ireturn, 1) := by decide +kernel
theorem dX5_write_0 : decode cX5_write 0 = .ok (.aload_n 0, 1) := by decide +kernel
theorem dX5_write_1 : decode cX5_write 1 = .ok (.getfield 269, 3) := by decide +kernel
theorem dX5_write_4 : decode cX5_write 4 = .ok (.ifCond .lt 36, 3) := by decide +kernel
theorem dX5_write_7 : decode cX5_write 7 = .ok (.aload_n 0, 1) := by decide +kernel
theorem dX5_write_8 : decode cX5_write 8 = .ok (.getfield 269, 3) := by decide +kernel
theorem dX5_write_11 : decode cX5_write 11 = .ok (.aload_n 0, 1) := by decide +kernel
theorem dX5_write_12 : decode cX5_write 12 = .ok (.getfield 41, 3) := by decide +kernel
theorem dX5_write_15 : decode cX5_write 15 = .ok (.arraylength, 1) := by decide +kernel
theorem dX5_write_16 : decode cX5_write 16 = .ok (.if_icmp .ge 24, 3) := by decide +kernel
theorem dX5_write_19 : decode cX5_write 19 = .ok (.aload_n 0, 1) := by decide +kernel
theorem dX5_write_20 : decode cX5_write 20 = .ok (.getfield 41, 3) := by decide +kernel
theorem dX5_write_23 : decode cX5_write 23 = .ok (.aload_n 0, 1) := by decide +kernel
theorem dX5_write_24 : decode cX5_write 24 = .ok (.getfield 269, 3) := by decide +kernel
theorem dX5_write_27 : decode cX5_write 27 = .ok (.iload_n 1, 1) := by decide +kernel
theorem dX5_write_28 : decode cX5_write 28 = .ok (.i2b, 1) := by decide +kernel
theorem dX5_write_29 : decode cX5_write 29 = .ok (.bastore, 1) := by decide +kernel
theorem dX5_write_30 : decode cX5_write 30 = .ok (.aload_n 0, 1) := by decide +kernel
theorem dX5_write_31 : decode cX5_write 31 = .ok (.dup, 1) := by decide +kernel
theorem dX5_write_32 : decode cX5_write 32 = .ok (.getfield 269, 3) := by decide +kernel
theorem dX5_write_35 : decode cX5_write 35 = .ok (.iconst 1, 1) := by decide +kernel
theorem dX5_write_36 : decode cX5_write 36 = .ok (.iadd, 1) := by decide +kernel
theorem dX5_write_37 : decode cX5_write 37 = .ok (.putfield 269, 3) := by decide +kernel
theorem dX5_write_40 : decode cX5_write 40 = .ok (.return_, 1) := by decide +kernel
theorem dX5_has_0 : decode cX5_has 0 = .ok (.iload_n 1, 1) := by decide +kernel
theorem dX5_has_1 : decode cX5_has 1 = .ok (.ifCond .lt 21, 3) := by decide +kernel
theorem dX5_has_4 : decode cX5_has 4 = .ok (.iload_n 1, 1) := by decide +kernel
theorem dX5_has_5 : decode cX5_has 5 = .ok (.bipush 32, 2) := by decide +kernel
theorem dX5_has_7 : decode cX5_has 7 = .ok (.if_icmp .ge 15, 3) := by decide +kernel
theorem dX5_has_10 : decode cX5_has 10 = .ok (.iload_n 0, 1) := by decide +kernel
theorem dX5_has_11 : decode cX5_has 11 = .ok (.iconst 1, 1) := by decide +kernel
theorem dX5_has_12 : decode cX5_has 12 = .ok (.iload_n 1, 1) := by decide +kernel
theorem dX5_has_13 : decode cX5_has 13 = .ok (.ishl, 1) := by decide +kernel
theorem dX5_has_14 : decode cX5_has 14 = .ok (.iand, 1) := by decide +kernel
theorem dX5_has_15 : decode cX5_has 15 = .ok (.ifCond .eq 7, 3) := by decide +kernel
theorem dX5_has_18 : decode cX5_has 18 = .ok (.iconst 1, 1) := by decide +kernel
theorem dX5_has_19 : decode cX5_has 19 = .ok (.goto 4, 3) := by decide +kernel
theorem dX5_has_22 : decode cX5_has 22 = .ok (.iconst 0, 1) := by decide +kernel
theorem dX5_has_23 : decode cX5_has 23 = .ok (.ireturn, 1) := by decide +kernel
theorem dX5_least_0 : decode cX5_least 0 = .ok (.iload_n 0, 1) := by decide +kernel
theorem dX5_least_1 : decode cX5_least 1 = .ok (.iload_n 0, 1) := by decide +kernel
theorem dX5_least_2 : decode cX5_least 2 = .ok (.ineg, 1) := by decide +kernel
theorem dX5_least_3 : decode cX5_least 3 = .ok (.iand, 1) := by decide +kernel
theorem dX5_least_4 : decode cX5_least 4 = .ok (.iconst 1, 1) := by decide +kernel
theorem dX5_least_5 : decode cX5_least 5 = .ok (.isub, 1) := by decide +kernel
theorem dX5_least_6 : decode cX5_least 6 = .ok (.invokestatic 107, 3) := by decide +kernel
theorem dX5_least_9 : decode cX5_least 9 = .ok (.ireturn, 1) := by decide +kernel
theorem dX5_at_0 : decode cX5_at 0 = .ok (.iload_n 1, 1) := by decide +kernel
theorem dX5_at_1 : decode cX5_at 1 = .ok (.ifCond .lt 15, 3) := by decide +kernel
theorem dX5_at_4 : decode cX5_at 4 = .ok (.iload_n 1, 1) := by decide +kernel
theorem dX5_at_5 : decode cX5_at 5 = .ok (.aload_n 0, 1) := by decide +kernel
theorem dX5_at_6 : decode cX5_at 6 = .ok (.arraylength, 1) := by decide +kernel
theorem dX5_at_7 : decode cX5_at 7 = .ok (.if_icmp .ge 9, 3) := by decide +kernel
theorem dX5_at_10 : decode cX5_at 10 = .ok (.aload_n 0, 1) := by decide +kernel
theorem dX5_at_11 : decode cX5_at 11 = .ok (.iload_n 1, 1) := by decide +kernel
theorem dX5_at_12 : decode cX5_at 12 = .ok (.iaload, 1) := by decide +kernel
theorem dX5_at_13 : decode cX5_at 13 = .ok (.goto 4, 3) := by decide +kernel
theorem dX5_at_16 : decode cX5_at 16 = .ok (.iconst 0, 1) := by decide +kernel
theorem dX5_at_17 : decode cX5_at 17 = .ok (.ireturn, 1) := by decide +kernel
theorem dX5_add_0 : decode cX5_add 0 = .ok (.iload_n 1, 1) := by decide +kernel
theorem dX5_add_1 : decode cX5_add 1 = .ok (.ifCond .lt 16, 3) := by decide +kernel
theorem dX5_add_4 : decode cX5_add 4 = .ok (.iload_n 1, 1) := by decide +kernel
theorem dX5_add_5 : decode cX5_add 5 = .ok (.aload_n 0, 1) := by decide +kernel
theorem dX5_add_6 : decode cX5_add 6 = .ok (.arraylength, 1) := by decide +kernel
theorem dX5_add_7 : decode cX5_add 7 = .ok (.if_icmp .ge 10, 3) := by decide +kernel
theorem dX5_add_10 : decode cX5_add 10 = .ok (.aload_n 0, 1) := by decide +kernel
theorem dX5_add_11 : decode cX5_add 11 = .ok (.iload_n 1, 1) := by decide +kernel
theorem dX5_add_12 : decode cX5_add 12 = .ok (.dup2, 1) := by decide +kernel
theorem dX5_add_13 : decode cX5_add 13 = .ok (.iaload, 1) := by decide +kernel
theorem dX5_add_14 : decode cX5_add 14 = .ok (.iload_n 2, 1) := by decide +kernel
theorem dX5_add_15 : decode cX5_add 15 = .ok (.ior, 1) := by decide +kernel
theorem dX5_add_16 : decode cX5_add 16 = .ok (.iastore, 1) := by decide +kernel
theorem dX5_add_17 : decode cX5_add 17 = .ok (.return_, 1) := by decide +kernel
theorem dX5_copyRow_0 : decode cX5_copyRow 0 = .ok (.iconst 0, 1) := by decide +kernel
theorem dX5_copyRow_1 : decode cX5_copyRow 1 = .ok (.istore_n 2, 1) := by decide +kernel
theorem dX5_copyRow_2 : decode cX5_copyRow 2 = .ok (.iload_n 2, 1) := by decide +kernel
theorem dX5_copyRow_3 : decode cX5_copyRow 3 = .ok (.aload_n 1, 1) := by decide +kernel
theorem dX5_copyRow_4 : decode cX5_copyRow 4 = .ok (.arraylength, 1) := by decide +kernel
theorem dX5_copyRow_5 : decode cX5_copyRow 5 = .ok (.if_icmp .ge 21, 3) := by decide +kernel
theorem dX5_copyRow_8 : decode cX5_copyRow 8 = .ok (.iload_n 2, 1) := by decide +kernel
theorem dX5_copyRow_9 : decode cX5_copyRow 9 = .ok (.aload_n 0, 1) := by decide +kernel
theorem dX5_copyRow_10 : decode cX5_copyRow 10 = .ok (.arraylength, 1) := by decide +kernel
theorem dX5_copyRow_11 : decode cX5_copyRow 11 = .ok (.if_icmp .ge 15, 3) := by decide +kernel
theorem dX5_copyRow_14 : decode cX5_copyRow 14 = .ok (.aload_n 1, 1) := by decide +kernel
theorem dX5_copyRow_15 : decode cX5_copyRow 15 = .ok (.iload_n 2, 1) := by decide +kernel
theorem dX5_copyRow_16 : decode cX5_copyRow 16 = .ok (.aload_n 0, 1) := by decide +kernel
theorem dX5_copyRow_17 : decode cX5_copyRow 17 = .ok (.iload_n 2, 1) := by decide +kernel
theorem dX5_copyRow_18 : decode cX5_copyRow 18 = .ok (.iaload, 1) := by decide +kernel
theorem dX5_copyRow_19 : decode cX5_copyRow 19 = .ok (.iastore, 1) := by decide +kernel
theorem dX5_copyRow_20 : decode cX5_copyRow 20 = .ok (.iinc 2 1, 3) := by decide +kernel
theorem dX5_copyRow_23 : decode cX5_copyRow 23 = .ok (.goto (-21), 3) := by decide +kernel
theorem dX5_copyRow_26 : decode cX5_copyRow 26 = .ok (.return_, 1) := by decide +kernel
theorem dX5_clearRow_0 : decode cX5_clearRow 0 = .ok (.iconst 0, 1) := by decide +kernel
theorem dX5_clearRow_1 : decode cX5_clearRow 1 = .ok (.istore_n 1, 1) := by decide +kernel
theorem dX5_clearRow_2 : decode cX5_clearRow 2 = .ok (.iload_n 1, 1) := by decide +kernel
theorem dX5_clearRow_3 : decode cX5_clearRow 3 = .ok (.aload_n 0, 1) := by decide +kernel
theorem dX5_clearRow_4 : decode cX5_clearRow 4 = .ok (.arraylength, 1) := by decide +kernel
theorem dX5_clearRow_5 : decode cX5_clearRow 5 = .ok (.if_icmp .ge 13, 3) := by decide +kernel
theorem dX5_clearRow_8 : decode cX5_clearRow 8 = .ok (.aload_n 0, 1) := by decide +kernel
theorem dX5_clearRow_9 : decode cX5_clearRow 9 = .ok (.iload_n 1, 1) := by decide +kernel
theorem dX5_clearRow_10 : decode cX5_clearRow 10 = .ok (.iconst 0, 1) := by decide +kernel
theorem dX5_clearRow_11 : decode cX5_clearRow 11 = .ok (.iastore, 1) := by decide +kernel
theorem dX5_clearRow_12 : decode cX5_clearRow 12 = .ok (.iinc 1 1, 3) := by decide +kernel
theorem dX5_clearRow_15 : decode cX5_clearRow 15 = .ok (.goto (-13), 3) := by decide +kernel
theorem dX5_clearRow_18 : decode cX5_clearRow 18 = .ok (.return_, 1) := by decide +kernel
theorem dX5_keepCopy_0 : decode cX5_keepCopy 0 = .ok (.iload_n 1, 1) := by decide +kernel
theorem dX5_keepCopy_1 : decode cX5_keepCopy 1 = .ok (.ifCond .lt 38, 3) := by decide +kernel
theorem dX5_keepCopy_4 : decode cX5_keepCopy 4 = .ok (.iload_n 1, 1) := by decide +kernel
theorem dX5_keepCopy_5 : decode cX5_keepCopy 5 = .ok (.aload_n 0, 1) := by decide +kernel
theorem dX5_keepCopy_6 : decode cX5_keepCopy 6 = .ok (.arraylength, 1) := by decide +kernel
theorem dX5_keepCopy_7 : decode cX5_keepCopy 7 = .ok (.if_icmp .ge 32, 3) := by decide +kernel
theorem dX5_keepCopy_10 : decode cX5_keepCopy 10 = .ok (.aload_n 0, 1) := by decide +kernel
theorem dX5_keepCopy_11 : decode cX5_keepCopy 11 = .ok (.iload_n 1, 1) := by decide +kernel
theorem dX5_keepCopy_12 : decode cX5_keepCopy 12 = .ok (.aaload, 1) := by decide +kernel
theorem dX5_keepCopy_13 : decode cX5_keepCopy 13 = .ok (.ifnonnull 13, 3) := by decide +kernel
theorem dX5_keepCopy_16 : decode cX5_keepCopy 16 = .ok (.new 35, 3) := by decide +kernel
theorem dX5_keepCopy_19 : decode cX5_keepCopy 19 = .ok (.dup, 1) := by decide +kernel
theorem dX5_keepCopy_20 : decode cX5_keepCopy 20 = .ok (.invokespecial 299, 3) := by decide +kernel
theorem dX5_keepCopy_23 : decode cX5_keepCopy 23 = .ok (.goto 6, 3) := by decide +kernel
theorem dX5_keepCopy_26 : decode cX5_keepCopy 26 = .ok (.aload_n 0, 1) := by decide +kernel
theorem dX5_keepCopy_27 : decode cX5_keepCopy 27 = .ok (.iload_n 1, 1) := by decide +kernel
theorem dX5_keepCopy_28 : decode cX5_keepCopy 28 = .ok (.aaload, 1) := by decide +kernel
theorem dX5_keepCopy_29 : decode cX5_keepCopy 29 = .ok (.astore_n 3, 1) := by decide +kernel
theorem dX5_keepCopy_30 : decode cX5_keepCopy 30 = .ok (.aload_n 3, 1) := by decide +kernel
theorem dX5_keepCopy_31 : decode cX5_keepCopy 31 = .ok (.aload_n 2, 1) := by decide +kernel
theorem dX5_keepCopy_32 : decode cX5_keepCopy 32 = .ok (.invokevirtual 79, 3) := by decide +kernel
theorem dX5_keepCopy_35 : decode cX5_keepCopy 35 = .ok (.aload_n 0, 1) := by decide +kernel
theorem dX5_keepCopy_36 : decode cX5_keepCopy 36 = .ok (.iload_n 1, 1) := by decide +kernel
theorem dX5_keepCopy_37 : decode cX5_keepCopy 37 = .ok (.aload_n 3, 1) := by decide +kernel
theorem dX5_keepCopy_38 : decode cX5_keepCopy 38 = .ok (.aastore, 1) := by decide +kernel
theorem dX5_keepCopy_39 : decode cX5_keepCopy 39 = .ok (.return_, 1) := by decide +kernel
theorem dX5_answerOf_0 : decode cX5_answerOf 0 = .ok (.iload_n 0, 1) := by decide +kernel
theorem dX5_answerOf_1 : decode cX5_answerOf 1 = .ok (.iload_n 1, 1) := by decide +kernel
theorem dX5_answerOf_2 : decode cX5_answerOf 2 = .ok (.bipush 8, 2) := by decide +kernel
theorem dX5_answerOf_4 : decode cX5_answerOf 4 = .ok (.ishl, 1) := by decide +kernel
theorem dX5_answerOf_5 : decode cX5_answerOf 5 = .ok (.ior, 1) := by decide +kernel
theorem dX5_answerOf_6 : decode cX5_answerOf 6 = .ok (.iload_n 2, 1) := by decide +kernel
theorem dX5_answerOf_7 : decode cX5_answerOf 7 = .ok (.bipush 16, 2) := by decide +kernel
theorem dX5_answerOf_9 : decode cX5_answerOf 9 = .ok (.ishl, 1) := by decide +kernel
theorem dX5_answerOf_10 : decode cX5_answerOf 10 = .ok (.ior, 1) := by decide +kernel
theorem dX5_answerOf_11 : decode cX5_answerOf 11 = .ok (.ireturn, 1) := by decide +kernel
theorem dX5_valueIn_0 : decode cX5_valueIn 0 = .ok (.iload_n 0, 1) := by decide +kernel
theorem dX5_valueIn_1 : decode cX5_valueIn 1 = .ok (.sipush 255, 3) := by decide +kernel
theorem dX5_valueIn_4 : decode cX5_valueIn 4 = .ok (.iand, 1) := by decide +kernel
theorem dX5_valueIn_5 : decode cX5_valueIn 5 = .ok (.ireturn, 1) := by decide +kernel
theorem dX5_longestIn_0 : decode cX5_longestIn 0 = .ok (.iload_n 0, 1) := by decide +kernel
theorem dX5_longestIn_1 : decode cX5_longestIn 1 = .ok (.bipush 8, 2) := by decide +kernel
theorem dX5_longestIn_3 : decode cX5_longestIn 3 = .ok (.ishr, 1) := by decide +kernel
theorem dX5_longestIn_4 : decode cX5_longestIn 4 = .ok (.sipush 255, 3) := by decide +kernel
theorem dX5_longestIn_7 : decode cX5_longestIn 7 = .ok (.iand, 1) := by decide +kernel
theorem dX5_longestIn_8 : decode cX5_longestIn 8 = .ok (.ireturn, 1) := by decide +kernel
theorem dX5_shortestIn_0 : decode cX5_shortestIn 0 = .ok (.iload_n 0, 1) := by decide +kernel
theorem dX5_shortestIn_1 : decode cX5_shortestIn 1 = .ok (.bipush 16, 2) := by decide +kernel
theorem dX5_shortestIn_3 : decode cX5_shortestIn 3 = .ok (.ishr, 1) := by decide +kernel
theorem dX5_shortestIn_4 : decode cX5_shortestIn 4 = .ok (.sipush 255, 3) := by decide +kernel
theorem dX5_shortestIn_7 : decode cX5_shortestIn 7 = .ok (.iand, 1) := by decide +kernel
theorem dX5_shortestIn_8 : decode cX5_shortestIn 8 = .ok (.ireturn, 1) := by decide +kernel
theorem dX5_together_0 : decode cX5_together 0 = .ok (.iload_n 0, 1) := by decide +kernel
theorem dX5_together_1 : decode cX5_together 1 = .ok (.sipush (-256), 3) := by decide +kernel
theorem dX5_together_4 : decode cX5_together 4 = .ok (.iand, 1) := by decide +kernel
theorem dX5_together_5 : decode cX5_together 5 = .ok (.iload_n 1, 1) := by decide +kernel
theorem dX5_together_6 : decode cX5_together 6 = .ok (.sipush (-256), 3) := by decide +kernel
theorem dX5_together_9 : decode cX5_together 9 = .ok (.iand, 1) := by decide +kernel
theorem dX5_together_10 : decode cX5_together 10 = .ok (.iadd, 1) := by decide +kernel
theorem dX5_together_11 : decode cX5_together 11 = .ok (.istore_n 2, 1) := by decide +kernel
theorem dX5_together_12 : decode cX5_together 12 = .ok (.iload_n 0, 1) := by decide +kernel
theorem dX5_together_13 : decode cX5_together 13 = .ok (.iload_n 1, 1) := by decide +kernel
theorem dX5_together_14 : decode cX5_together 14 = .ok (.ixor, 1) := by decide +kernel
theorem dX5_together_15 : decode cX5_together 15 = .ok (.sipush 255, 3) := by decide +kernel
theorem dX5_together_18 : decode cX5_together 18 = .ok (.iand, 1) := by decide +kernel
theorem dX5_together_19 : decode cX5_together 19 = .ok (.iload_n 2, 1) := by decide +kernel
theorem dX5_together_20 : decode cX5_together 20 = .ok (.ior, 1) := by decide +kernel
theorem dX5_together_21 : decode cX5_together 21 = .ok (.ireturn, 1) := by decide +kernel
theorem dX6_init_0 : decode cX6_init 0 = .ok (.aload_n 0, 1) := by decide +kernel
theorem dX6_init_1 : decode cX6_init 1 = .ok (.invokespecial 1, 3) := by decide +kernel
theorem dX6_init_4 : decode cX6_init 4 = .ok (.aload_n 0, 1) := by decide +kernel
theorem dX6_init_5 : decode cX6_init 5 = .ok (.sipush 4136, 3) := by decide +kernel
theorem dX6_init_8 : decode cX6_init 8 = .ok (.newarray .int, 2) := by decide +kernel
theorem dX6_init_10 : decode cX6_init 10 = .ok (.putfield 7, 3) := by decide +kernel
theorem dX6_init_13 : decode cX6_init 13 = .ok (.aload_n 0, 1) := by decide +kernel
theorem dX6_init_14 : decode cX6_init 14 = .ok (.sipush 4136, 3) := by decide +kernel
theorem dX6_init_17 : decode cX6_init 17 = .ok (.newarray .int, 2) := by decide +kernel
theorem dX6_init_19 : decode cX6_init 19 = .ok (.putfield 13, 3) := by decide +kernel
theorem dX6_init_22 : decode cX6_init 22 = .ok (.aload_n 0, 1) := by decide +kernel
theorem dX6_init_23 : decode cX6_init 23 = .ok (.sipush 4136, 3) := by decide +kernel
theorem dX6_init_26 : decode cX6_init 26 = .ok (.newarray .int, 2) := by decide +kernel
theorem dX6_init_28 : decode cX6_init 28 = .ok (.putfield 16, 3) := by decide +kernel
theorem dX6_init_31 : decode cX6_init 31 = .ok (.aload_n 0, 1) := by decide +kernel
theorem dX6_init_32 : decode cX6_init 32 = .ok (.ldc 19, 2) := by decide +kernel
theorem dX6_init_34 : decode cX6_init 34 = .ok (.newarray .int, 2) := by decide +kernel
theorem dX6_init_36 : decode cX6_init 36 = .ok (.putfield 20, 3) := by decide +kernel
theorem dX6_init_39 : decode cX6_init 39 = .ok (.aload_n 0, 1) := by decide +kernel
theorem dX6_init_40 : decode cX6_init 40 = .ok (.sipush 8272, 3) := by decide +kernel
theorem dX6_init_43 : decode cX6_init 43 = .ok (.newarray .int, 2) := by decide +kernel
theorem dX6_init_45 : decode cX6_init 45 = .ok (.putfield 23, 3) := by decide +kernel
theorem dX6_init_48 : decode cX6_init 48 = .ok (.aload_n 0, 1) := by decide +kernel
theorem dX6_init_49 : decode cX6_init 49 = .ok (.iconst 2, 1) := by decide +kernel
theorem dX6_init_50 : decode cX6_init 50 = .ok (.newarray .boolean, 2) := by decide +kernel
theorem dX6_init_52 : decode cX6_init 52 = .ok (.putfield 26, 3) := by decide +kernel
theorem dX6_init_55 : decode cX6_init 55 = .ok (.aload_n 0, 1) := by decide +kernel
theorem dX6_init_56 : decode cX6_init 56 = .ok (.sipush 500, 3) := by decide +kernel
theorem dX6_init_59 : decode cX6_init 59 = .ok (.newarray .int, 2) := by decide +kernel
theorem dX6_init_61 : decode cX6_init 61 = .ok (.putfield 30, 3) := by decide +kernel
theorem dX6_init_64 : decode cX6_init 64 = .ok (.aload_n 0, 1) := by decide +kernel
theorem dX6_init_65 : decode cX6_init 65 = .ok (.iconst (-1), 1) := by decide +kernel
theorem dX6_init_66 : decode cX6_init 66 = .ok (.putfield 33, 3) := by decide +kernel
theorem dX6_init_69 : decode cX6_init 69 = .ok (.aload_n 0, 1) := by decide +kernel
theorem dX6_init_70 : decode cX6_init 70 = .ok (.ldc 37, 2) := by decide +kernel
theorem dX6_init_72 : decode cX6_init 72 = .ok (.newarray .int, 2) := by decide +kernel
theorem dX6_init_74 : decode cX6_init 74 = .ok (.putfield 38, 3) := by decide +kernel
theorem dX6_init_77 : decode cX6_init 77 = .ok (.aload_n 0, 1) := by decide +kernel
theorem dX6_init_78 : decode cX6_init 78 = .ok (.bipush 9, 2) := by decide +kernel
theorem dX6_init_80 : decode cX6_init 80 = .ok (.newarray .int, 2) := by decide +kernel
theorem dX6_init_82 : decode cX6_init 82 = .ok (.putfield 41, 3) := by decide +kernel
theorem dX6_init_85 : decode cX6_init 85 = .ok (.aload_n 0, 1) := by decide +kernel
theorem dX6_init_86 : decode cX6_init 86 = .ok (.bipush 14, 2) := by decide +kernel
theorem dX6_init_88 : decode cX6_init 88 = .ok (.newarray .int, 2) := by decide +kernel
theorem dX6_init_90 : decode cX6_init 90 = .ok (.putfield 44, 3) := by decide +kernel
theorem dX6_init_93 : decode cX6_init 93 = .ok (.aload_n 0, 1) := by decide +kernel
theorem dX6_init_94 : decode cX6_init 94 = .ok (.getfield 7, 3) := by decide +kernel
theorem dX6_init_97 : decode cX6_init 97 = .ok (.iconst 0, 1) := by decide +kernel
theorem dX6_init_98 : decode cX6_init 98 = .ok (.iconst 1, 1) := by decide +kernel
theorem dX6_init_99 : decode cX6_init 99 = .ok (.iastore, 1) := by decide +kernel
theorem dX6_init_100 : decode cX6_init 100 = .ok (.aload_n 0, 1) := by decide +kernel
theorem dX6_init_101 : decode cX6_init 101 = .ok (.getfield 7, 3) := by decide +kernel
theorem dX6_init_104 : decode cX6_init 104 = .ok (.iconst 1, 1) := by decide +kernel
theorem dX6_init_105 : decode cX6_init 105 = .ok (.iconst 1, 1) := by decide +kernel
theorem dX6_init_106 : decode cX6_init 106 = .ok (.iastore, 1) := by decide +kernel
theorem dX6_init_107 : decode cX6_init 107 = .ok (.aload_n 0, 1) := by decide +kernel
theorem dX6_init_108 : decode cX6_init 108 = .ok (.getfield 7, 3) := by decide +kernel
theorem dX6_init_111 : decode cX6_init 111 = .ok (.iconst 4, 1) := by decide +kernel
theorem dX6_init_112 : decode cX6_init 112 = .ok (.iconst 1, 1) := by decide +kernel
theorem dX6_init_113 : decode cX6_init 113 = .ok (.iastore, 1) := by decide +kernel
theorem dX6_init_114 : decode cX6_init 114 = .ok (.return_, 1) := by decide +kernel
theorem dX6_thrown_0 : decode cX6_thrown 0 = .ok (.aload_n 0, 1) := by decide +kernel
theorem dX6_thrown_1 : decode cX6_thrown 1 = .ok (.getfield 47, 3) := by decide +kernel
theorem dX6_thrown_4 : decode cX6_thrown 4 = .ok (.ireturn, 1) := by decide +kernel
theorem dX6_isIn_0 : decode cX6_isIn 0 = .ok (.iload_n 0, 1) := by decide +kernel
theorem dX6_isIn_1 : decode cX6_isIn 1 = .ok (.iload_n 1, 1) := by decide +kernel
theorem dX6_isIn_2 : decode cX6_isIn 2 = .ok (.if_icmp .lt 12, 3) := by decide +kernel
theorem dX6_isIn_5 : decode cX6_isIn 5 = .ok (.iload_n 0, 1) := by decide +kernel
theorem dX6_isIn_6 : decode cX6_isIn 6 = .ok (.iload_n 2, 1) := by decide +kernel
theorem dX6_isIn_7 : decode cX6_isIn 7 = .ok (.if_icmp .gt 7, 3) := by decide +kernel
theorem dX6_isIn_10 : decode cX6_isIn 10 = .ok (.iconst 1, 1) := by decide +kernel
theorem dX6_isIn_11 : decode cX6_isIn 11 = .ok (.goto 4, 3) := by decide +kernel
theorem dX6_isIn_14 : decode cX6_isIn 14 = .ok (.iconst 0, 1) := by decide +kernel
theorem dX6_isIn_15 : decode cX6_isIn 15 = .ok (.ireturn, 1) := by decide +kernel
theorem dX6_sets_0 : decode cX6_sets 0 = .ok (.iconst 0, 1) := by decide +kernel
theorem dX6_sets_1 : decode cX6_sets 1 = .ok (.istore 4, 2) := by decide +kernel
theorem dX6_sets_3 : decode cX6_sets 3 = .ok (.iload 4, 2) := by decide +kernel
theorem dX6_sets_5 : decode cX6_sets 5 = .ok (.sipush 4136, 3) := by decide +kernel
theorem dX6_sets_8 : decode cX6_sets 8 = .ok (.if_icmp .ge 21, 3) := by decide +kernel
theorem dX6_sets_11 : decode cX6_sets 11 = .ok (.aload_n 0, 1) := by decide +kernel
theorem dX6_sets_12 : decode cX6_sets 12 = .ok (.iload_n 1, 1) := by decide +kernel
theorem dX6_sets_13 : decode cX6_sets 13 = .ok (.iload 4, 2) := by decide +kernel
theorem dX6_sets_15 : decode cX6_sets 15 = .ok (.iadd, 1) := by decide +kernel
theorem dX6_sets_16 : decode cX6_sets 16 = .ok (.aload_n 2, 1) := by decide +kernel
theorem dX6_sets_17 : decode cX6_sets 17 = .ok (.iload_n 3, 1) := by decide +kernel
theorem dX6_sets_18 : decode cX6_sets 18 = .ok (.iload 4, 2) := by decide +kernel
theorem dX6_sets_20 : decode cX6_sets 20 = .ok (.iadd, 1) := by decide +kernel
theorem dX6_sets_21 : decode cX6_sets 21 = .ok (.iaload, 1) := by decide +kernel
theorem dX6_sets_22 : decode cX6_sets 22 = .ok (.iastore, 1) := by decide +kernel
theorem dX6_sets_23 : decode cX6_sets 23 = .ok (.iinc 4 1, 3) := by decide +kernel
theorem dX6_sets_26 : decode cX6_sets 26 = .ok (.goto (-23), 3) := by decide +kernel
theorem dX6_sets_29 : decode cX6_sets 29 = .ok (.return_, 1) := by decide +kernel
theorem dX6_keeps_0 : decode cX6_keeps 0 = .ok (.aload_n 0, 1) := by decide +kernel
theorem dX6_keeps_1 : decode cX6_keeps 1 = .ok (.getfield 50, 3) := by decide +kernel
theorem dX6_keeps_4 : decode cX6_keeps 4 = .ok (.bipush 8, 2) := by decide +kernel
theorem dX6_keeps_6 : decode cX6_keeps 6 = .ok (.if_icmp .ne 44, 3) := by decide +kernel
theorem dX6_keeps_9 : decode cX6_keeps 9 = .ok (.iconst 0, 1) := by decide +kernel
theorem dX6_keeps_10 : decode cX6_keeps 10 = .ok (.istore_n 1, 1) := by decide +kernel
theorem dX6_keeps_11 : decode cX6_keeps 11 = .ok (.iload_n 1, 1) := by decide +kernel
theorem dX6_keeps_12 : decode cX6_keeps 12 = .ok (.sipush 28952, 3) := by decide +kernel
theorem dX6_keeps_15 : decode cX6_keeps 15 = .ok (.if_icmp .ge 25, 3) := by decide +kernel
theorem dX6_keeps_18 : decode cX6_keeps 18 = .ok (.aload_n 0, 1) := by decide +kernel
theorem dX6_keeps_19 : decode cX6_keeps 19 = .ok (.getfield 20, 3) := by decide +kernel
theorem dX6_keeps_22 : decode cX6_keeps 22 = .ok (.iload_n 1, 1) := by decide +kernel
theorem dX6_keeps_23 : decode cX6_keeps 23 = .ok (.aload_n 0, 1) := by decide +kernel
theorem dX6_keeps_24 : decode cX6_keeps 24 = .ok (.getfield 20, 3) := by decide +kernel
theorem dX6_keeps_27 : decode cX6_keeps 27 = .ok (.iload_n 1, 1) := by decide +kernel
theorem dX6_keeps_28 : decode cX6_keeps 28 = .ok (.sipush 4136, 3) := by decide +kernel
theorem dX6_keeps_31 : decode cX6_keeps 31 = .ok (.iadd, 1) := by decide +kernel
theorem dX6_keeps_32 : decode cX6_keeps 32 = .ok (.iaload, 1) := by decide +kernel
theorem dX6_keeps_33 : decode cX6_keeps 33 = .ok (.iastore, 1) := by decide +kernel
theorem dX6_keeps_34 : decode cX6_keeps 34 = .ok (.iinc 1 1, 3) := by decide +kernel
theorem dX6_keeps_37 : decode cX6_keeps 37 = .ok (.goto (-26), 3) := by decide +kernel
theorem dX6_keeps_40 : decode cX6_keeps 40 = .ok (.aload_n 0, 1) := by decide +kernel
theorem dX6_keeps_41 : decode cX6_keeps 41 = .ok (.dup, 1) := by decide +kernel
theorem dX6_keeps_42 : decode cX6_keeps 42 = .ok (.getfield 50, 3) := by decide +kernel
theorem dX6_keeps_45 : decode cX6_keeps 45 = .ok (.iconst 1, 1) := by decide +kernel
theorem dX6_keeps_46 : decode cX6_keeps 46 = .ok (.isub, 1) := by decide +kernel
theorem dX6_keeps_47 : decode cX6_keeps 47 = .ok (.putfield 50, 3) := by decide +kernel
theorem dX6_keeps_50 : decode cX6_keeps 50 = .ok (.aload_n 0, 1) := by decide +kernel
theorem dX6_keeps_51 : decode cX6_keeps 51 = .ok (.getfield 20, 3) := by decide +kernel
theorem dX6_keeps_54 : decode cX6_keeps 54 = .ok (.sipush 4136, 3) := by decide +kernel
theorem dX6_keeps_57 : decode cX6_keeps 57 = .ok (.aload_n 0, 1) := by decide +kernel
theorem dX6_keeps_58 : decode cX6_keeps 58 = .ok (.getfield 50, 3) := by decide +kernel
theorem dX6_keeps_61 : decode cX6_keeps 61 = .ok (.imul, 1) := by decide +kernel
theorem dX6_keeps_62 : decode cX6_keeps 62 = .ok (.aload_n 0, 1) := by decide +kernel
theorem dX6_keeps_63 : decode cX6_keeps 63 = .ok (.getfield 7, 3) := by decide +kernel
theorem dX6_keeps_66 : decode cX6_keeps 66 = .ok (.iconst 0, 1) := by decide +kernel
theorem dX6_keeps_67 : decode cX6_keeps 67 = .ok (.invokestatic 53, 3) := by decide +kernel
theorem dX6_keeps_70 : decode cX6_keeps 70 = .ok (.aload_n 0, 1) := by decide +kernel
theorem dX6_keeps_71 : decode cX6_keeps 71 = .ok (.dup, 1) := by decide +kernel
theorem dX6_keeps_72 : decode cX6_keeps 72 = .ok (.getfield 50, 3) := by decide +kernel
theorem dX6_keeps_75 : decode cX6_keeps 75 = .ok (.iconst 1, 1) := by decide +kernel
theorem dX6_keeps_76 : decode cX6_keeps 76 = .ok (.iadd, 1) := by decide +kernel
theorem dX6_keeps_77 : decode cX6_keeps 77 = .ok (.putfield 50, 3) := by decide +kernel
theorem dX6_keeps_80 : decode cX6_keeps 80 = .ok (.return_, 1) := by decide +kernel
theorem dX6_undo_0 : decode cX6_undo 0 = .ok (.aload_n 0, 1) := by decide +kernel
theorem dX6_undo_1 : decode cX6_undo 1 = .ok (.aload_n 0, 1) := by decide +kernel
theorem dX6_undo_2 : decode cX6_undo 2 = .ok (.getfield 50, 3) := by decide +kernel
theorem dX6_undo_5 : decode cX6_undo 5 = .ok (.ifCond .ne 7, 3) := by decide +kernel
theorem dX6_undo_8 : decode cX6_undo 8 = .ok (.iconst 1, 1) := by decide +kernel
theorem dX6_undo_9 : decode cX6_undo 9 = .ok (.goto 4, 3) := by decide +kernel
theorem dX6_undo_12 : decode cX6_undo 12 = .ok (.iconst 0, 1) := by decide +kernel
theorem dX6_undo_13 : decode cX6_undo 13 = .ok (.putfield 47, 3) := by decide +kernel
theorem dX6_undo_16 : decode cX6_undo 16 = .ok (.aload_n 0, 1) := by decide +kernel
theorem dX6_undo_17 : decode cX6_undo 17 = .ok (.getfield 47, 3) := by decide +kernel
theorem dX6_undo_20 : decode cX6_undo 20 = .ok (.ifCond .le 5, 3) := by decide +kernel
theorem dX6_undo_23 : decode cX6_undo 23 = .ok (.iconst 0, 1) := by decide +kernel
theorem dX6_undo_24 : decode cX6_undo 24 = .ok (.ireturn, 1) := by decide +kernel
theorem dX6_undo_25 : decode cX6_undo 25 = .ok (.aload_n 0, 1) := by decide +kernel
theorem dX6_undo_26 : decode cX6_undo 26 = .ok (.dup, 1) := by decide +kernel
theorem dX6_undo_27 : decode cX6_undo 27 = .ok (.getfield 50, 3) := by decide +kernel
theorem dX6_undo_30 : decode cX6_undo 30 = .ok (.iconst 1, 1) := by decide +kernel
theorem dX6_undo_31 : decode cX6_undo 31 = .ok (.isub, 1) := by decide +kernel
theorem dX6_undo_32 : decode cX6_undo 32 = .ok (.putfield 50, 3) := by decide +kernel
theorem dX6_undo_35 : decode cX6_undo 35 = .ok (.aload_n 0, 1) := by decide +kernel
theorem dX6_undo_36 : decode cX6_undo 36 = .ok (.getfield 7, 3) := by decide +kernel
theorem dX6_undo_39 : decode cX6_undo 39 = .ok (.iconst 0, 1) := by decide +kernel
theorem dX6_undo_40 : decode cX6_undo 40 = .ok (.aload_n 0, 1) := by decide +kernel
theorem dX6_undo_41 : decode cX6_undo 41 = .ok (.getfield 20, 3) := by decide +kernel
theorem dX6_undo_44 : decode cX6_undo 44 = .ok (.sipush 4136, 3) := by decide +kernel
theorem dX6_undo_47 : decode cX6_undo 47 = .ok (.aload_n 0, 1) := by decide +kernel
theorem dX6_undo_48 : decode cX6_undo 48 = .ok (.getfield 50, 3) := by decide +kernel
theorem dX6_undo_51 : decode cX6_undo 51 = .ok (.imul, 1) := by decide +kernel
theorem dX6_undo_52 : decode cX6_undo 52 = .ok (.invokestatic 53, 3) := by decide +kernel
theorem dX6_undo_55 : decode cX6_undo 55 = .ok (.aload_n 0, 1) := by decide +kernel
theorem dX6_undo_56 : decode cX6_undo 56 = .ok (.getfield 50, 3) := by decide +kernel
theorem dX6_undo_59 : decode cX6_undo 59 = .ok (.ireturn, 1) := by decide +kernel
theorem dX6_append_0 : decode cX6_append 0 = .ok (.aload_n 0, 1) := by decide +kernel
theorem dX6_append_1 : decode cX6_append 1 = .ok (.aload_n 0, 1) := by decide +kernel
theorem dX6_append_2 : decode cX6_append 2 = .ok (.getfield 57, 3) := by decide +kernel
theorem dX6_append_5 : decode cX6_append 5 = .ok (.bipush 20, 2) := by decide +kernel
theorem dX6_append_7 : decode cX6_append 7 = .ok (.iadd, 1) := by decide +kernel
theorem dX6_append_8 : decode cX6_append 8 = .ok (.sipush 500, 3) := by decide +kernel
theorem dX6_append_11 : decode cX6_append 11 = .ok (.if_icmp .le 7, 3) := by decide +kernel
theorem dX6_append_14 : decode cX6_append 14 = .ok (.iconst 1, 1) := by decide +kernel
theorem dX6_append_15 : decode cX6_append 15 = .ok (.goto 4, 3) := by decide +kernel
theorem dX6_append_18 : decode cX6_append 18 = .ok (.iconst 0, 1) := by decide +kernel
theorem dX6_append_19 : decode cX6_append 19 = .ok (.putfield 47, 3) := by decide +kernel
theorem dX6_append_22 : decode cX6_append 22 = .ok (.aload_n 0, 1) := by decide +kernel
theorem dX6_append_23 : decode cX6_append 23 = .ok (.getfield 47, 3) := by decide +kernel
theorem dX6_append_26 : decode cX6_append 26 = .ok (.ifCond .le 5, 3) := by decide +kernel
theorem dX6_append_29 : decode cX6_append 29 = .ok (.iconst 0, 1) := by decide +kernel
theorem dX6_append_30 : decode cX6_append 30 = .ok (.ireturn, 1) := by decide +kernel
theorem dX6_append_31 : decode cX6_append 31 = .ok (.iconst 0, 1) := by decide +kernel
theorem dX6_append_32 : decode cX6_append 32 = .ok (.istore 6, 2) := by decide +kernel
theorem dX6_append_34 : decode cX6_append 34 = .ok (.iload 6, 2) := by decide +kernel
theorem dX6_append_36 : decode cX6_append 36 = .ok (.bipush 20, 2) := by decide +kernel
theorem dX6_append_38 : decode cX6_append 38 = .ok (.if_icmp .ge 93, 3) := by decide +kernel
theorem dX6_append_41 : decode cX6_append 41 = .ok (.iload 6, 2) := by decide +kernel
theorem dX6_append_43 : decode cX6_append 43 = .ok (.iconst 4, 1) := by decide +kernel
theorem dX6_append_44 : decode cX6_append 44 = .ok (.if_icmp .ge 7, 3) := by decide +kernel
theorem dX6_append_47 : decode cX6_append 47 = .ok (.iload_n 1, 1) := by decide +kernel
theorem dX6_append_48 : decode cX6_append 48 = .ok (.goto 39, 3) := by decide +kernel
theorem dX6_append_51 : decode cX6_append 51 = .ok (.iload 6, 2) := by decide +kernel
theorem dX6_append_53 : decode cX6_append 53 = .ok (.bipush 8, 2) := by decide +kernel
theorem dX6_append_55 : decode cX6_append 55 = .ok (.if_icmp .ge 7, 3) := by decide +kernel
theorem dX6_append_58 : decode cX6_append 58 = .ok (.iload_n 2, 1) := by decide +kernel
theorem dX6_append_59 : decode cX6_append 59 = .ok (.goto 28, 3) := by decide +kernel
theorem dX6_append_62 : decode cX6_append 62 = .ok (.iload 6, 2) := by decide +kernel
theorem dX6_append_64 : decode cX6_append 64 = .ok (.bipush 12, 2) := by decide +kernel
theorem dX6_append_66 : decode cX6_append 66 = .ok (.if_icmp .ge 7, 3) := by decide +kernel
theorem dX6_append_69 : decode cX6_append 69 = .ok (.iload_n 3, 1) := by decide +kernel
theorem dX6_append_70 : decode cX6_append 70 = .ok (.goto 17, 3) := by decide +kernel
theorem dX6_append_73 : decode cX6_append 73 = .ok (.iload 6, 2) := by decide +kernel
theorem dX6_append_75 : decode cX6_append 75 = .ok (.bipush 16, 2) := by decide +kernel
theorem dX6_append_77 : decode cX6_append 77 = .ok (.if_icmp .ge 8, 3) := by decide +kernel
theorem dX6_append_80 : decode cX6_append 80 = .ok (.iload 4, 2) := by decide +kernel
theorem dX6_append_82 : decode cX6_append 82 = .ok (.goto 5, 3) := by decide +kernel
theorem dX6_append_85 : decode cX6_append 85 = .ok (.iload 5, 2) := by decide +kernel
theorem dX6_append_87 : decode cX6_append 87 = .ok (.istore 7, 2) := by decide +kernel
theorem dX6_append_89 : decode cX6_append 89 = .ok (.aload_n 0, 1) := by decide +kernel
theorem dX6_append_90 : decode cX6_append 90 = .ok (.getfield 30, 3) := by decide +kernel
theorem dX6_append_93 : decode cX6_append 93 = .ok (.aload_n 0, 1) := by decide +kernel
theorem dX6_append_94 : decode cX6_append 94 = .ok (.getfield 57, 3) := by decide +kernel
theorem dX6_append_97 : decode cX6_append 97 = .ok (.iload 7, 2) := by decide +kernel
theorem dX6_append_99 : decode cX6_append 99 = .ok (.bipush 24, 2) := by decide +kernel
theorem dX6_append_101 : decode cX6_append 101 = .ok (.bipush 8, 2) := by decide +kernel
theorem dX6_append_103 : decode cX6_append 103 = .ok (.iload 6, 2) := by decide +kernel
theorem dX6_append_105 : decode cX6_append 105 = .ok (.iconst 4, 1) := by decide +kernel
theorem dX6_append_106 : decode cX6_append 106 = .ok (.irem, 1) := by decide +kernel
theorem dX6_append_107 : decode cX6_append 107 = .ok (.imul, 1) := by decide +kernel
theorem dX6_append_108 : decode cX6_append 108 = .ok (.isub, 1) := by decide +kernel
theorem dX6_append_109 : decode cX6_append 109 = .ok (.ishr, 1) := by decide +kernel
theorem dX6_append_110 : decode cX6_append 110 = .ok (.sipush 255, 3) := by decide +kernel
