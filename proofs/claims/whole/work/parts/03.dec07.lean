theorem dX6_pass_10 : decode cX6_pass 10 = .ok (.iconst 1, 1) := by decide +kernel
theorem dX6_pass_11 : decode cX6_pass 11 = .ok (.goto 4, 3) := by decide +kernel
theorem dX6_pass_14 : decode cX6_pass 14 = .ok (.iconst 0, 1) := by decide +kernel
theorem dX6_pass_15 : decode cX6_pass 15 = .ok (.putfield 47, 3) := by decide +kernel
theorem dX6_pass_18 : decode cX6_pass 18 = .ok (.aload_n 0, 1) := by decide +kernel
theorem dX6_pass_19 : decode cX6_pass 19 = .ok (.getfield 47, 3) := by decide +kernel
theorem dX6_pass_22 : decode cX6_pass 22 = .ok (.ifCond .le 5, 3) := by decide +kernel
theorem dX6_pass_25 : decode cX6_pass 25 = .ok (.iconst 0, 1) := by decide +kernel
theorem dX6_pass_26 : decode cX6_pass 26 = .ok (.ireturn, 1) := by decide +kernel
theorem dX6_pass_27 : decode cX6_pass 27 = .ok (.aload_n 0, 1) := by decide +kernel
theorem dX6_pass_28 : decode cX6_pass 28 = .ok (.invokevirtual 167, 3) := by decide +kernel
theorem dX6_pass_31 : decode cX6_pass 31 = .ok (.aload_n 0, 1) := by decide +kernel
theorem dX6_pass_32 : decode cX6_pass 32 = .ok (.invokevirtual 134, 3) := by decide +kernel
theorem dX6_pass_35 : decode cX6_pass 35 = .ok (.aload_n 0, 1) := by decide +kernel
theorem dX6_pass_36 : decode cX6_pass 36 = .ok (.getfield 7, 3) := by decide +kernel
theorem dX6_pass_39 : decode cX6_pass 39 = .ok (.iconst 2, 1) := by decide +kernel
theorem dX6_pass_40 : decode cX6_pass 40 = .ok (.iaload, 1) := by decide +kernel
theorem dX6_pass_41 : decode cX6_pass 41 = .ok (.ireturn, 1) := by decide +kernel
theorem dX6_playOut_0 : decode cX6_playOut 0 = .ok (.aload_n 0, 1) := by decide +kernel
theorem dX6_playOut_1 : decode cX6_playOut 1 = .ok (.iload_n 1, 1) := by decide +kernel
theorem dX6_playOut_2 : decode cX6_playOut 2 = .ok (.iconst 1, 1) := by decide +kernel
theorem dX6_playOut_3 : decode cX6_playOut 3 = .ok (.bipush 20, 2) := by decide +kernel
theorem dX6_playOut_5 : decode cX6_playOut 5 = .ok (.invokestatic 76, 3) := by decide +kernel
theorem dX6_playOut_8 : decode cX6_playOut 8 = .ok (.ifCond .eq 7, 3) := by decide +kernel
theorem dX6_playOut_11 : decode cX6_playOut 11 = .ok (.iconst 0, 1) := by decide +kernel
theorem dX6_playOut_12 : decode cX6_playOut 12 = .ok (.goto 4, 3) := by decide +kernel
theorem dX6_playOut_15 : decode cX6_playOut 15 = .ok (.iconst 1, 1) := by decide +kernel
theorem dX6_playOut_16 : decode cX6_playOut 16 = .ok (.putfield 47, 3) := by decide +kernel
theorem dX6_playOut_19 : decode cX6_playOut 19 = .ok (.aload_n 0, 1) := by decide +kernel
theorem dX6_playOut_20 : decode cX6_playOut 20 = .ok (.getfield 47, 3) := by decide +kernel
theorem dX6_playOut_23 : decode cX6_playOut 23 = .ok (.ifCond .le 5, 3) := by decide +kernel
theorem dX6_playOut_26 : decode cX6_playOut 26 = .ok (.iconst 0, 1) := by decide +kernel
theorem dX6_playOut_27 : decode cX6_playOut 27 = .ok (.ireturn, 1) := by decide +kernel
theorem dX6_playOut_28 : decode cX6_playOut 28 = .ok (.aload_n 0, 1) := by decide +kernel
theorem dX6_playOut_29 : decode cX6_playOut 29 = .ok (.invokevirtual 167, 3) := by decide +kernel
theorem dX6_playOut_32 : decode cX6_playOut 32 = .ok (.aload_n 0, 1) := by decide +kernel
theorem dX6_playOut_33 : decode cX6_playOut 33 = .ok (.invokevirtual 253, 3) := by decide +kernel
theorem dX6_playOut_36 : decode cX6_playOut 36 = .ok (.iconst 0, 1) := by decide +kernel
theorem dX6_playOut_37 : decode cX6_playOut 37 = .ok (.istore_n 2, 1) := by decide +kernel
theorem dX6_playOut_38 : decode cX6_playOut 38 = .ok (.iload_n 2, 1) := by decide +kernel
theorem dX6_playOut_39 : decode cX6_playOut 39 = .ok (.iload_n 1, 1) := by decide +kernel
theorem dX6_playOut_40 : decode cX6_playOut 40 = .ok (.if_icmp .ge 44, 3) := by decide +kernel
theorem dX6_playOut_43 : decode cX6_playOut 43 = .ok (.aload_n 0, 1) := by decide +kernel
theorem dX6_playOut_44 : decode cX6_playOut 44 = .ok (.invokevirtual 213, 3) := by decide +kernel
theorem dX6_playOut_47 : decode cX6_playOut 47 = .ok (.ifCond .ne 37, 3) := by decide +kernel
theorem dX6_playOut_50 : decode cX6_playOut 50 = .ok (.aload_n 0, 1) := by decide +kernel
theorem dX6_playOut_51 : decode cX6_playOut 51 = .ok (.invokevirtual 265, 3) := by decide +kernel
theorem dX6_playOut_54 : decode cX6_playOut 54 = .ok (.istore_n 3, 1) := by decide +kernel
theorem dX6_playOut_55 : decode cX6_playOut 55 = .ok (.iload_n 3, 1) := by decide +kernel
theorem dX6_playOut_56 : decode cX6_playOut 56 = .ok (.bipush 100, 2) := by decide +kernel
theorem dX6_playOut_58 : decode cX6_playOut 58 = .ok (.if_icmp .ne 10, 3) := by decide +kernel
theorem dX6_playOut_61 : decode cX6_playOut 61 = .ok (.aload_n 0, 1) := by decide +kernel
theorem dX6_playOut_62 : decode cX6_playOut 62 = .ok (.invokevirtual 134, 3) := by decide +kernel
theorem dX6_playOut_65 : decode cX6_playOut 65 = .ok (.goto 13, 3) := by decide +kernel
theorem dX6_playOut_68 : decode cX6_playOut 68 = .ok (.aload_n 0, 1) := by decide +kernel
theorem dX6_playOut_69 : decode cX6_playOut 69 = .ok (.iload_n 3, 1) := by decide +kernel
theorem dX6_playOut_70 : decode cX6_playOut 70 = .ok (.iconst 4, 1) := by decide +kernel
theorem dX6_playOut_71 : decode cX6_playOut 71 = .ok (.idiv, 1) := by decide +kernel
theorem dX6_playOut_72 : decode cX6_playOut 72 = .ok (.iload_n 3, 1) := by decide +kernel
theorem dX6_playOut_73 : decode cX6_playOut 73 = .ok (.iconst 4, 1) := by decide +kernel
theorem dX6_playOut_74 : decode cX6_playOut 74 = .ok (.irem, 1) := by decide +kernel
theorem dX6_playOut_75 : decode cX6_playOut 75 = .ok (.invokevirtual 130, 3) := by decide +kernel
theorem dX6_playOut_78 : decode cX6_playOut 78 = .ok (.iinc 2 1, 3) := by decide +kernel
theorem dX6_playOut_81 : decode cX6_playOut 81 = .ok (.goto (-43), 3) := by decide +kernel
theorem dX6_playOut_84 : decode cX6_playOut 84 = .ok (.iload_n 2, 1) := by decide +kernel
theorem dX6_playOut_85 : decode cX6_playOut 85 = .ok (.ireturn, 1) := by decide +kernel
theorem dX6_setPasses_0 : decode cX6_setPasses 0 = .ok (.aload_n 0, 1) := by decide +kernel
theorem dX6_setPasses_1 : decode cX6_setPasses 1 = .ok (.iload_n 1, 1) := by decide +kernel
theorem dX6_setPasses_2 : decode cX6_setPasses 2 = .ok (.iconst 0, 1) := by decide +kernel
theorem dX6_setPasses_3 : decode cX6_setPasses 3 = .ok (.bipush 9, 2) := by decide +kernel
theorem dX6_setPasses_5 : decode cX6_setPasses 5 = .ok (.invokestatic 76, 3) := by decide +kernel
theorem dX6_setPasses_8 : decode cX6_setPasses 8 = .ok (.ifCond .eq 7, 3) := by decide +kernel
theorem dX6_setPasses_11 : decode cX6_setPasses 11 = .ok (.iconst 0, 1) := by decide +kernel
theorem dX6_setPasses_12 : decode cX6_setPasses 12 = .ok (.goto 4, 3) := by decide +kernel
theorem dX6_setPasses_15 : decode cX6_setPasses 15 = .ok (.iconst 1, 1) := by decide +kernel
theorem dX6_setPasses_16 : decode cX6_setPasses 16 = .ok (.putfield 47, 3) := by decide +kernel
theorem dX6_setPasses_19 : decode cX6_setPasses 19 = .ok (.aload_n 0, 1) := by decide +kernel
theorem dX6_setPasses_20 : decode cX6_setPasses 20 = .ok (.getfield 47, 3) := by decide +kernel
theorem dX6_setPasses_23 : decode cX6_setPasses 23 = .ok (.ifCond .le 5, 3) := by decide +kernel
theorem dX6_setPasses_26 : decode cX6_setPasses 26 = .ok (.iconst 0, 1) := by decide +kernel
theorem dX6_setPasses_27 : decode cX6_setPasses 27 = .ok (.ireturn, 1) := by decide +kernel
theorem dX6_setPasses_28 : decode cX6_setPasses 28 = .ok (.aload_n 0, 1) := by decide +kernel
theorem dX6_setPasses_29 : decode cX6_setPasses 29 = .ok (.invokevirtual 167, 3) := by decide +kernel
theorem dX6_setPasses_32 : decode cX6_setPasses 32 = .ok (.aload_n 0, 1) := by decide +kernel
theorem dX6_setPasses_33 : decode cX6_setPasses 33 = .ok (.getfield 7, 3) := by decide +kernel
theorem dX6_setPasses_36 : decode cX6_setPasses 36 = .ok (.iconst 2, 1) := by decide +kernel
theorem dX6_setPasses_37 : decode cX6_setPasses 37 = .ok (.iaload, 1) := by decide +kernel
theorem dX6_setPasses_38 : decode cX6_setPasses 38 = .ok (.istore_n 2, 1) := by decide +kernel
theorem dX6_setPasses_39 : decode cX6_setPasses 39 = .ok (.aload_n 0, 1) := by decide +kernel
theorem dX6_setPasses_40 : decode cX6_setPasses 40 = .ok (.getfield 7, 3) := by decide +kernel
theorem dX6_setPasses_43 : decode cX6_setPasses 43 = .ok (.iconst 2, 1) := by decide +kernel
theorem dX6_setPasses_44 : decode cX6_setPasses 44 = .ok (.iload_n 1, 1) := by decide +kernel
theorem dX6_setPasses_45 : decode cX6_setPasses 45 = .ok (.iastore, 1) := by decide +kernel
theorem dX6_setPasses_46 : decode cX6_setPasses 46 = .ok (.iload_n 2, 1) := by decide +kernel
theorem dX6_setPasses_47 : decode cX6_setPasses 47 = .ok (.ireturn, 1) := by decide +kernel
theorem dX6_moved_0 : decode cX6_moved 0 = .ok (.aload_n 0, 1) := by decide +kernel
theorem dX6_moved_1 : decode cX6_moved 1 = .ok (.getfield 7, 3) := by decide +kernel
theorem dX6_moved_4 : decode cX6_moved 4 = .ok (.bipush 40, 2) := by decide +kernel
theorem dX6_moved_6 : decode cX6_moved 6 = .ok (.iload_n 1, 1) := by decide +kernel
theorem dX6_moved_7 : decode cX6_moved 7 = .ok (.iadd, 1) := by decide +kernel
theorem dX6_moved_8 : decode cX6_moved 8 = .ok (.iaload, 1) := by decide +kernel
theorem dX6_moved_9 : decode cX6_moved 9 = .ok (.istore_n 3, 1) := by decide +kernel
theorem dX6_moved_10 : decode cX6_moved 10 = .ok (.iload_n 2, 1) := by decide +kernel
theorem dX6_moved_11 : decode cX6_moved 11 = .ok (.ifCond .ne 9, 3) := by decide +kernel
theorem dX6_moved_14 : decode cX6_moved 14 = .ok (.iload_n 3, 1) := by decide +kernel
theorem dX6_moved_15 : decode cX6_moved 15 = .ok (.iconst 1, 1) := by decide +kernel
theorem dX6_moved_16 : decode cX6_moved 16 = .ok (.iand, 1) := by decide +kernel
theorem dX6_moved_17 : decode cX6_moved 17 = .ok (.goto 53, 3) := by decide +kernel
theorem dX6_moved_20 : decode cX6_moved 20 = .ok (.iload_n 2, 1) := by decide +kernel
theorem dX6_moved_21 : decode cX6_moved 21 = .ok (.iconst 1, 1) := by decide +kernel
theorem dX6_moved_22 : decode cX6_moved 22 = .ok (.if_icmp .ne 14, 3) := by decide +kernel
theorem dX6_moved_25 : decode cX6_moved 25 = .ok (.iload_n 3, 1) := by decide +kernel
theorem dX6_moved_26 : decode cX6_moved 26 = .ok (.iconst 1, 1) := by decide +kernel
theorem dX6_moved_27 : decode cX6_moved 27 = .ok (.ishr, 1) := by decide +kernel
theorem dX6_moved_28 : decode cX6_moved 28 = .ok (.bipush 15, 2) := by decide +kernel
theorem dX6_moved_30 : decode cX6_moved 30 = .ok (.iand, 1) := by decide +kernel
theorem dX6_moved_31 : decode cX6_moved 31 = .ok (.iconst 1, 1) := by decide +kernel
theorem dX6_moved_32 : decode cX6_moved 32 = .ok (.isub, 1) := by decide +kernel
theorem dX6_moved_33 : decode cX6_moved 33 = .ok (.goto 37, 3) := by decide +kernel
theorem dX6_moved_36 : decode cX6_moved 36 = .ok (.iload_n 2, 1) := by decide +kernel
theorem dX6_moved_37 : decode cX6_moved 37 = .ok (.iconst 2, 1) := by decide +kernel
theorem dX6_moved_38 : decode cX6_moved 38 = .ok (.if_icmp .ne 13, 3) := by decide +kernel
theorem dX6_moved_41 : decode cX6_moved 41 = .ok (.iload_n 3, 1) := by decide +kernel
theorem dX6_moved_42 : decode cX6_moved 42 = .ok (.iconst 5, 1) := by decide +kernel
theorem dX6_moved_43 : decode cX6_moved 43 = .ok (.ishr, 1) := by decide +kernel
theorem dX6_moved_44 : decode cX6_moved 44 = .ok (.iconst 3, 1) := by decide +kernel
theorem dX6_moved_45 : decode cX6_moved 45 = .ok (.iand, 1) := by decide +kernel
theorem dX6_moved_46 : decode cX6_moved 46 = .ok (.iconst 1, 1) := by decide +kernel
theorem dX6_moved_47 : decode cX6_moved 47 = .ok (.isub, 1) := by decide +kernel
theorem dX6_moved_48 : decode cX6_moved 48 = .ok (.goto 22, 3) := by decide +kernel
theorem dX6_moved_51 : decode cX6_moved 51 = .ok (.iload_n 2, 1) := by decide +kernel
theorem dX6_moved_52 : decode cX6_moved 52 = .ok (.iconst 3, 1) := by decide +kernel
theorem dX6_moved_53 : decode cX6_moved 53 = .ok (.if_icmp .ne 13, 3) := by decide +kernel
theorem dX6_moved_56 : decode cX6_moved 56 = .ok (.iload_n 3, 1) := by decide +kernel
theorem dX6_moved_57 : decode cX6_moved 57 = .ok (.bipush 7, 2) := by decide +kernel
theorem dX6_moved_59 : decode cX6_moved 59 = .ok (.ishr, 1) := by decide +kernel
theorem dX6_moved_60 : decode cX6_moved 60 = .ok (.bipush 15, 2) := by decide +kernel
theorem dX6_moved_62 : decode cX6_moved 62 = .ok (.iand, 1) := by decide +kernel
theorem dX6_moved_63 : decode cX6_moved 63 = .ok (.goto 7, 3) := by decide +kernel
theorem dX6_moved_66 : decode cX6_moved 66 = .ok (.iload_n 3, 1) := by decide +kernel
theorem dX6_moved_67 : decode cX6_moved 67 = .ok (.bipush 11, 2) := by decide +kernel
theorem dX6_moved_69 : decode cX6_moved 69 = .ok (.ishr, 1) := by decide +kernel
theorem dX6_moved_70 : decode cX6_moved 70 = .ok (.ireturn, 1) := by decide +kernel
theorem dX6_move_0 : decode cX6_move 0 = .ok (.aload_n 0, 1) := by decide +kernel
theorem dX6_move_1 : decode cX6_move 1 = .ok (.iload_n 1, 1) := by decide +kernel
theorem dX6_move_2 : decode cX6_move 2 = .ok (.iconst 0, 1) := by decide +kernel
theorem dX6_move_3 : decode cX6_move 3 = .ok (.aload_n 0, 1) := by decide +kernel
theorem dX6_move_4 : decode cX6_move 4 = .ok (.getfield 7, 3) := by decide +kernel
theorem dX6_move_7 : decode cX6_move 7 = .ok (.iconst 3, 1) := by decide +kernel
theorem dX6_move_8 : decode cX6_move 8 = .ok (.iaload, 1) := by decide +kernel
theorem dX6_move_9 : decode cX6_move 9 = .ok (.iconst 1, 1) := by decide +kernel
theorem dX6_move_10 : decode cX6_move 10 = .ok (.isub, 1) := by decide +kernel
theorem dX6_move_11 : decode cX6_move 11 = .ok (.invokestatic 76, 3) := by decide +kernel
theorem dX6_move_14 : decode cX6_move 14 = .ok (.ifCond .ne 7, 3) := by decide +kernel
theorem dX6_move_17 : decode cX6_move 17 = .ok (.iconst 1, 1) := by decide +kernel
theorem dX6_move_18 : decode cX6_move 18 = .ok (.goto 17, 3) := by decide +kernel
theorem dX6_move_21 : decode cX6_move 21 = .ok (.iload_n 2, 1) := by decide +kernel
theorem dX6_move_22 : decode cX6_move 22 = .ok (.iconst 0, 1) := by decide +kernel
theorem dX6_move_23 : decode cX6_move 23 = .ok (.iconst 3, 1) := by decide +kernel
theorem dX6_move_24 : decode cX6_move 24 = .ok (.invokestatic 76, 3) := by decide +kernel
theorem dX6_move_27 : decode cX6_move 27 = .ok (.ifCond .eq 7, 3) := by decide +kernel
theorem dX6_move_30 : decode cX6_move 30 = .ok (.iconst 0, 1) := by decide +kernel
theorem dX6_move_31 : decode cX6_move 31 = .ok (.goto 4, 3) := by decide +kernel
theorem dX6_move_34 : decode cX6_move 34 = .ok (.iconst 2, 1) := by decide +kernel
theorem dX6_move_35 : decode cX6_move 35 = .ok (.putfield 47, 3) := by decide +kernel
theorem dX6_move_38 : decode cX6_move 38 = .ok (.aload_n 0, 1) := by decide +kernel
theorem dX6_move_39 : decode cX6_move 39 = .ok (.getfield 47, 3) := by decide +kernel
theorem dX6_move_42 : decode cX6_move 42 = .ok (.ifCond .le 7, 3) := by decide +kernel
theorem dX6_move_45 : decode cX6_move 45 = .ok (.iconst 0, 1) := by decide +kernel
theorem dX6_move_46 : decode cX6_move 46 = .ok (.goto 9, 3) := by decide +kernel
theorem dX6_move_49 : decode cX6_move 49 = .ok (.aload_n 0, 1) := by decide +kernel
theorem dX6_move_50 : decode cX6_move 50 = .ok (.iload_n 1, 1) := by decide +kernel
theorem dX6_move_51 : decode cX6_move 51 = .ok (.iload_n 2, 1) := by decide +kernel
theorem dX6_move_52 : decode cX6_move 52 = .ok (.invokevirtual 272, 3) := by decide +kernel
theorem dX6_move_55 : decode cX6_move 55 = .ok (.ireturn, 1) := by decide +kernel
theorem dX6_counts_0 : decode cX6_counts 0 = .ok (.aload_n 0, 1) := by decide +kernel
theorem dX6_counts_1 : decode cX6_counts 1 = .ok (.iload_n 1, 1) := by decide +kernel
theorem dX6_counts_2 : decode cX6_counts 2 = .ok (.iconst 1, 1) := by decide +kernel
theorem dX6_counts_3 : decode cX6_counts 3 = .ok (.invokevirtual 272, 3) := by decide +kernel
theorem dX6_counts_6 : decode cX6_counts 6 = .ok (.iconst (-1), 1) := by decide +kernel
theorem dX6_counts_7 : decode cX6_counts 7 = .ok (.if_icmp .ne 7, 3) := by decide +kernel
theorem dX6_counts_10 : decode cX6_counts 10 = .ok (.iconst 1, 1) := by decide +kernel
theorem dX6_counts_11 : decode cX6_counts 11 = .ok (.goto 4, 3) := by decide +kernel
theorem dX6_counts_14 : decode cX6_counts 14 = .ok (.iconst 0, 1) := by decide +kernel
theorem dX6_counts_15 : decode cX6_counts 15 = .ok (.istore_n 3, 1) := by decide +kernel
theorem dX6_counts_16 : decode cX6_counts 16 = .ok (.iload_n 2, 1) := by decide +kernel
theorem dX6_counts_17 : decode cX6_counts 17 = .ok (.iconst 1, 1) := by decide +kernel
theorem dX6_counts_18 : decode cX6_counts 18 = .ok (.if_icmp .ne 7, 3) := by decide +kernel
theorem dX6_counts_21 : decode cX6_counts 21 = .ok (.iload_n 3, 1) := by decide +kernel
theorem dX6_counts_22 : decode cX6_counts 22 = .ok (.goto 45, 3) := by decide +kernel
theorem dX6_counts_25 : decode cX6_counts 25 = .ok (.iload_n 3, 1) := by decide +kernel
theorem dX6_counts_26 : decode cX6_counts 26 = .ok (.ifCond .ne 40, 3) := by decide +kernel
theorem dX6_counts_29 : decode cX6_counts 29 = .ok (.iload_n 2, 1) := by decide +kernel
theorem dX6_counts_30 : decode cX6_counts 30 = .ok (.ifCond .eq 32, 3) := by decide +kernel
theorem dX6_counts_33 : decode cX6_counts 33 = .ok (.iload_n 2, 1) := by decide +kernel
theorem dX6_counts_34 : decode cX6_counts 34 = .ok (.iconst 2, 1) := by decide +kernel
theorem dX6_counts_35 : decode cX6_counts 35 = .ok (.if_icmp .ne 13, 3) := by decide +kernel
theorem dX6_counts_38 : decode cX6_counts 38 = .ok (.aload_n 0, 1) := by decide +kernel
theorem dX6_counts_39 : decode cX6_counts 39 = .ok (.iload_n 1, 1) := by decide +kernel
theorem dX6_counts_40 : decode cX6_counts 40 = .ok (.iconst 4, 1) := by decide +kernel
theorem dX6_counts_41 : decode cX6_counts 41 = .ok (.invokevirtual 272, 3) := by decide +kernel
theorem dX6_counts_44 : decode cX6_counts 44 = .ok (.iconst 1, 1) := by decide +kernel
theorem dX6_counts_45 : decode cX6_counts 45 = .ok (.if_icmp .gt 17, 3) := by decide +kernel
theorem dX6_counts_48 : decode cX6_counts 48 = .ok (.iload_n 2, 1) := by decide +kernel
theorem dX6_counts_49 : decode cX6_counts 49 = .ok (.iconst 3, 1) := by decide +kernel
theorem dX6_counts_50 : decode cX6_counts 50 = .ok (.if_icmp .ne 16, 3) := by decide +kernel
theorem dX6_counts_53 : decode cX6_counts 53 = .ok (.aload_n 0, 1) := by decide +kernel
theorem dX6_counts_54 : decode cX6_counts 54 = .ok (.iload_n 1, 1) := by decide +kernel
theorem dX6_counts_55 : decode cX6_counts 55 = .ok (.iconst 4, 1) := by decide +kernel
theorem dX6_counts_56 : decode cX6_counts 56 = .ok (.invokevirtual 272, 3) := by decide +kernel
theorem dX6_counts_59 : decode cX6_counts 59 = .ok (.ifCond .ne 7, 3) := by decide +kernel
theorem dX6_counts_62 : decode cX6_counts 62 = .ok (.iconst 1, 1) := by decide +kernel
theorem dX6_counts_63 : decode cX6_counts 63 = .ok (.goto 4, 3) := by decide +kernel
theorem dX6_counts_66 : decode cX6_counts 66 = .ok (.iconst 0, 1) := by decide +kernel
theorem dX6_counts_67 : decode cX6_counts 67 = .ok (.ireturn, 1) := by decide +kernel
theorem dX6_account_0 : decode cX6_account 0 = .ok (.aload_n 0, 1) := by decide +kernel
theorem dX6_account_1 : decode cX6_account 1 = .ok (.iload_n 1, 1) := by decide +kernel
theorem dX6_account_2 : decode cX6_account 2 = .ok (.iconst 0, 1) := by decide +kernel
theorem dX6_account_3 : decode cX6_account 3 = .ok (.iconst 1, 1) := by decide +kernel
theorem dX6_account_4 : decode cX6_account 4 = .ok (.invokestatic 76, 3) := by decide +kernel
theorem dX6_account_7 : decode cX6_account 7 = .ok (.ifCond .ne 7, 3) := by decide +kernel
theorem dX6_account_10 : decode cX6_account 10 = .ok (.iconst 1, 1) := by decide +kernel
theorem dX6_account_11 : decode cX6_account 11 = .ok (.goto 17, 3) := by decide +kernel
theorem dX6_account_14 : decode cX6_account 14 = .ok (.iload_n 2, 1) := by decide +kernel
theorem dX6_account_15 : decode cX6_account 15 = .ok (.iconst 0, 1) := by decide +kernel
theorem dX6_account_16 : decode cX6_account 16 = .ok (.iconst 4, 1) := by decide +kernel
theorem dX6_account_17 : decode cX6_account 17 = .ok (.invokestatic 76, 3) := by decide +kernel
theorem dX6_account_20 : decode cX6_account 20 = .ok (.ifCond .eq 7, 3) := by decide +kernel
theorem dX6_account_23 : decode cX6_account 23 = .ok (.iconst 0, 1) := by decide +kernel
theorem dX6_account_24 : decode cX6_account 24 = .ok (.goto 4, 3) := by decide +kernel
theorem dX6_account_27 : decode cX6_account 27 = .ok (.iconst 2, 1) := by decide +kernel
theorem dX6_account_28 : decode cX6_account 28 = .ok (.putfield 47, 3) := by decide +kernel
theorem dX6_account_31 : decode cX6_account 31 = .ok (.aload_n 0, 1) := by decide +kernel
theorem dX6_account_32 : decode cX6_account 32 = .ok (.getfield 47, 3) := by decide +kernel
theorem dX6_account_35 : decode cX6_account 35 = .ok (.ifCond .le 5, 3) := by decide +kernel
theorem dX6_account_38 : decode cX6_account 38 = .ok (.iconst 0, 1) := by decide +kernel
theorem dX6_account_39 : decode cX6_account 39 = .ok (.ireturn, 1) := by decide +kernel
theorem dX6_account_40 : decode cX6_account 40 = .ok (.iconst 0, 1) := by decide +kernel
theorem dX6_account_41 : decode cX6_account 41 = .ok (.istore_n 3, 1) := by decide +kernel
theorem dX6_account_42 : decode cX6_account 42 = .ok (.iconst 0, 1) := by decide +kernel
theorem dX6_account_43 : decode cX6_account 43 = .ok (.istore 4, 2) := by decide +kernel
theorem dX6_account_45 : decode cX6_account 45 = .ok (.iconst 0, 1) := by decide +kernel
theorem dX6_account_46 : decode cX6_account 46 = .ok (.istore 5, 2) := by decide +kernel
theorem dX6_account_48 : decode cX6_account 48 = .ok (.iload 5, 2) := by decide +kernel
theorem dX6_account_50 : decode cX6_account 50 = .ok (.aload_n 0, 1) := by decide +kernel
theorem dX6_account_51 : decode cX6_account 51 = .ok (.getfield 7, 3) := by decide +kernel
theorem dX6_account_54 : decode cX6_account 54 = .ok (.iconst 3, 1) := by decide +kernel
theorem dX6_account_55 : decode cX6_account 55 = .ok (.iaload, 1) := by decide +kernel
theorem dX6_account_56 : decode cX6_account 56 = .ok (.if_icmp .ge 70, 3) := by decide +kernel
theorem dX6_account_59 : decode cX6_account 59 = .ok (.aload_n 0, 1) := by decide +kernel
theorem dX6_account_60 : decode cX6_account 60 = .ok (.iload 5, 2) := by decide +kernel
theorem dX6_account_62 : decode cX6_account 62 = .ok (.iconst 0, 1) := by decide +kernel
theorem dX6_account_63 : decode cX6_account 63 = .ok (.invokevirtual 272, 3) := by decide +kernel
theorem dX6_account_66 : decode cX6_account 66 = .ok (.iload_n 1, 1) := by decide +kernel
theorem dX6_account_67 : decode cX6_account 67 = .ok (.if_icmp .eq 6, 3) := by decide +kernel
theorem dX6_account_70 : decode cX6_account 70 = .ok (.goto 50, 3) := by decide +kernel
theorem dX6_account_73 : decode cX6_account 73 = .ok (.iload_n 3, 1) := by decide +kernel
theorem dX6_account_74 : decode cX6_account 74 = .ok (.aload_n 0, 1) := by decide +kernel
theorem dX6_account_75 : decode cX6_account 75 = .ok (.iload 5, 2) := by decide +kernel
theorem dX6_account_77 : decode cX6_account 77 = .ok (.iload_n 2, 1) := by decide +kernel
theorem dX6_account_78 : decode cX6_account 78 = .ok (.invokevirtual 275, 3) := by decide +kernel
theorem dX6_account_81 : decode cX6_account 81 = .ok (.ifCond .eq 7, 3) := by decide +kernel
theorem dX6_account_84 : decode cX6_account 84 = .ok (.iconst 1, 1) := by decide +kernel
theorem dX6_account_85 : decode cX6_account 85 = .ok (.goto 4, 3) := by decide +kernel
theorem dX6_account_88 : decode cX6_account 88 = .ok (.iconst 0, 1) := by decide +kernel
theorem dX6_account_89 : decode cX6_account 89 = .ok (.iadd, 1) := by decide +kernel
theorem dX6_account_90 : decode cX6_account 90 = .ok (.istore_n 3, 1) := by decide +kernel
theorem dX6_account_91 : decode cX6_account 91 = .ok (.iload 4, 2) := by decide +kernel
theorem dX6_account_93 : decode cX6_account 93 = .ok (.aload_n 0, 1) := by decide +kernel
theorem dX6_account_94 : decode cX6_account 94 = .ok (.iload 5, 2) := by decide +kernel
theorem dX6_account_96 : decode cX6_account 96 = .ok (.iconst 1, 1) := by decide +kernel
theorem dX6_account_97 : decode cX6_account 97 = .ok (.invokevirtual 272, 3) := by decide +kernel
theorem dX6_account_100 : decode cX6_account 100 = .ok (.iconst (-1), 1) := by decide +kernel
theorem dX6_account_101 : decode cX6_account 101 = .ok (.if_icmp .ne 7, 3) := by decide +kernel
theorem dX6_account_104 : decode cX6_account 104 = .ok (.iconst 0, 1) := by decide +kernel
theorem dX6_account_105 : decode cX6_account 105 = .ok (.goto 12, 3) := by decide +kernel
theorem dX6_account_108 : decode cX6_account 108 = .ok (.iconst 1, 1) := by decide +kernel
theorem dX6_account_109 : decode cX6_account 109 = .ok (.aload_n 0, 1) := by decide +kernel
theorem dX6_account_110 : decode cX6_account 110 = .ok (.iload 5, 2) := by decide +kernel
theorem dX6_account_112 : decode cX6_account 112 = .ok (.iconst 2, 1) := by decide +kernel
theorem dX6_account_113 : decode cX6_account 113 = .ok (.invokevirtual 272, 3) := by decide +kernel
theorem dX6_account_116 : decode cX6_account 116 = .ok (.ishl, 1) := by decide +kernel
theorem dX6_account_117 : decode cX6_account 117 = .ok (.ior, 1) := by decide +kernel
theorem dX6_account_118 : decode cX6_account 118 = .ok (.istore 4, 2) := by decide +kernel
theorem dX6_account_120 : decode cX6_account 120 = .ok (.iinc 5 1, 3) := by decide +kernel
theorem dX6_account_123 : decode cX6_account 123 = .ok (.goto (-75), 3) := by decide +kernel
theorem dX6_account_126 : decode cX6_account 126 = .ok (.iload_n 2, 1) := by decide +kernel
theorem dX6_account_127 : decode cX6_account 127 = .ok (.iconst 4, 1) := by decide +kernel
theorem dX6_account_128 : decode cX6_account 128 = .ok (.if_icmp .ne 11, 3) := by decide +kernel
theorem dX6_account_131 : decode cX6_account 131 = .ok (.iload 4, 2) := by decide +kernel
theorem dX6_account_133 : decode cX6_account 133 = .ok (.invokestatic 189, 3) := by decide +kernel
theorem dX6_account_136 : decode cX6_account 136 = .ok (.goto 4, 3) := by decide +kernel
theorem dX6_account_139 : decode cX6_account 139 = .ok (.iload_n 3, 1) := by decide +kernel
theorem dX6_account_140 : decode cX6_account 140 = .ok (.ireturn, 1) := by decide +kernel
theorem dX6_says_0 : decode cX6_says 0 = .ok (.aload_n 0, 1) := by decide +kernel
theorem dX6_says_1 : decode cX6_says 1 = .ok (.getfield 44, 3) := by decide +kernel
theorem dX6_says_4 : decode cX6_says 4 = .ok (.aload_n 0, 1) := by decide +kernel
theorem dX6_says_5 : decode cX6_says 5 = .ok (.getfield 278, 3) := by decide +kernel
theorem dX6_says_8 : decode cX6_says 8 = .ok (.iload_n 1, 1) := by decide +kernel
theorem dX6_says_9 : decode cX6_says 9 = .ok (.iastore, 1) := by decide +kernel
theorem dX6_says_10 : decode cX6_says 10 = .ok (.aload_n 0, 1) := by decide +kernel
theorem dX6_says_11 : decode cX6_says 11 = .ok (.dup, 1) := by decide +kernel
theorem dX6_says_12 : decode cX6_says 12 = .ok (.getfield 278, 3) := by decide +kernel
theorem dX6_says_15 : decode cX6_says 15 = .ok (.iconst 1, 1) := by decide +kernel
theorem dX6_says_16 : decode cX6_says 16 = .ok (.iadd, 1) := by decide +kernel
theorem dX6_says_17 : decode cX6_says 17 = .ok (.putfield 278, 3) := by decide +kernel
theorem dX6_says_20 : decode cX6_says 20 = .ok (.return_, 1) := by decide +kernel
theorem dX6_writeBoard_0 : decode cX6_writeBoard 0 = .ok (.aload_n 0, 1) := by decide +kernel
theorem dX6_writeBoard_1 : decode cX6_writeBoard 1 = .ok (.iconst 0, 1) := by decide +kernel
theorem dX6_writeBoard_2 : decode cX6_writeBoard 2 = .ok (.putfield 47, 3) := by decide +kernel
theorem dX6_writeBoard_5 : decode cX6_writeBoard 5 = .ok (.aload_n 0, 1) := by decide +kernel
theorem dX6_writeBoard_6 : decode cX6_writeBoard 6 = .ok (.iconst 0, 1) := by decide +kernel
theorem dX6_writeBoard_7 : decode cX6_writeBoard 7 = .ok (.putfield 278, 3) := by decide +kernel
theorem dX6_writeBoard_10 : decode cX6_writeBoard 10 = .ok (.iconst 0, 1) := by decide +kernel
theorem dX6_writeBoard_11 : decode cX6_writeBoard 11 = .ok (.istore_n 1, 1) := by decide +kernel
theorem dX6_writeBoard_12 : decode cX6_writeBoard 12 = .ok (.iload_n 1, 1) := by decide +kernel
theorem dX6_writeBoard_13 : decode cX6_writeBoard 13 = .ok (.aload_n 0, 1) := by decide +kernel
theorem dX6_writeBoard_14 : decode cX6_writeBoard 14 = .ok (.getfield 7, 3) := by decide +kernel
theorem dX6_writeBoard_17 : decode cX6_writeBoard 17 = .ok (.iconst 0, 1) := by decide +kernel
theorem dX6_writeBoard_18 : decode cX6_writeBoard 18 = .ok (.iaload, 1) := by decide +kernel
theorem dX6_writeBoard_19 : decode cX6_writeBoard 19 = .ok (.if_icmp .ge 34, 3) := by decide +kernel
theorem dX6_writeBoard_22 : decode cX6_writeBoard 22 = .ok (.aload_n 0, 1) := by decide +kernel
theorem dX6_writeBoard_23 : decode cX6_writeBoard 23 = .ok (.aload_n 0, 1) := by decide +kernel
theorem dX6_writeBoard_24 : decode cX6_writeBoard 24 = .ok (.iload_n 1, 1) := by decide +kernel
theorem dX6_writeBoard_25 : decode cX6_writeBoard 25 = .ok (.invokevirtual 170, 3) := by decide +kernel
theorem dX6_writeBoard_28 : decode cX6_writeBoard 28 = .ok (.ifCond .eq 8, 3) := by decide +kernel
theorem dX6_writeBoard_31 : decode cX6_writeBoard 31 = .ok (.bipush 46, 2) := by decide +kernel
theorem dX6_writeBoard_33 : decode cX6_writeBoard 33 = .ok (.goto 11, 3) := by decide +kernel
theorem dX6_writeBoard_36 : decode cX6_writeBoard 36 = .ok (.bipush 97, 2) := by decide +kernel
theorem dX6_writeBoard_38 : decode cX6_writeBoard 38 = .ok (.aload_n 0, 1) := by decide +kernel
theorem dX6_writeBoard_39 : decode cX6_writeBoard 39 = .ok (.iload_n 1, 1) := by decide +kernel
theorem dX6_writeBoard_40 : decode cX6_writeBoard 40 = .ok (.invokevirtual 183, 3) := by decide +kernel
theorem dX6_writeBoard_43 : decode cX6_writeBoard 43 = .ok (.iadd, 1) := by decide +kernel
theorem dX6_writeBoard_44 : decode cX6_writeBoard 44 = .ok (.invokevirtual 281, 3) := by decide +kernel
theorem dX6_writeBoard_47 : decode cX6_writeBoard 47 = .ok (.iinc 1 1, 3) := by decide +kernel
theorem dX6_writeBoard_50 : decode cX6_writeBoard 50 = .ok (.goto (-38), 3) := by decide +kernel
theorem dX6_writeBoard_53 : decode cX6_writeBoard 53 = .ok (.aload_n 0, 1) := by decide +kernel
theorem dX6_writeBoard_54 : decode cX6_writeBoard 54 = .ok (.bipush 47, 2) := by decide +kernel
theorem dX6_writeBoard_56 : decode cX6_writeBoard 56 = .ok (.invokevirtual 281, 3) := by decide +kernel
theorem dX6_writeBoard_59 : decode cX6_writeBoard 59 = .ok (.aload_n 0, 1) := by decide +kernel
theorem dX6_writeBoard_60 : decode cX6_writeBoard 60 = .ok (.bipush 48, 2) := by decide +kernel
theorem dX6_writeBoard_62 : decode cX6_writeBoard 62 = .ok (.aload_n 0, 1) := by decide +kernel
theorem dX6_writeBoard_63 : decode cX6_writeBoard 63 = .ok (.invokevirtual 210, 3) := by decide +kernel
theorem dX6_writeBoard_66 : decode cX6_writeBoard 66 = .ok (.iadd, 1) := by decide +kernel
theorem dX6_writeBoard_67 : decode cX6_writeBoard 67 = .ok (.invokevirtual 281, 3) := by decide +kernel
theorem dX6_writeBoard_70 : decode cX6_writeBoard 70 = .ok (.aload_n 0, 1) := by decide +kernel
theorem dX6_writeBoard_71 : decode cX6_writeBoard 71 = .ok (.bipush 47, 2) := by decide +kernel
theorem dX6_writeBoard_73 : decode cX6_writeBoard 73 = .ok (.invokevirtual 281, 3) := by decide +kernel
theorem dX6_writeBoard_76 : decode cX6_writeBoard 76 = .ok (.aload_n 0, 1) := by decide +kernel
theorem dX6_writeBoard_77 : decode cX6_writeBoard 77 = .ok (.bipush 48, 2) := by decide +kernel
theorem dX6_writeBoard_79 : decode cX6_writeBoard 79 = .ok (.aload_n 0, 1) := by decide +kernel
theorem dX6_writeBoard_80 : decode cX6_writeBoard 80 = .ok (.getfield 7, 3) := by decide +kernel
theorem dX6_writeBoard_83 : decode cX6_writeBoard 83 = .ok (.iconst 2, 1) := by decide +kernel
theorem dX6_writeBoard_84 : decode cX6_writeBoard 84 = .ok (.iaload, 1) := by decide +kernel
theorem dX6_writeBoard_85 : decode cX6_writeBoard 85 = .ok (.iadd, 1) := by decide +kernel
theorem dX6_writeBoard_86 : decode cX6_writeBoard 86 = .ok (.invokevirtual 281, 3) := by decide +kernel
theorem dX6_writeBoard_89 : decode cX6_writeBoard 89 = .ok (.aload_n 0, 1) := by decide +kernel
theorem dX6_writeBoard_90 : decode cX6_writeBoard 90 = .ok (.getfield 278, 3) := by decide +kernel
theorem dX6_writeBoard_93 : decode cX6_writeBoard 93 = .ok (.ireturn, 1) := by decide +kernel
theorem dX6_writtenByte_0 : decode cX6_writtenByte 0 = .ok (.aload_n 0, 1) := by decide +kernel
theorem dX6_writtenByte_1 : decode cX6_writtenByte 1 = .ok (.iload_n 1, 1) := by decide +kernel
theorem dX6_writtenByte_2 : decode cX6_writtenByte 2 = .ok (.iconst 0, 1) := by decide +kernel
theorem dX6_writtenByte_3 : decode cX6_writtenByte 3 = .ok (.aload_n 0, 1) := by decide +kernel
theorem dX6_writtenByte_4 : decode cX6_writtenByte 4 = .ok (.getfield 278, 3) := by decide +kernel
theorem dX6_writtenByte_7 : decode cX6_writtenByte 7 = .ok (.iconst 1, 1) := by decide +kernel
theorem dX6_writtenByte_8 : decode cX6_writtenByte 8 = .ok (.isub, 1) := by decide +kernel
theorem dX6_writtenByte_9 : decode cX6_writtenByte 9 = .ok (.invokestatic 76, 3) := by decide +kernel
theorem dX6_writtenByte_12 : decode cX6_writtenByte 12 = .ok (.ifCond .eq 7, 3) := by decide +kernel
theorem dX6_writtenByte_15 : decode cX6_writtenByte 15 = .ok (.iconst 0, 1) := by decide +kernel
theorem dX6_writtenByte_16 : decode cX6_writtenByte 16 = .ok (.goto 4, 3) := by decide +kernel
theorem dX6_writtenByte_19 : decode cX6_writtenByte 19 = .ok (.iconst 1, 1) := by decide +kernel
theorem dX6_writtenByte_20 : decode cX6_writtenByte 20 = .ok (.putfield 47, 3) := by decide +kernel
theorem dX6_writtenByte_23 : decode cX6_writtenByte 23 = .ok (.aload_n 0, 1) := by decide +kernel
theorem dX6_writtenByte_24 : decode cX6_writtenByte 24 = .ok (.getfield 47, 3) := by decide +kernel
theorem dX6_writtenByte_27 : decode cX6_writtenByte 27 = .ok (.ifCond .le 7, 3) := by decide +kernel
theorem dX6_writtenByte_30 : decode cX6_writtenByte 30 = .ok (.iconst 0, 1) := by decide +kernel
theorem dX6_writtenByte_31 : decode cX6_writtenByte 31 = .ok (.goto 9, 3) := by decide +kernel
theorem dX6_writtenByte_34 : decode cX6_writtenByte 34 = .ok (.aload_n 0, 1) := by decide +kernel
theorem dX6_writtenByte_35 : decode cX6_writtenByte 35 = .ok (.getfield 44, 3) := by decide +kernel
theorem dX6_writtenByte_38 : decode cX6_writtenByte 38 = .ok (.iload_n 1, 1) := by decide +kernel
theorem dX6_writtenByte_39 : decode cX6_writtenByte 39 = .ok (.iaload, 1) := by decide +kernel
theorem dX6_writtenByte_40 : decode cX6_writtenByte 40 = .ok (.ireturn, 1) := by decide +kernel
theorem dX6_save_0 : decode cX6_save 0 = .ok (.aload_n 0, 1) := by decide +kernel
theorem dX6_save_1 : decode cX6_save 1 = .ok (.iload_n 1, 1) := by decide +kernel
theorem dX6_save_2 : decode cX6_save 2 = .ok (.iconst 0, 1) := by decide +kernel
theorem dX6_save_3 : decode cX6_save 3 = .ok (.iconst 1, 1) := by decide +kernel
theorem dX6_save_4 : decode cX6_save 4 = .ok (.invokestatic 76, 3) := by decide +kernel
theorem dX6_save_7 : decode cX6_save 7 = .ok (.ifCond .eq 7, 3) := by decide +kernel
theorem dX6_save_10 : decode cX6_save 10 = .ok (.iconst 0, 1) := by decide +kernel
theorem dX6_save_11 : decode cX6_save 11 = .ok (.goto 4, 3) := by decide +kernel
theorem dX6_save_14 : decode cX6_save 14 = .ok (.iconst 1, 1) := by decide +kernel
theorem dX6_save_15 : decode cX6_save 15 = .ok (.putfield 47, 3) := by decide +kernel
theorem dX6_save_18 : decode cX6_save 18 = .ok (.aload_n 0, 1) := by decide +kernel
theorem dX6_save_19 : decode cX6_save 19 = .ok (.getfield 47, 3) := by decide +kernel
theorem dX6_save_22 : decode cX6_save 22 = .ok (.ifCond .le 5, 3) := by decide +kernel
theorem dX6_save_25 : decode cX6_save 25 = .ok (.iconst 0, 1) := by decide +kernel
theorem dX6_save_26 : decode cX6_save 26 = .ok (.ireturn, 1) := by decide +kernel
theorem dX6_save_27 : decode cX6_save 27 = .ok (.aload_n 0, 1) := by decide +kernel
theorem dX6_save_28 : decode cX6_save 28 = .ok (.getfield 26, 3) := by decide +kernel
theorem dX6_save_31 : decode cX6_save 31 = .ok (.iload_n 1, 1) := by decide +kernel
theorem dX6_save_32 : decode cX6_save 32 = .ok (.iconst 1, 1) := by decide +kernel
theorem dX6_save_33 : decode cX6_save 33 = .ok (.bastore, 1) := by decide +kernel
theorem dX6_save_34 : decode cX6_save 34 = .ok (.aload_n 0, 1) := by decide +kernel
theorem dX6_save_35 : decode cX6_save 35 = .ok (.getfield 23, 3) := by decide +kernel
theorem dX6_save_38 : decode cX6_save 38 = .ok (.sipush 4136, 3) := by decide +kernel
theorem dX6_save_41 : decode cX6_save 41 = .ok (.iload_n 1, 1) := by decide +kernel
theorem dX6_save_42 : decode cX6_save 42 = .ok (.imul, 1) := by decide +kernel
theorem dX6_save_43 : decode cX6_save 43 = .ok (.aload_n 0, 1) := by decide +kernel
theorem dX6_save_44 : decode cX6_save 44 = .ok (.getfield 7, 3) := by decide +kernel
theorem dX6_save_47 : decode cX6_save 47 = .ok (.iconst 0, 1) := by decide +kernel
theorem dX6_save_48 : decode cX6_save 48 = .ok (.invokestatic 53, 3) := by decide +kernel
theorem dX6_save_51 : decode cX6_save 51 = .ok (.aload_n 0, 1) := by decide +kernel
theorem dX6_save_52 : decode cX6_save 52 = .ok (.getfield 7, 3) := by decide +kernel
theorem dX6_save_55 : decode cX6_save 55 = .ok (.iconst 3, 1) := by decide +kernel
theorem dX6_save_56 : decode cX6_save 56 = .ok (.iaload, 1) := by decide +kernel
theorem dX6_save_57 : decode cX6_save 57 = .ok (.ireturn, 1) := by decide +kernel
theorem dX6_restore_0 : decode cX6_restore 0 = .ok (.aload_n 0, 1) := by decide +kernel
theorem dX6_restore_1 : decode cX6_restore 1 = .ok (.iload_n 1, 1) := by decide +kernel
theorem dX6_restore_2 : decode cX6_restore 2 = .ok (.iconst 0, 1) := by decide +kernel
theorem dX6_restore_3 : decode cX6_restore 3 = .ok (.iconst 1, 1) := by decide +kernel
theorem dX6_restore_4 : decode cX6_restore 4 = .ok (.invokestatic 76, 3) := by decide +kernel
theorem dX6_restore_7 : decode cX6_restore 7 = .ok (.ifCond .ne 7, 3) := by decide +kernel
theorem dX6_restore_10 : decode cX6_restore 10 = .ok (.iconst 1, 1) := by decide +kernel
theorem dX6_restore_11 : decode cX6_restore 11 = .ok (.goto 17, 3) := by decide +kernel
theorem dX6_restore_14 : decode cX6_restore 14 = .ok (.aload_n 0, 1) := by decide +kernel
theorem dX6_restore_15 : decode cX6_restore 15 = .ok (.getfield 26, 3) := by decide +kernel
theorem dX6_restore_18 : decode cX6_restore 18 = .ok (.iload_n 1, 1) := by decide +kernel
theorem dX6_restore_19 : decode cX6_restore 19 = .ok (.baload, 1) := by decide +kernel
theorem dX6_restore_20 : decode cX6_restore 20 = .ok (.ifCond .eq 7, 3) := by decide +kernel
theorem dX6_restore_23 : decode cX6_restore 23 = .ok (.iconst 0, 1) := by decide +kernel
theorem dX6_restore_24 : decode cX6_restore 24 = .ok (.goto 4, 3) := by decide +kernel
theorem dX6_restore_27 : decode cX6_restore 27 = .ok (.iconst 2, 1) := by decide +kernel
theorem dX6_restore_28 : decode cX6_restore 28 = .ok (.putfield 47, 3) := by decide +kernel
theorem dX6_restore_31 : decode cX6_restore 31 = .ok (.aload_n 0, 1) := by decide +kernel
theorem dX6_restore_32 : decode cX6_restore 32 = .ok (.getfield 47, 3) := by decide +kernel
theorem dX6_restore_35 : decode cX6_restore 35 = .ok (.ifCond .le 5, 3) := by decide +kernel
theorem dX6_restore_38 : decode cX6_restore 38 = .ok (.iconst 0, 1) := by decide +kernel
theorem dX6_restore_39 : decode cX6_restore 39 = .ok (.ireturn, 1) := by decide +kernel
theorem dX6_restore_40 : decode cX6_restore 40 = .ok (.aload_n 0, 1) := by decide +kernel
theorem dX6_restore_41 : decode cX6_restore 41 = .ok (.invokevirtual 167, 3) := by decide +kernel
theorem dX6_restore_44 : decode cX6_restore 44 = .ok (.aload_n 0, 1) := by decide +kernel
theorem dX6_restore_45 : decode cX6_restore 45 = .ok (.getfield 7, 3) := by decide +kernel
theorem dX6_restore_48 : decode cX6_restore 48 = .ok (.iconst 0, 1) := by decide +kernel
theorem dX6_restore_49 : decode cX6_restore 49 = .ok (.aload_n 0, 1) := by decide +kernel
theorem dX6_restore_50 : decode cX6_restore 50 = .ok (.getfield 23, 3) := by decide +kernel
theorem dX6_restore_53 : decode cX6_restore 53 = .ok (.sipush 4136, 3) := by decide +kernel
theorem dX6_restore_56 : decode cX6_restore 56 = .ok (.iload_n 1, 1) := by decide +kernel
theorem dX6_restore_57 : decode cX6_restore 57 = .ok (.imul, 1) := by decide +kernel
theorem dX6_restore_58 : decode cX6_restore 58 = .ok (.invokestatic 53, 3) := by decide +kernel
theorem dX6_restore_61 : decode cX6_restore 61 = .ok (.aload_n 0, 1) := by decide +kernel
theorem dX6_restore_62 : decode cX6_restore 62 = .ok (.getfield 7, 3) := by decide +kernel
theorem dX6_restore_65 : decode cX6_restore 65 = .ok (.iconst 3, 1) := by decide +kernel
theorem dX6_restore_66 : decode cX6_restore 66 = .ok (.iaload, 1) := by decide +kernel
theorem dX6_restore_67 : decode cX6_restore 67 = .ok (.ireturn, 1) := by decide +kernel
theorem dJ6_bitCount_0f7a4_0 : decode cJ6_bitCount_0f7a4 0 = .ok (.iload_n 0, 1) := by decide +kernel
theorem dJ6_bitCount_0f7a4_1 : decode cJ6_bitCount_0f7a4 1 = .ok (.iload_n 0, 1) := by decide +kernel
theorem dJ6_bitCount_0f7a4_2 : decode cJ6_bitCount_0f7a4 2 = .ok (.iconst 1, 1) := by decide +kernel
theorem dJ6_bitCount_0f7a4_3 : decode cJ6_bitCount_0f7a4 3 = .ok (.iushr, 1) := by decide +kernel
theorem dJ6_bitCount_0f7a4_4 : decode cJ6_bitCount_0f7a4 4 = .ok (.ldc_w 265, 3) := by decide +kernel
theorem dJ6_bitCount_0f7a4_7 : decode cJ6_bitCount_0f7a4 7 = .ok (.iand, 1) := by decide +kernel
theorem dJ6_bitCount_0f7a4_8 : decode cJ6_bitCount_0f7a4 8 = .ok (.isub, 1) := by decide +kernel
theorem dJ6_bitCount_0f7a4_9 : decode cJ6_bitCount_0f7a4 9 = .ok (.istore_n 0, 1) := by decide +kernel
theorem dJ6_bitCount_0f7a4_10 : decode cJ6_bitCount_0f7a4 10 = .ok (.iload_n 0, 1) := by decide +kernel
theorem dJ6_bitCount_0f7a4_11 : decode cJ6_bitCount_0f7a4 11 = .ok (.ldc_w 266, 3) := by decide +kernel
theorem dJ6_bitCount_0f7a4_14 : decode cJ6_bitCount_0f7a4 14 = .ok (.iand, 1) := by decide +kernel
theorem dJ6_bitCount_0f7a4_15 : decode cJ6_bitCount_0f7a4 15 = .ok (.iload_n 0, 1) := by decide +kernel
theorem dJ6_bitCount_0f7a4_16 : decode cJ6_bitCount_0f7a4 16 = .ok (.iconst 2, 1) := by decide +kernel
theorem dJ6_bitCount_0f7a4_17 : decode cJ6_bitCount_0f7a4 17 = .ok (.iushr, 1) := by decide +kernel
theorem dJ6_bitCount_0f7a4_18 : decode cJ6_bitCount_0f7a4 18 = .ok (.ldc_w 266, 3) := by decide +kernel
theorem dJ6_bitCount_0f7a4_21 : decode cJ6_bitCount_0f7a4 21 = .ok (.iand, 1) := by decide +kernel
theorem dJ6_bitCount_0f7a4_22 : decode cJ6_bitCount_0f7a4 22 = .ok (.iadd, 1) := by decide +kernel
theorem dJ6_bitCount_0f7a4_23 : decode cJ6_bitCount_0f7a4 23 = .ok (.istore_n 0, 1) := by decide +kernel
theorem dJ6_bitCount_0f7a4_24 : decode cJ6_bitCount_0f7a4 24 = .ok (.iload_n 0, 1) := by decide +kernel
theorem dJ6_bitCount_0f7a4_25 : decode cJ6_bitCount_0f7a4 25 = .ok (.iload_n 0, 1) := by decide +kernel
theorem dJ6_bitCount_0f7a4_26 : decode cJ6_bitCount_0f7a4 26 = .ok (.iconst 4, 1) := by decide +kernel
theorem dJ6_bitCount_0f7a4_27 : decode cJ6_bitCount_0f7a4 27 = .ok (.iushr, 1) := by decide +kernel
theorem dJ6_bitCount_0f7a4_28 : decode cJ6_bitCount_0f7a4 28 = .ok (.iadd, 1) := by decide +kernel
theorem dJ6_bitCount_0f7a4_29 : decode cJ6_bitCount_0f7a4 29 = .ok (.ldc_w 267, 3) := by decide +kernel
theorem dJ6_bitCount_0f7a4_32 : decode cJ6_bitCount_0f7a4 32 = .ok (.iand, 1) := by decide +kernel
theorem dJ6_bitCount_0f7a4_33 : decode cJ6_bitCount_0f7a4 33 = .ok (.istore_n 0, 1) := by decide +kernel
theorem dJ6_bitCount_0f7a4_34 : decode cJ6_bitCount_0f7a4 34 = .ok (.iload_n 0, 1) := by decide +kernel
theorem dJ6_bitCount_0f7a4_35 : decode cJ6_bitCount_0f7a4 35 = .ok (.iload_n 0, 1) := by decide +kernel
theorem dJ6_bitCount_0f7a4_36 : decode cJ6_bitCount_0f7a4 36 = .ok (.bipush 8, 2) := by decide +kernel
theorem dJ6_bitCount_0f7a4_38 : decode cJ6_bitCount_0f7a4 38 = .ok (.iushr, 1) := by decide +kernel
theorem dJ6_bitCount_0f7a4_39 : decode cJ6_bitCount_0f7a4 39 = .ok (.iadd, 1) := by decide +kernel
theorem dJ6_bitCount_0f7a4_40 : decode cJ6_bitCount_0f7a4 40 = .ok (.istore_n 0, 1) := by decide +kernel
theorem dJ6_bitCount_0f7a4_41 : decode cJ6_bitCount_0f7a4 41 = .ok (.iload_n 0, 1) := by decide +kernel
theorem dJ6_bitCount_0f7a4_42 : decode cJ6_bitCount_0f7a4 42 = .ok (.iload_n 0, 1) := by decide +kernel
theorem dJ6_bitCount_0f7a4_43 : decode cJ6_bitCount_0f7a4 43 = .ok (.bipush 16, 2) := by decide +kernel
theorem dJ6_bitCount_0f7a4_45 : decode cJ6_bitCount_0f7a4 45 = .ok (.iushr, 1) := by decide +kernel
theorem dJ6_bitCount_0f7a4_46 : decode cJ6_bitCount_0f7a4 46 = .ok (.iadd, 1) := by decide +kernel
theorem dJ6_bitCount_0f7a4_47 : decode cJ6_bitCount_0f7a4 47 = .ok (.istore_n 0, 1) := by decide +kernel
theorem dJ6_bitCount_0f7a4_48 : decode cJ6_bitCount_0f7a4 48 = .ok (.iload_n 0, 1) := by decide +kernel
theorem dJ6_bitCount_0f7a4_49 : decode cJ6_bitCount_0f7a4 49 = .ok (.bipush 63, 2) := by decide +kernel
theorem dJ6_bitCount_0f7a4_51 : decode cJ6_bitCount_0f7a4 51 = .ok (.iand, 1) := by decide +kernel
theorem dJ6_bitCount_0f7a4_52 : decode cJ6_bitCount_0f7a4 52 = .ok (.ireturn, 1) := by decide +kernel
theorem dJ9_max_7cf53_0 : decode cJ9_max_7cf53 0 = .ok (.iload_n 0, 1) := by decide +kernel
theorem dJ9_max_7cf53_1 : decode cJ9_max_7cf53 1 = .ok (.iload_n 1, 1) := by decide +kernel
theorem dJ9_max_7cf53_2 : decode cJ9_max_7cf53 2 = .ok (.if_icmp .lt 7, 3) := by decide +kernel
theorem dJ9_max_7cf53_5 : decode cJ9_max_7cf53 5 = .ok (.iload_n 0, 1) := by decide +kernel
theorem dJ9_max_7cf53_6 : decode cJ9_max_7cf53 6 = .ok (.goto 4, 3) := by decide +kernel
theorem dJ9_max_7cf53_9 : decode cJ9_max_7cf53 9 = .ok (.iload_n 1, 1) := by decide +kernel
theorem dJ9_max_7cf53_10 : decode cJ9_max_7cf53 10 = .ok (.ireturn, 1) := by decide +kernel
theorem dJ9_min_7cf53_0 : decode cJ9_min_7cf53 0 = .ok (.iload_n 0, 1) := by decide +kernel
theorem dJ9_min_7cf53_1 : decode cJ9_min_7cf53 1 = .ok (.iload_n 1, 1) := by decide +kernel
theorem dJ9_min_7cf53_2 : decode cJ9_min_7cf53 2 = .ok (.if_icmp .gt 7, 3) := by decide +kernel
theorem dJ9_min_7cf53_5 : decode cJ9_min_7cf53 5 = .ok (.iload_n 0, 1) := by decide +kernel
theorem dJ9_min_7cf53_6 : decode cJ9_min_7cf53 6 = .ok (.goto 4, 3) := by decide +kernel
theorem dJ9_min_7cf53_9 : decode cJ9_min_7cf53 9 = .ok (.iload_n 1, 1) := by decide +kernel
theorem dJ9_min_7cf53_10 : decode cJ9_min_7cf53 10 = .ok (.ireturn, 1) := by decide +kernel
theorem dJ0_length_8abf5_0 : decode cJ0_length_8abf5 0 = .ok (.aload_n 0, 1) := by decide +kernel
theorem dJ0_length_8abf5_1 : decode cJ0_length_8abf5 1 = .ok (.getfield 9, 3) := by decide +kernel
theorem dJ0_length_8abf5_4 : decode cJ0_length_8abf5 4 = .ok (.arraylength, 1) := by decide +kernel
theorem dJ0_length_8abf5_5 : decode cJ0_length_8abf5 5 = .ok (.aload_n 0, 1) := by decide +kernel
theorem dJ0_length_8abf5_6 : decode cJ0_length_8abf5 6 = .ok (.invokevirtual 335, 3) := by decide +kernel
theorem dJ0_length_8abf5_9 : decode cJ0_length_8abf5 9 = .ok (.ishr, 1) := by decide +kernel
theorem dJ0_length_8abf5_10 : decode cJ0_length_8abf5 10 = .ok (.ireturn, 1) := by decide +kernel
theorem dJ0_charAt_5068e_0 : decode cJ0_charAt_5068e 0 = .ok (.aload_n 0, 1) := by decide +kernel
theorem dJ0_charAt_5068e_1 : decode cJ0_charAt_5068e 1 = .ok (.invokevirtual 492, 3) := by decide +kernel
theorem dJ0_charAt_5068e_4 : decode cJ0_charAt_5068e 4 = .ok (.ifCond .eq 12, 3) := by decide +kernel
theorem dJ0_charAt_5068e_7 : decode cJ0_charAt_5068e 7 = .ok (.aload_n 0, 1) := by decide +kernel
theorem dJ0_charAt_5068e_8 : decode cJ0_charAt_5068e 8 = .ok (.getfield 9, 3) := by decide +kernel
theorem dJ0_charAt_5068e_11 : decode cJ0_charAt_5068e 11 = .ok (.iload_n 1, 1) := by decide +kernel
theorem dJ0_charAt_5068e_12 : decode cJ0_charAt_5068e 12 = .ok (.invokestatic 495, 3) := by decide +kernel
theorem dJ0_charAt_5068e_15 : decode cJ0_charAt_5068e 15 = .ok (.ireturn, 1) := by decide +kernel
theorem dJ0_charAt_5068e_16 : decode cJ0_charAt_5068e 16 = .ok (.aload_n 0, 1) := by decide +kernel
theorem dJ0_charAt_5068e_17 : decode cJ0_charAt_5068e 17 = .ok (.getfield 9, 3) := by decide +kernel
theorem dJ0_charAt_5068e_20 : decode cJ0_charAt_5068e 20 = .ok (.iload_n 1, 1) := by decide +kernel
theorem dJ0_charAt_5068e_21 : decode cJ0_charAt_5068e 21 = .ok (.invokestatic 498, 3) := by decide +kernel
theorem dJ0_charAt_5068e_24 : decode cJ0_charAt_5068e 24 = .ok (.ireturn, 1) := by decide +kernel
theorem dJ0_coder_7d493_0 : decode cJ0_coder_7d493 0 = .ok (.getstatic 38, 3) := by decide +kernel
theorem dJ0_coder_7d493_3 : decode cJ0_coder_7d493 3 = .ok (.ifCond .eq 10, 3) := by decide +kernel
theorem dJ0_coder_7d493_6 : decode cJ0_coder_7d493 6 = .ok (.aload_n 0, 1) := by decide +kernel
theorem dJ0_coder_7d493_7 : decode cJ0_coder_7d493 7 = .ok (.getfield 15, 3) := by decide +kernel
theorem dJ0_coder_7d493_10 : decode cJ0_coder_7d493 10 = .ok (.goto 4, 3) := by decide +kernel
theorem dJ0_coder_7d493_13 : decode cJ0_coder_7d493 13 = .ok (.iconst 1, 1) := by decide +kernel
theorem dJ0_coder_7d493_14 : decode cJ0_coder_7d493 14 = .ok (.ireturn, 1) := by decide +kernel
theorem dJ0_isLatin1_aae02_0 : decode cJ0_isLatin1_aae02 0 = .ok (.getstatic 38, 3) := by decide +kernel
theorem dJ0_isLatin1_aae02_3 : decode cJ0_isLatin1_aae02 3 = .ok (.ifCond .eq 14, 3) := by decide +kernel
theorem dJ0_isLatin1_aae02_6 : decode cJ0_isLatin1_aae02 6 = .ok (.aload_n 0, 1) := by decide +kernel
theorem dJ0_isLatin1_aae02_7 : decode cJ0_isLatin1_aae02 7 = .ok (.getfield 15, 3) := by decide +kernel
theorem dJ0_isLatin1_aae02_10 : decode cJ0_isLatin1_aae02 10 = .ok (.ifCond .ne 7, 3) := by decide +kernel
theorem dJ0_isLatin1_aae02_13 : decode cJ0_isLatin1_aae02 13 = .ok (.iconst 1, 1) := by decide +kernel
theorem dJ0_isLatin1_aae02_14 : decode cJ0_isLatin1_aae02 14 = .ok (.goto 4, 3) := by decide +kernel
theorem dJ0_isLatin1_aae02_17 : decode cJ0_isLatin1_aae02 17 = .ok (.iconst 0, 1) := by decide +kernel
theorem dJ0_isLatin1_aae02_18 : decode cJ0_isLatin1_aae02 18 = .ok (.ireturn, 1) := by decide +kernel
theorem dJ0_checkIndex_df160_0 : decode cJ0_checkIndex_df160 0 = .ok (.iload_n 0, 1) := by decide +kernel
theorem dJ0_checkIndex_df160_1 : decode cJ0_checkIndex_df160 1 = .ok (.iload_n 1, 1) := by decide +kernel
theorem dJ0_checkIndex_df160_2 : decode cJ0_checkIndex_df160 2 = .ok (.getstatic 1053, 3) := by decide +kernel
theorem dJ0_checkIndex_df160_5 : decode cJ0_checkIndex_df160 5 = .ok (.invokestatic 1059, 3) := by decide +kernel
theorem dJ0_checkIndex_df160_8 : decode cJ0_checkIndex_df160 8 = .ok (.pop, 1) := by decide +kernel
theorem dJ0_checkIndex_df160_9 : decode cJ0_checkIndex_df160 9 = .ok (.return_, 1) := by decide +kernel
theorem dJ1_charAt_3b067_0 : decode cJ1_charAt_3b067 0 = .ok (.iload_n 1, 1) := by decide +kernel
theorem dJ1_charAt_3b067_1 : decode cJ1_charAt_3b067 1 = .ok (.aload_n 0, 1) := by decide +kernel
theorem dJ1_charAt_3b067_2 : decode cJ1_charAt_3b067 2 = .ok (.arraylength, 1) := by decide +kernel
theorem dJ1_charAt_3b067_3 : decode cJ1_charAt_3b067 3 = .ok (.invokestatic 9, 3) := by decide +kernel
theorem dJ1_charAt_3b067_6 : decode cJ1_charAt_3b067 6 = .ok (.aload_n 0, 1) := by decide +kernel
theorem dJ1_charAt_3b067_7 : decode cJ1_charAt_3b067 7 = .ok (.iload_n 1, 1) := by decide +kernel
theorem dJ1_charAt_3b067_8 : decode cJ1_charAt_3b067 8 = .ok (.baload, 1) := by decide +kernel
theorem dJ1_charAt_3b067_9 : decode cJ1_charAt_3b067 9 = .ok (.sipush 255, 3) := by decide +kernel
theorem dJ1_charAt_3b067_12 : decode cJ1_charAt_3b067 12 = .ok (.iand, 1) := by decide +kernel
theorem dJ1_charAt_3b067_13 : decode cJ1_charAt_3b067 13 = .ok (.i2c, 1) := by decide +kernel
theorem dJ1_charAt_3b067_14 : decode cJ1_charAt_3b067 14 = .ok (.ireturn, 1) := by decide +kernel
theorem dJ2_getChar_3b067_0 : decode cJ2_getChar_3b067 0 = .ok (.getstatic 44, 3) := by decide +kernel
theorem dJ2_getChar_3b067_3 : decode cJ2_getChar_3b067 3 = .ok (.ifCond .ne 25, 3) := by decide +kernel
theorem dJ2_getChar_3b067_6 : decode cJ2_getChar_3b067 6 = .ok (.iload_n 1, 1) := by decide +kernel
theorem dJ2_getChar_3b067_7 : decode cJ2_getChar_3b067 7 = .ok (.ifCond .lt 11, 3) := by decide +kernel
theorem dJ2_getChar_3b067_10 : decode cJ2_getChar_3b067 10 = .ok (.iload_n 1, 1) := by decide +kernel
theorem dJ2_getChar_3b067_11 : decode cJ2_getChar_3b067 11 = .ok (.aload_n 0, 1) := by decide +kernel
theorem dJ2_getChar_3b067_12 : decode cJ2_getChar_3b067 12 = .ok (.invokestatic 48, 3) := by decide +kernel
theorem dJ2_getChar_3b067_15 : decode cJ2_getChar_3b067 15 = .ok (.if_icmp .lt 13, 3) := by decide +kernel
theorem dJ2_getChar_3b067_18 : decode cJ2_getChar_3b067 18 = .ok (.new 52, 3) := by decide +kernel
theorem dJ2_getChar_3b067_21 : decode cJ2_getChar_3b067 21 = .ok (.dup, 1) := by decide +kernel
theorem dJ2_getChar_3b067_22 : decode cJ2_getChar_3b067 22 = .ok (.ldc 54, 2) := by decide +kernel
theorem dJ2_getChar_3b067_24 : decode cJ2_getChar_3b067 24 = .ok (.invokespecial 56, 3) := by decide +kernel
theorem dJ2_getChar_3b067_27 : decode cJ2_getChar_3b067 27 = .ok (.athrow, 1) := by decide +kernel
theorem dJ2_getChar_3b067_28 : decode cJ2_getChar_3b067 28 = .ok (.iload_n 1, 1) := by decide +kernel
theorem dJ2_getChar_3b067_29 : decode cJ2_getChar_3b067 29 = .ok (.iconst 1, 1) := by decide +kernel
theorem dJ2_getChar_3b067_30 : decode cJ2_getChar_3b067 30 = .ok (.ishl, 1) := by decide +kernel
theorem dJ2_getChar_3b067_31 : decode cJ2_getChar_3b067 31 = .ok (.istore_n 1, 1) := by decide +kernel
theorem dJ2_getChar_3b067_32 : decode cJ2_getChar_3b067 32 = .ok (.aload_n 0, 1) := by decide +kernel
theorem dJ2_getChar_3b067_33 : decode cJ2_getChar_3b067 33 = .ok (.iload_n 1, 1) := by decide +kernel
theorem dJ2_getChar_3b067_34 : decode cJ2_getChar_3b067 34 = .ok (.iinc 1 1, 3) := by decide +kernel
theorem dJ2_getChar_3b067_37 : decode cJ2_getChar_3b067 37 = .ok (.baload, 1) := by decide +kernel
theorem dJ2_getChar_3b067_38 : decode cJ2_getChar_3b067 38 = .ok (.sipush 255, 3) := by decide +kernel
theorem dJ2_getChar_3b067_41 : decode cJ2_getChar_3b067 41 = .ok (.iand, 1) := by decide +kernel
theorem dJ2_getChar_3b067_42 : decode cJ2_getChar_3b067 42 = .ok (.getstatic 59, 3) := by decide +kernel
theorem dJ2_getChar_3b067_45 : decode cJ2_getChar_3b067 45 = .ok (.ishl, 1) := by decide +kernel
theorem dJ2_getChar_3b067_46 : decode cJ2_getChar_3b067 46 = .ok (.aload_n 0, 1) := by decide +kernel
theorem dJ2_getChar_3b067_47 : decode cJ2_getChar_3b067 47 = .ok (.iload_n 1, 1) := by decide +kernel
theorem dJ2_getChar_3b067_48 : decode cJ2_getChar_3b067 48 = .ok (.baload, 1) := by decide +kernel
theorem dJ2_getChar_3b067_49 : decode cJ2_getChar_3b067 49 = .ok (.sipush 255, 3) := by decide +kernel
theorem dJ2_getChar_3b067_52 : decode cJ2_getChar_3b067 52 = .ok (.iand, 1) := by decide +kernel
theorem dJ2_getChar_3b067_53 : decode cJ2_getChar_3b067 53 = .ok (.getstatic 63, 3) := by decide +kernel
theorem dJ2_getChar_3b067_56 : decode cJ2_getChar_3b067 56 = .ok (.ishl, 1) := by decide +kernel
theorem dJ2_getChar_3b067_57 : decode cJ2_getChar_3b067 57 = .ok (.ior, 1) := by decide +kernel
theorem dJ2_getChar_3b067_58 : decode cJ2_getChar_3b067 58 = .ok (.i2c, 1) := by decide +kernel
theorem dJ2_getChar_3b067_59 : decode cJ2_getChar_3b067 59 = .ok (.ireturn, 1) := by decide +kernel
theorem dJ2_length_9d52b_0 : decode cJ2_length_9d52b 0 = .ok (.aload_n 0, 1) := by decide +kernel
theorem dJ2_length_9d52b_1 : decode cJ2_length_9d52b 1 = .ok (.arraylength, 1) := by decide +kernel
theorem dJ2_length_9d52b_2 : decode cJ2_length_9d52b 2 = .ok (.iconst 1, 1) := by decide +kernel
theorem dJ2_length_9d52b_3 : decode cJ2_length_9d52b 3 = .ok (.ishr, 1) := by decide +kernel
theorem dJ2_length_9d52b_4 : decode cJ2_length_9d52b 4 = .ok (.ireturn, 1) := by decide +kernel
theorem dJ2_charAt_3b067_0 : decode cJ2_charAt_3b067 0 = .ok (.iload_n 1, 1) := by decide +kernel
theorem dJ2_charAt_3b067_1 : decode cJ2_charAt_3b067 1 = .ok (.aload_n 0, 1) := by decide +kernel
theorem dJ2_charAt_3b067_2 : decode cJ2_charAt_3b067 2 = .ok (.invokestatic 67, 3) := by decide +kernel
theorem dJ2_charAt_3b067_5 : decode cJ2_charAt_3b067 5 = .ok (.aload_n 0, 1) := by decide +kernel
theorem dJ2_charAt_3b067_6 : decode cJ2_charAt_3b067 6 = .ok (.iload_n 1, 1) := by decide +kernel
theorem dJ2_charAt_3b067_7 : decode cJ2_charAt_3b067 7 = .ok (.invokestatic 71, 3) := by decide +kernel
theorem dJ2_charAt_3b067_10 : decode cJ2_charAt_3b067 10 = .ok (.ireturn, 1) := by decide +kernel
theorem dJ2_checkIndex_2214a_0 : decode cJ2_checkIndex_2214a 0 = .ok (.iload_n 0, 1) := by decide +kernel
theorem dJ2_checkIndex_2214a_1 : decode cJ2_checkIndex_2214a 1 = .ok (.aload_n 1, 1) := by decide +kernel
theorem dJ2_checkIndex_2214a_2 : decode cJ2_checkIndex_2214a 2 = .ok (.invokestatic 48, 3) := by decide +kernel
theorem dJ2_checkIndex_2214a_5 : decode cJ2_checkIndex_2214a 5 = .ok (.invokestatic 414, 3) := by decide +kernel
theorem dJ2_checkIndex_2214a_8 : decode cJ2_checkIndex_2214a 8 = .ok (.return_, 1) := by decide +kernel
theorem dJ3_checkIndex_8e157_0 : decode cJ3_checkIndex_8e157 0 = .ok (.iload_n 0, 1) := by decide +kernel
theorem dJ3_checkIndex_8e157_1 : decode cJ3_checkIndex_8e157 1 = .ok (.ifCond .lt 8, 3) := by decide +kernel
theorem dJ3_checkIndex_8e157_4 : decode cJ3_checkIndex_8e157 4 = .ok (.iload_n 0, 1) := by decide +kernel
theorem dJ3_checkIndex_8e157_5 : decode cJ3_checkIndex_8e157 5 = .ok (.iload_n 1, 1) := by decide +kernel
theorem dJ3_checkIndex_8e157_6 : decode cJ3_checkIndex_8e157 6 = .ok (.if_icmp .lt 10, 3) := by decide +kernel
theorem dJ3_checkIndex_8e157_9 : decode cJ3_checkIndex_8e157 9 = .ok (.aload_n 2, 1) := by decide +kernel
theorem dJ3_checkIndex_8e157_10 : decode cJ3_checkIndex_8e157 10 = .ok (.iload_n 0, 1) := by decide +kernel
theorem dJ3_checkIndex_8e157_11 : decode cJ3_checkIndex_8e157 11 = .ok (.iload_n 1, 1) := by decide +kernel
theorem dJ3_checkIndex_8e157_12 : decode cJ3_checkIndex_8e157 12 = .ok (.invokestatic 95, 3) := by decide +kernel
theorem dJ3_checkIndex_8e157_15 : decode cJ3_checkIndex_8e157 15 = .ok (.athrow, 1) := by decide +kernel
theorem dJ3_checkIndex_8e157_16 : decode cJ3_checkIndex_8e157 16 = .ok (.iload_n 0, 1) := by decide +kernel
theorem dJ3_checkIndex_8e157_17 : decode cJ3_checkIndex_8e157 17 = .ok (.ireturn, 1) := by decide +kernel
theorem dL_append_0 : decode cL_append 0 = .ok (.aload 6, 2) := by decide +kernel
theorem dL_append_2 : decode cL_append 2 = .ok (.iconst 0, 1) := by decide +kernel
theorem dL_append_3 : decode cL_append 3 = .ok (.aload_n 0, 1) := by decide +kernel
theorem dL_append_4 : decode cL_append 4 = .ok (.iload_n 1, 1) := by decide +kernel
theorem dL_append_5 : decode cL_append 5 = .ok (.iload_n 2, 1) := by decide +kernel
theorem dL_append_6 : decode cL_append 6 = .ok (.iload_n 3, 1) := by decide +kernel
theorem dL_append_7 : decode cL_append 7 = .ok (.iload 4, 2) := by decide +kernel
theorem dL_append_9 : decode cL_append 9 = .ok (.iload 5, 2) := by decide +kernel
theorem dL_append_11 : decode cL_append 11 = .ok (.invokevirtual 7, 3) := by decide +kernel
theorem dL_append_14 : decode cL_append 14 = .ok (.i2l, 1) := by decide +kernel
theorem dL_append_15 : decode cL_append 15 = .ok (.lastore, 1) := by decide +kernel
theorem dL_append_16 : decode cL_append 16 = .ok (.goto 7, 3) := by decide +kernel
theorem dL_append_19 : decode cL_append 19 = .ok (.astore 7, 2) := by decide +kernel
theorem dL_append_21 : decode cL_append 21 = .ok (.iconst 1, 1) := by decide +kernel
theorem dL_append_22 : decode cL_append 22 = .ok (.ireturn, 1) := by decide +kernel
theorem dL_append_23 : decode cL_append 23 = .ok (.iconst 0, 1) := by decide +kernel
theorem dL_append_24 : decode cL_append 24 = .ok (.ireturn, 1) := by decide +kernel
theorem dL_load_0 : decode cL_load 0 = .ok (.aload_n 2, 1) := by decide +kernel
theorem dL_load_1 : decode cL_load 1 = .ok (.iconst 0, 1) := by decide +kernel
theorem dL_load_2 : decode cL_load 2 = .ok (.aload_n 0, 1) := by decide +kernel
theorem dL_load_3 : decode cL_load 3 = .ok (.iload_n 1, 1) := by decide +kernel
theorem dL_load_4 : decode cL_load 4 = .ok (.invokevirtual 15, 3) := by decide +kernel
theorem dL_load_7 : decode cL_load 7 = .ok (.i2l, 1) := by decide +kernel
theorem dL_load_8 : decode cL_load 8 = .ok (.lastore, 1) := by decide +kernel
theorem dL_load_9 : decode cL_load 9 = .ok (.goto 6, 3) := by decide +kernel
theorem dL_load_12 : decode cL_load 12 = .ok (.astore_n 3, 1) := by decide +kernel
theorem dL_load_13 : decode cL_load 13 = .ok (.iconst 1, 1) := by decide +kernel
theorem dL_load_14 : decode cL_load 14 = .ok (.ireturn, 1) := by decide +kernel
theorem dL_load_15 : decode cL_load 15 = .ok (.iconst 0, 1) := by decide +kernel
theorem dL_load_16 : decode cL_load 16 = .ok (.ireturn, 1) := by decide +kernel
theorem dL_count_0 : decode cL_count 0 = .ok (.aload_n 2, 1) := by decide +kernel
theorem dL_count_1 : decode cL_count 1 = .ok (.iconst 0, 1) := by decide +kernel
theorem dL_count_2 : decode cL_count 2 = .ok (.aload_n 0, 1) := by decide +kernel
theorem dL_count_3 : decode cL_count 3 = .ok (.iload_n 1, 1) := by decide +kernel
theorem dL_count_4 : decode cL_count 4 = .ok (.invokevirtual 21, 3) := by decide +kernel
theorem dL_count_7 : decode cL_count 7 = .ok (.i2l, 1) := by decide +kernel
theorem dL_count_8 : decode cL_count 8 = .ok (.lastore, 1) := by decide +kernel
theorem dL_count_9 : decode cL_count 9 = .ok (.goto 6, 3) := by decide +kernel
theorem dL_count_12 : decode cL_count 12 = .ok (.astore_n 3, 1) := by decide +kernel
theorem dL_count_13 : decode cL_count 13 = .ok (.iconst 1, 1) := by decide +kernel
theorem dL_count_14 : decode cL_count 14 = .ok (.ireturn, 1) := by decide +kernel
theorem dL_count_15 : decode cL_count 15 = .ok (.iconst 0, 1) := by decide +kernel
theorem dL_count_16 : decode cL_count 16 = .ok (.ireturn, 1) := by decide +kernel
theorem dL_vertex_0 : decode cL_vertex 0 = .ok (.aload_n 3, 1) := by decide +kernel
theorem dL_vertex_1 : decode cL_vertex 1 = .ok (.iconst 0, 1) := by decide +kernel
theorem dL_vertex_2 : decode cL_vertex 2 = .ok (.aload_n 0, 1) := by decide +kernel
theorem dL_vertex_3 : decode cL_vertex 3 = .ok (.iload_n 1, 1) := by decide +kernel
theorem dL_vertex_4 : decode cL_vertex 4 = .ok (.iload_n 2, 1) := by decide +kernel
theorem dL_vertex_5 : decode cL_vertex 5 = .ok (.invokevirtual 24, 3) := by decide +kernel
theorem dL_vertex_8 : decode cL_vertex 8 = .ok (.i2l, 1) := by decide +kernel
theorem dL_vertex_9 : decode cL_vertex 9 = .ok (.lastore, 1) := by decide +kernel
theorem dL_vertex_10 : decode cL_vertex 10 = .ok (.goto 11, 3) := by decide +kernel
theorem dL_vertex_13 : decode cL_vertex 13 = .ok (.astore 4, 2) := by decide +kernel
theorem dL_vertex_15 : decode cL_vertex 15 = .ok (.iconst 1, 1) := by decide +kernel
theorem dL_vertex_16 : decode cL_vertex 16 = .ok (.ireturn, 1) := by decide +kernel
theorem dL_vertex_17 : decode cL_vertex 17 = .ok (.astore 4, 2) := by decide +kernel
theorem dL_vertex_19 : decode cL_vertex 19 = .ok (.iconst 2, 1) := by decide +kernel
theorem dL_vertex_20 : decode cL_vertex 20 = .ok (.ireturn, 1) := by decide +kernel
theorem dL_vertex_21 : decode cL_vertex 21 = .ok (.iconst 0, 1) := by decide +kernel
theorem dL_vertex_22 : decode cL_vertex 22 = .ok (.ireturn, 1) := by decide +kernel
theorem dL_reason_0 : decode cL_reason 0 = .ok (.aload_n 3, 1) := by decide +kernel
theorem dL_reason_1 : decode cL_reason 1 = .ok (.iconst 0, 1) := by decide +kernel
theorem dL_reason_2 : decode cL_reason 2 = .ok (.aload_n 0, 1) := by decide +kernel
theorem dL_reason_3 : decode cL_reason 3 = .ok (.iload_n 1, 1) := by decide +kernel
theorem dL_reason_4 : decode cL_reason 4 = .ok (.iload_n 2, 1) := by decide +kernel
theorem dL_reason_5 : decode cL_reason 5 = .ok (.invokevirtual 30, 3) := by decide +kernel
theorem dL_reason_8 : decode cL_reason 8 = .ok (.i2l, 1) := by decide +kernel
theorem dL_reason_9 : decode cL_reason 9 = .ok (.lastore, 1) := by decide +kernel
theorem dL_reason_10 : decode cL_reason 10 = .ok (.goto 7, 3) := by decide +kernel
theorem dL_reason_13 : decode cL_reason 13 = .ok (.astore 4, 2) := by decide +kernel
theorem dL_reason_15 : decode cL_reason 15 = .ok (.iconst 1, 1) := by decide +kernel
theorem dL_reason_16 : decode cL_reason 16 = .ok (.ireturn, 1) := by decide +kernel
theorem dL_reason_17 : decode cL_reason 17 = .ok (.iconst 0, 1) := by decide +kernel
theorem dL_reason_18 : decode cL_reason 18 = .ok (.ireturn, 1) := by decide +kernel
theorem dL_part_0 : decode cL_part 0 = .ok (.aload_n 3, 1) := by decide +kernel
theorem dL_part_1 : decode cL_part 1 = .ok (.iconst 0, 1) := by decide +kernel
theorem dL_part_2 : decode cL_part 2 = .ok (.aload_n 0, 1) := by decide +kernel
theorem dL_part_3 : decode cL_part 3 = .ok (.iload_n 1, 1) := by decide +kernel
theorem dL_part_4 : decode cL_part 4 = .ok (.iload_n 2, 1) := by decide +kernel
theorem dL_part_5 : decode cL_part 5 = .ok (.invokevirtual 33, 3) := by decide +kernel
theorem dL_part_8 : decode cL_part 8 = .ok (.i2l, 1) := by decide +kernel
theorem dL_part_9 : decode cL_part 9 = .ok (.lastore, 1) := by decide +kernel
theorem dL_part_10 : decode cL_part 10 = .ok (.goto 11, 3) := by decide +kernel
theorem dL_part_13 : decode cL_part 13 = .ok (.astore 4, 2) := by decide +kernel
theorem dL_part_15 : decode cL_part 15 = .ok (.iconst 1, 1) := by decide +kernel
theorem dL_part_16 : decode cL_part 16 = .ok (.ireturn, 1) := by decide +kernel
theorem dL_part_17 : decode cL_part 17 = .ok (.astore 4, 2) := by decide +kernel
theorem dL_part_19 : decode cL_part 19 = .ok (.iconst 2, 1) := by decide +kernel
theorem dL_part_20 : decode cL_part 20 = .ok (.ireturn, 1) := by decide +kernel
theorem dL_part_21 : decode cL_part 21 = .ok (.iconst 0, 1) := by decide +kernel
theorem dL_part_22 : decode cL_part 22 = .ok (.ireturn, 1) := by decide +kernel
theorem dL_valueIf_0 : decode cL_valueIf 0 = .ok (.aload_n 3, 1) := by decide +kernel
theorem dL_valueIf_1 : decode cL_valueIf 1 = .ok (.iconst 0, 1) := by decide +kernel
theorem dL_valueIf_2 : decode cL_valueIf 2 = .ok (.aload_n 0, 1) := by decide +kernel
theorem dL_valueIf_3 : decode cL_valueIf 3 = .ok (.iload_n 1, 1) := by decide +kernel
theorem dL_valueIf_4 : decode cL_valueIf 4 = .ok (.iload_n 2, 1) := by decide +kernel
theorem dL_valueIf_5 : decode cL_valueIf 5 = .ok (.invokevirtual 36, 3) := by decide +kernel
theorem dL_valueIf_8 : decode cL_valueIf 8 = .ok (.i2l, 1) := by decide +kernel
theorem dL_valueIf_9 : decode cL_valueIf 9 = .ok (.lastore, 1) := by decide +kernel
theorem dL_valueIf_10 : decode cL_valueIf 10 = .ok (.goto 11, 3) := by decide +kernel
theorem dL_valueIf_13 : decode cL_valueIf 13 = .ok (.astore 4, 2) := by decide +kernel
theorem dL_valueIf_15 : decode cL_valueIf 15 = .ok (.iconst 1, 1) := by decide +kernel
theorem dL_valueIf_16 : decode cL_valueIf 16 = .ok (.ireturn, 1) := by decide +kernel
theorem dL_valueIf_17 : decode cL_valueIf 17 = .ok (.astore 4, 2) := by decide +kernel
theorem dL_valueIf_19 : decode cL_valueIf 19 = .ok (.iconst 2, 1) := by decide +kernel
theorem dL_valueIf_20 : decode cL_valueIf 20 = .ok (.ireturn, 1) := by decide +kernel
theorem dL_valueIf_21 : decode cL_valueIf 21 = .ok (.iconst 0, 1) := by decide +kernel
theorem dL_valueIf_22 : decode cL_valueIf 22 = .ok (.ireturn, 1) := by decide +kernel
theorem dL_bestMove_0 : decode cL_bestMove 0 = .ok (.aload_n 1, 1) := by decide +kernel
theorem dL_bestMove_1 : decode cL_bestMove 1 = .ok (.iconst 0, 1) := by decide +kernel
theorem dL_bestMove_2 : decode cL_bestMove 2 = .ok (.aload_n 0, 1) := by decide +kernel
theorem dL_bestMove_3 : decode cL_bestMove 3 = .ok (.invokevirtual 41, 3) := by decide +kernel
theorem dL_bestMove_6 : decode cL_bestMove 6 = .ok (.i2l, 1) := by decide +kernel
theorem dL_bestMove_7 : decode cL_bestMove 7 = .ok (.lastore, 1) := by decide +kernel
theorem dL_bestMove_8 : decode cL_bestMove 8 = .ok (.goto 6, 3) := by decide +kernel
theorem dL_bestMove_11 : decode cL_bestMove 11 = .ok (.astore_n 2, 1) := by decide +kernel
theorem dL_bestMove_12 : decode cL_bestMove 12 = .ok (.iconst 1, 1) := by decide +kernel
theorem dL_bestMove_13 : decode cL_bestMove 13 = .ok (.ireturn, 1) := by decide +kernel
theorem dL_bestMove_14 : decode cL_bestMove 14 = .ok (.iconst 0, 1) := by decide +kernel
theorem dL_bestMove_15 : decode cL_bestMove 15 = .ok (.ireturn, 1) := by decide +kernel
theorem dL_winningColours_0 : decode cL_winningColours 0 = .ok (.aload_n 2, 1) := by decide +kernel
theorem dL_winningColours_1 : decode cL_winningColours 1 = .ok (.iconst 0, 1) := by decide +kernel
theorem dL_winningColours_2 : decode cL_winningColours 2 = .ok (.aload_n 0, 1) := by decide +kernel
theorem dL_winningColours_3 : decode cL_winningColours 3 = .ok (.iload_n 1, 1) := by decide +kernel
theorem dL_winningColours_4 : decode cL_winningColours 4 = .ok (.invokevirtual 45, 3) := by decide +kernel
theorem dL_winningColours_7 : decode cL_winningColours 7 = .ok (.i2l, 1) := by decide +kernel
theorem dL_winningColours_8 : decode cL_winningColours 8 = .ok (.lastore, 1) := by decide +kernel
theorem dL_winningColours_9 : decode cL_winningColours 9 = .ok (.goto 6, 3) := by decide +kernel
theorem dL_winningColours_12 : decode cL_winningColours 12 = .ok (.astore_n 3, 1) := by decide +kernel
theorem dL_winningColours_13 : decode cL_winningColours 13 = .ok (.iconst 1, 1) := by decide +kernel
theorem dL_winningColours_14 : decode cL_winningColours 14 = .ok (.ireturn, 1) := by decide +kernel
theorem dL_winningColours_15 : decode cL_winningColours 15 = .ok (.iconst 0, 1) := by decide +kernel
theorem dL_winningColours_16 : decode cL_winningColours 16 = .ok (.ireturn, 1) := by decide +kernel
theorem dL_falls_0 : decode cL_falls 0 = .ok (.aload_n 2, 1) := by decide +kernel
theorem dL_falls_1 : decode cL_falls 1 = .ok (.iconst 0, 1) := by decide +kernel
theorem dL_falls_2 : decode cL_falls 2 = .ok (.aload_n 0, 1) := by decide +kernel
theorem dL_falls_3 : decode cL_falls 3 = .ok (.iload_n 1, 1) := by decide +kernel
theorem dL_falls_4 : decode cL_falls 4 = .ok (.invokevirtual 48, 3) := by decide +kernel
theorem dL_falls_7 : decode cL_falls 7 = .ok (.i2l, 1) := by decide +kernel
theorem dL_falls_8 : decode cL_falls 8 = .ok (.lastore, 1) := by decide +kernel
theorem dL_falls_9 : decode cL_falls 9 = .ok (.goto 9, 3) := by decide +kernel
theorem dL_falls_12 : decode cL_falls 12 = .ok (.astore_n 3, 1) := by decide +kernel
theorem dL_falls_13 : decode cL_falls 13 = .ok (.iconst 1, 1) := by decide +kernel
theorem dL_falls_14 : decode cL_falls 14 = .ok (.ireturn, 1) := by decide +kernel
theorem dL_falls_15 : decode cL_falls 15 = .ok (.astore_n 3, 1) := by decide +kernel
theorem dL_falls_16 : decode cL_falls 16 = .ok (.iconst 2, 1) := by decide +kernel
theorem dL_falls_17 : decode cL_falls 17 = .ok (.ireturn, 1) := by decide +kernel
theorem dL_falls_18 : decode cL_falls 18 = .ok (.iconst 0, 1) := by decide +kernel
theorem dL_falls_19 : decode cL_falls 19 = .ok (.ireturn, 1) := by decide +kernel
theorem dL_valueWithout_0 : decode cL_valueWithout 0 = .ok (.aload_n 2, 1) := by decide +kernel
theorem dL_valueWithout_1 : decode cL_valueWithout 1 = .ok (.iconst 0, 1) := by decide +kernel
theorem dL_valueWithout_2 : decode cL_valueWithout 2 = .ok (.aload_n 0, 1) := by decide +kernel
theorem dL_valueWithout_3 : decode cL_valueWithout 3 = .ok (.iload_n 1, 1) := by decide +kernel
theorem dL_valueWithout_4 : decode cL_valueWithout 4 = .ok (.invokevirtual 51, 3) := by decide +kernel
theorem dL_valueWithout_7 : decode cL_valueWithout 7 = .ok (.i2l, 1) := by decide +kernel
theorem dL_valueWithout_8 : decode cL_valueWithout 8 = .ok (.lastore, 1) := by decide +kernel
theorem dL_valueWithout_9 : decode cL_valueWithout 9 = .ok (.goto 9, 3) := by decide +kernel
theorem dL_valueWithout_12 : decode cL_valueWithout 12 = .ok (.astore_n 3, 1) := by decide +kernel
theorem dL_valueWithout_13 : decode cL_valueWithout 13 = .ok (.iconst 1, 1) := by decide +kernel
theorem dL_valueWithout_14 : decode cL_valueWithout 14 = .ok (.ireturn, 1) := by decide +kernel
theorem dL_valueWithout_15 : decode cL_valueWithout 15 = .ok (.astore_n 3, 1) := by decide +kernel
theorem dL_valueWithout_16 : decode cL_valueWithout 16 = .ok (.iconst 2, 1) := by decide +kernel
theorem dL_valueWithout_17 : decode cL_valueWithout 17 = .ok (.ireturn, 1) := by decide +kernel
theorem dL_valueWithout_18 : decode cL_valueWithout 18 = .ok (.iconst 0, 1) := by decide +kernel
theorem dL_valueWithout_19 : decode cL_valueWithout 19 = .ok (.ireturn, 1) := by decide +kernel
theorem dL_lay_0 : decode cL_lay 0 = .ok (.aload_n 3, 1) := by decide +kernel
theorem dL_lay_1 : decode cL_lay 1 = .ok (.iconst 0, 1) := by decide +kernel
theorem dL_lay_2 : decode cL_lay 2 = .ok (.aload_n 0, 1) := by decide +kernel
theorem dL_lay_3 : decode cL_lay 3 = .ok (.iload_n 1, 1) := by decide +kernel
theorem dL_lay_4 : decode cL_lay 4 = .ok (.iload_n 2, 1) := by decide +kernel
theorem dL_lay_5 : decode cL_lay 5 = .ok (.invokevirtual 54, 3) := by decide +kernel
theorem dL_lay_8 : decode cL_lay 8 = .ok (.i2l, 1) := by decide +kernel
theorem dL_lay_9 : decode cL_lay 9 = .ok (.lastore, 1) := by decide +kernel
theorem dL_lay_10 : decode cL_lay 10 = .ok (.goto 11, 3) := by decide +kernel
theorem dL_lay_13 : decode cL_lay 13 = .ok (.astore 4, 2) := by decide +kernel
theorem dL_lay_15 : decode cL_lay 15 = .ok (.iconst 1, 1) := by decide +kernel
theorem dL_lay_16 : decode cL_lay 16 = .ok (.ireturn, 1) := by decide +kernel
theorem dL_lay_17 : decode cL_lay 17 = .ok (.astore 4, 2) := by decide +kernel
theorem dL_lay_19 : decode cL_lay 19 = .ok (.iconst 2, 1) := by decide +kernel
theorem dL_lay_20 : decode cL_lay 20 = .ok (.ireturn, 1) := by decide +kernel
theorem dL_lay_21 : decode cL_lay 21 = .ok (.iconst 0, 1) := by decide +kernel
theorem dL_lay_22 : decode cL_lay 22 = .ok (.ireturn, 1) := by decide +kernel
theorem dL_pass_0 : decode cL_pass 0 = .ok (.aload_n 1, 1) := by decide +kernel
theorem dL_pass_1 : decode cL_pass 1 = .ok (.iconst 0, 1) := by decide +kernel
theorem dL_pass_2 : decode cL_pass 2 = .ok (.aload_n 0, 1) := by decide +kernel
theorem dL_pass_3 : decode cL_pass 3 = .ok (.invokevirtual 57, 3) := by decide +kernel
theorem dL_pass_6 : decode cL_pass 6 = .ok (.i2l, 1) := by decide +kernel
theorem dL_pass_7 : decode cL_pass 7 = .ok (.lastore, 1) := by decide +kernel
theorem dL_pass_8 : decode cL_pass 8 = .ok (.goto 6, 3) := by decide +kernel
theorem dL_pass_11 : decode cL_pass 11 = .ok (.astore_n 2, 1) := by decide +kernel
theorem dL_pass_12 : decode cL_pass 12 = .ok (.iconst 1, 1) := by decide +kernel
theorem dL_pass_13 : decode cL_pass 13 = .ok (.ireturn, 1) := by decide +kernel
theorem dL_pass_14 : decode cL_pass 14 = .ok (.iconst 0, 1) := by decide +kernel
theorem dL_pass_15 : decode cL_pass 15 = .ok (.ireturn, 1) := by decide +kernel
theorem dL_playOut_0 : decode cL_playOut 0 = .ok (.aload_n 2, 1) := by decide +kernel
theorem dL_playOut_1 : decode cL_playOut 1 = .ok (.iconst 0, 1) := by decide +kernel
theorem dL_playOut_2 : decode cL_playOut 2 = .ok (.aload_n 0, 1) := by decide +kernel
theorem dL_playOut_3 : decode cL_playOut 3 = .ok (.iload_n 1, 1) := by decide +kernel
theorem dL_playOut_4 : decode cL_playOut 4 = .ok (.invokevirtual 60, 3) := by decide +kernel
theorem dL_playOut_7 : decode cL_playOut 7 = .ok (.i2l, 1) := by decide +kernel
theorem dL_playOut_8 : decode cL_playOut 8 = .ok (.lastore, 1) := by decide +kernel
theorem dL_playOut_9 : decode cL_playOut 9 = .ok (.goto 6, 3) := by decide +kernel
theorem dL_playOut_12 : decode cL_playOut 12 = .ok (.astore_n 3, 1) := by decide +kernel
theorem dL_playOut_13 : decode cL_playOut 13 = .ok (.iconst 1, 1) := by decide +kernel
theorem dL_playOut_14 : decode cL_playOut 14 = .ok (.ireturn, 1) := by decide +kernel
theorem dL_playOut_15 : decode cL_playOut 15 = .ok (.iconst 0, 1) := by decide +kernel
theorem dL_playOut_16 : decode cL_playOut 16 = .ok (.ireturn, 1) := by decide +kernel
theorem dL_setPasses_0 : decode cL_setPasses 0 = .ok (.aload_n 2, 1) := by decide +kernel
theorem dL_setPasses_1 : decode cL_setPasses 1 = .ok (.iconst 0, 1) := by decide +kernel
theorem dL_setPasses_2 : decode cL_setPasses 2 = .ok (.aload_n 0, 1) := by decide +kernel
theorem dL_setPasses_3 : decode cL_setPasses 3 = .ok (.iload_n 1, 1) := by decide +kernel
theorem dL_setPasses_4 : decode cL_setPasses 4 = .ok (.invokevirtual 63, 3) := by decide +kernel
theorem dL_setPasses_7 : decode cL_setPasses 7 = .ok (.i2l, 1) := by decide +kernel
theorem dL_setPasses_8 : decode cL_setPasses 8 = .ok (.lastore, 1) := by decide +kernel
theorem dL_setPasses_9 : decode cL_setPasses 9 = .ok (.goto 6, 3) := by decide +kernel
theorem dL_setPasses_12 : decode cL_setPasses 12 = .ok (.astore_n 3, 1) := by decide +kernel
theorem dL_setPasses_13 : decode cL_setPasses 13 = .ok (.iconst 1, 1) := by decide +kernel
theorem dL_setPasses_14 : decode cL_setPasses 14 = .ok (.ireturn, 1) := by decide +kernel
theorem dL_setPasses_15 : decode cL_setPasses 15 = .ok (.iconst 0, 1) := by decide +kernel
theorem dL_setPasses_16 : decode cL_setPasses 16 = .ok (.ireturn, 1) := by decide +kernel
theorem dL_move_0 : decode cL_move 0 = .ok (.aload_n 3, 1) := by decide +kernel
theorem dL_move_1 : decode cL_move 1 = .ok (.iconst 0, 1) := by decide +kernel
theorem dL_move_2 : decode cL_move 2 = .ok (.aload_n 0, 1) := by decide +kernel
theorem dL_move_3 : decode cL_move 3 = .ok (.iload_n 1, 1) := by decide +kernel
theorem dL_move_4 : decode cL_move 4 = .ok (.iload_n 2, 1) := by decide +kernel
theorem dL_move_5 : decode cL_move 5 = .ok (.invokevirtual 66, 3) := by decide +kernel
theorem dL_move_8 : decode cL_move 8 = .ok (.i2l, 1) := by decide +kernel
theorem dL_move_9 : decode cL_move 9 = .ok (.lastore, 1) := by decide +kernel
theorem dL_move_10 : decode cL_move 10 = .ok (.goto 11, 3) := by decide +kernel
theorem dL_move_13 : decode cL_move 13 = .ok (.astore 4, 2) := by decide +kernel
theorem dL_move_15 : decode cL_move 15 = .ok (.iconst 1, 1) := by decide +kernel
theorem dL_move_16 : decode cL_move 16 = .ok (.ireturn, 1) := by decide +kernel
theorem dL_move_17 : decode cL_move 17 = .ok (.astore 4, 2) := by decide +kernel
theorem dL_move_19 : decode cL_move 19 = .ok (.iconst 2, 1) := by decide +kernel
theorem dL_move_20 : decode cL_move 20 = .ok (.ireturn, 1) := by decide +kernel
theorem dL_move_21 : decode cL_move 21 = .ok (.iconst 0, 1) := by decide +kernel
theorem dL_move_22 : decode cL_move 22 = .ok (.ireturn, 1) := by decide +kernel
theorem dL_account_0 : decode cL_account 0 = .ok (.aload_n 3, 1) := by decide +kernel
theorem dL_account_1 : decode cL_account 1 = .ok (.iconst 0, 1) := by decide +kernel
theorem dL_account_2 : decode cL_account 2 = .ok (.aload_n 0, 1) := by decide +kernel
theorem dL_account_3 : decode cL_account 3 = .ok (.iload_n 1, 1) := by decide +kernel
theorem dL_account_4 : decode cL_account 4 = .ok (.iload_n 2, 1) := by decide +kernel
theorem dL_account_5 : decode cL_account 5 = .ok (.invokevirtual 69, 3) := by decide +kernel
theorem dL_account_8 : decode cL_account 8 = .ok (.i2l, 1) := by decide +kernel
theorem dL_account_9 : decode cL_account 9 = .ok (.lastore, 1) := by decide +kernel
theorem dL_account_10 : decode cL_account 10 = .ok (.goto 11, 3) := by decide +kernel
theorem dL_account_13 : decode cL_account 13 = .ok (.astore 4, 2) := by decide +kernel
theorem dL_account_15 : decode cL_account 15 = .ok (.iconst 1, 1) := by decide +kernel
theorem dL_account_16 : decode cL_account 16 = .ok (.ireturn, 1) := by decide +kernel
theorem dL_account_17 : decode cL_account 17 = .ok (.astore 4, 2) := by decide +kernel
theorem dL_account_19 : decode cL_account 19 = .ok (.iconst 2, 1) := by decide +kernel
theorem dL_account_20 : decode cL_account 20 = .ok (.ireturn, 1) := by decide +kernel
theorem dL_account_21 : decode cL_account 21 = .ok (.iconst 0, 1) := by decide +kernel
theorem dL_account_22 : decode cL_account 22 = .ok (.ireturn, 1) := by decide +kernel
theorem dL_writtenByte_0 : decode cL_writtenByte 0 = .ok (.aload_n 2, 1) := by decide +kernel
theorem dL_writtenByte_1 : decode cL_writtenByte 1 = .ok (.iconst 0, 1) := by decide +kernel
theorem dL_writtenByte_2 : decode cL_writtenByte 2 = .ok (.aload_n 0, 1) := by decide +kernel
theorem dL_writtenByte_3 : decode cL_writtenByte 3 = .ok (.iload_n 1, 1) := by decide +kernel
theorem dL_writtenByte_4 : decode cL_writtenByte 4 = .ok (.invokevirtual 72, 3) := by decide +kernel
theorem dL_writtenByte_7 : decode cL_writtenByte 7 = .ok (.i2l, 1) := by decide +kernel
theorem dL_writtenByte_8 : decode cL_writtenByte 8 = .ok (.lastore, 1) := by decide +kernel
theorem dL_writtenByte_9 : decode cL_writtenByte 9 = .ok (.goto 6, 3) := by decide +kernel
theorem dL_writtenByte_12 : decode cL_writtenByte 12 = .ok (.astore_n 3, 1) := by decide +kernel
theorem dL_writtenByte_13 : decode cL_writtenByte 13 = .ok (.iconst 1, 1) := by decide +kernel
theorem dL_writtenByte_14 : decode cL_writtenByte 14 = .ok (.ireturn, 1) := by decide +kernel
theorem dL_writtenByte_15 : decode cL_writtenByte 15 = .ok (.iconst 0, 1) := by decide +kernel
theorem dL_writtenByte_16 : decode cL_writtenByte 16 = .ok (.ireturn, 1) := by decide +kernel
theorem dL_undo_0 : decode cL_undo 0 = .ok (.aload_n 1, 1) := by decide +kernel
theorem dL_undo_1 : decode cL_undo 1 = .ok (.iconst 0, 1) := by decide +kernel
theorem dL_undo_2 : decode cL_undo 2 = .ok (.aload_n 0, 1) := by decide +kernel
theorem dL_undo_3 : decode cL_undo 3 = .ok (.invokevirtual 75, 3) := by decide +kernel
theorem dL_undo_6 : decode cL_undo 6 = .ok (.i2l, 1) := by decide +kernel
theorem dL_undo_7 : decode cL_undo 7 = .ok (.lastore, 1) := by decide +kernel
