theorem dX6_boardIf_20 : decode cX6_boardIf 20 = .ok (.aload_n 0, 1) := by decide +kernel
theorem dX6_boardIf_21 : decode cX6_boardIf 21 = .ok (.getfield 41, 3) := by decide +kernel
theorem dX6_boardIf_24 : decode cX6_boardIf 24 = .ok (.iload 4, 2) := by decide +kernel
theorem dX6_boardIf_26 : decode cX6_boardIf 26 = .ok (.aload_n 0, 1) := by decide +kernel
theorem dX6_boardIf_27 : decode cX6_boardIf 27 = .ok (.getfield 7, 3) := by decide +kernel
theorem dX6_boardIf_30 : decode cX6_boardIf 30 = .ok (.bipush 31, 2) := by decide +kernel
theorem dX6_boardIf_32 : decode cX6_boardIf 32 = .ok (.iload 4, 2) := by decide +kernel
theorem dX6_boardIf_34 : decode cX6_boardIf 34 = .ok (.iadd, 1) := by decide +kernel
theorem dX6_boardIf_35 : decode cX6_boardIf 35 = .ok (.iaload, 1) := by decide +kernel
theorem dX6_boardIf_36 : decode cX6_boardIf 36 = .ok (.iastore, 1) := by decide +kernel
theorem dX6_boardIf_37 : decode cX6_boardIf 37 = .ok (.iinc 4 1, 3) := by decide +kernel
theorem dX6_boardIf_40 : decode cX6_boardIf 40 = .ok (.goto (-27), 3) := by decide +kernel
theorem dX6_boardIf_43 : decode cX6_boardIf 43 = .ok (.iconst 0, 1) := by decide +kernel
theorem dX6_boardIf_44 : decode cX6_boardIf 44 = .ok (.istore 4, 2) := by decide +kernel
theorem dX6_boardIf_46 : decode cX6_boardIf 46 = .ok (.iload 4, 2) := by decide +kernel
theorem dX6_boardIf_48 : decode cX6_boardIf 48 = .ok (.aload_n 0, 1) := by decide +kernel
theorem dX6_boardIf_49 : decode cX6_boardIf 49 = .ok (.getfield 7, 3) := by decide +kernel
theorem dX6_boardIf_52 : decode cX6_boardIf 52 = .ok (.iconst 0, 1) := by decide +kernel
theorem dX6_boardIf_53 : decode cX6_boardIf 53 = .ok (.iaload, 1) := by decide +kernel
theorem dX6_boardIf_54 : decode cX6_boardIf 54 = .ok (.if_icmp .ge 32, 3) := by decide +kernel
theorem dX6_boardIf_57 : decode cX6_boardIf 57 = .ok (.iload_n 3, 1) := by decide +kernel
theorem dX6_boardIf_58 : decode cX6_boardIf 58 = .ok (.iload 4, 2) := by decide +kernel
theorem dX6_boardIf_60 : decode cX6_boardIf 60 = .ok (.ishr, 1) := by decide +kernel
theorem dX6_boardIf_61 : decode cX6_boardIf 61 = .ok (.iconst 1, 1) := by decide +kernel
theorem dX6_boardIf_62 : decode cX6_boardIf 62 = .ok (.iand, 1) := by decide +kernel
theorem dX6_boardIf_63 : decode cX6_boardIf 63 = .ok (.iconst 1, 1) := by decide +kernel
theorem dX6_boardIf_64 : decode cX6_boardIf 64 = .ok (.if_icmp .ne 16, 3) := by decide +kernel
theorem dX6_boardIf_67 : decode cX6_boardIf 67 = .ok (.aload_n 0, 1) := by decide +kernel
theorem dX6_boardIf_68 : decode cX6_boardIf 68 = .ok (.getfield 7, 3) := by decide +kernel
theorem dX6_boardIf_71 : decode cX6_boardIf 71 = .ok (.bipush 31, 2) := by decide +kernel
theorem dX6_boardIf_73 : decode cX6_boardIf 73 = .ok (.iload 4, 2) := by decide +kernel
theorem dX6_boardIf_75 : decode cX6_boardIf 75 = .ok (.iadd, 1) := by decide +kernel
theorem dX6_boardIf_76 : decode cX6_boardIf 76 = .ok (.iload_n 2, 1) := by decide +kernel
theorem dX6_boardIf_77 : decode cX6_boardIf 77 = .ok (.iconst 1, 1) := by decide +kernel
theorem dX6_boardIf_78 : decode cX6_boardIf 78 = .ok (.iadd, 1) := by decide +kernel
theorem dX6_boardIf_79 : decode cX6_boardIf 79 = .ok (.iastore, 1) := by decide +kernel
theorem dX6_boardIf_80 : decode cX6_boardIf 80 = .ok (.iinc 4 1, 3) := by decide +kernel
theorem dX6_boardIf_83 : decode cX6_boardIf 83 = .ok (.goto (-37), 3) := by decide +kernel
theorem dX6_boardIf_86 : decode cX6_boardIf 86 = .ok (.aload_n 0, 1) := by decide +kernel
theorem dX6_boardIf_87 : decode cX6_boardIf 87 = .ok (.getfield 7, 3) := by decide +kernel
theorem dX6_boardIf_90 : decode cX6_boardIf 90 = .ok (.bipush 22, 2) := by decide +kernel
theorem dX6_boardIf_92 : decode cX6_boardIf 92 = .ok (.iload_n 1, 1) := by decide +kernel
theorem dX6_boardIf_93 : decode cX6_boardIf 93 = .ok (.iadd, 1) := by decide +kernel
theorem dX6_boardIf_94 : decode cX6_boardIf 94 = .ok (.iload_n 2, 1) := by decide +kernel
theorem dX6_boardIf_95 : decode cX6_boardIf 95 = .ok (.iconst 1, 1) := by decide +kernel
theorem dX6_boardIf_96 : decode cX6_boardIf 96 = .ok (.iadd, 1) := by decide +kernel
theorem dX6_boardIf_97 : decode cX6_boardIf 97 = .ok (.iastore, 1) := by decide +kernel
theorem dX6_boardIf_98 : decode cX6_boardIf 98 = .ok (.aload_n 0, 1) := by decide +kernel
theorem dX6_boardIf_99 : decode cX6_boardIf 99 = .ok (.invokevirtual 238, 3) := by decide +kernel
theorem dX6_boardIf_102 : decode cX6_boardIf 102 = .ok (.istore 4, 2) := by decide +kernel
theorem dX6_boardIf_104 : decode cX6_boardIf 104 = .ok (.aload_n 0, 1) := by decide +kernel
theorem dX6_boardIf_105 : decode cX6_boardIf 105 = .ok (.getfield 7, 3) := by decide +kernel
theorem dX6_boardIf_108 : decode cX6_boardIf 108 = .ok (.bipush 22, 2) := by decide +kernel
theorem dX6_boardIf_110 : decode cX6_boardIf 110 = .ok (.iload_n 1, 1) := by decide +kernel
theorem dX6_boardIf_111 : decode cX6_boardIf 111 = .ok (.iadd, 1) := by decide +kernel
theorem dX6_boardIf_112 : decode cX6_boardIf 112 = .ok (.iconst 0, 1) := by decide +kernel
theorem dX6_boardIf_113 : decode cX6_boardIf 113 = .ok (.iastore, 1) := by decide +kernel
theorem dX6_boardIf_114 : decode cX6_boardIf 114 = .ok (.iconst 0, 1) := by decide +kernel
theorem dX6_boardIf_115 : decode cX6_boardIf 115 = .ok (.istore 5, 2) := by decide +kernel
theorem dX6_boardIf_117 : decode cX6_boardIf 117 = .ok (.iload 5, 2) := by decide +kernel
theorem dX6_boardIf_119 : decode cX6_boardIf 119 = .ok (.bipush 9, 2) := by decide +kernel
theorem dX6_boardIf_121 : decode cX6_boardIf 121 = .ok (.if_icmp .ge 26, 3) := by decide +kernel
theorem dX6_boardIf_124 : decode cX6_boardIf 124 = .ok (.aload_n 0, 1) := by decide +kernel
theorem dX6_boardIf_125 : decode cX6_boardIf 125 = .ok (.getfield 7, 3) := by decide +kernel
theorem dX6_boardIf_128 : decode cX6_boardIf 128 = .ok (.bipush 31, 2) := by decide +kernel
theorem dX6_boardIf_130 : decode cX6_boardIf 130 = .ok (.iload 5, 2) := by decide +kernel
theorem dX6_boardIf_132 : decode cX6_boardIf 132 = .ok (.iadd, 1) := by decide +kernel
theorem dX6_boardIf_133 : decode cX6_boardIf 133 = .ok (.aload_n 0, 1) := by decide +kernel
theorem dX6_boardIf_134 : decode cX6_boardIf 134 = .ok (.getfield 41, 3) := by decide +kernel
theorem dX6_boardIf_137 : decode cX6_boardIf 137 = .ok (.iload 5, 2) := by decide +kernel
theorem dX6_boardIf_139 : decode cX6_boardIf 139 = .ok (.iaload, 1) := by decide +kernel
theorem dX6_boardIf_140 : decode cX6_boardIf 140 = .ok (.iastore, 1) := by decide +kernel
theorem dX6_boardIf_141 : decode cX6_boardIf 141 = .ok (.iinc 5 1, 3) := by decide +kernel
theorem dX6_boardIf_144 : decode cX6_boardIf 144 = .ok (.goto (-27), 3) := by decide +kernel
theorem dX6_boardIf_147 : decode cX6_boardIf 147 = .ok (.iload 4, 2) := by decide +kernel
theorem dX6_boardIf_149 : decode cX6_boardIf 149 = .ok (.ireturn, 1) := by decide +kernel
theorem dX6_winningOn_0 : decode cX6_winningOn 0 = .ok (.aload_n 0, 1) := by decide +kernel
theorem dX6_winningOn_1 : decode cX6_winningOn 1 = .ok (.iload_n 1, 1) := by decide +kernel
theorem dX6_winningOn_2 : decode cX6_winningOn 2 = .ok (.invokevirtual 199, 3) := by decide +kernel
theorem dX6_winningOn_5 : decode cX6_winningOn 5 = .ok (.istore_n 2, 1) := by decide +kernel
theorem dX6_winningOn_6 : decode cX6_winningOn 6 = .ok (.iconst 0, 1) := by decide +kernel
theorem dX6_winningOn_7 : decode cX6_winningOn 7 = .ok (.istore_n 3, 1) := by decide +kernel
theorem dX6_winningOn_8 : decode cX6_winningOn 8 = .ok (.iconst 0, 1) := by decide +kernel
theorem dX6_winningOn_9 : decode cX6_winningOn 9 = .ok (.istore 4, 2) := by decide +kernel
theorem dX6_winningOn_11 : decode cX6_winningOn 11 = .ok (.iload 4, 2) := by decide +kernel
theorem dX6_winningOn_13 : decode cX6_winningOn 13 = .ok (.aload_n 0, 1) := by decide +kernel
theorem dX6_winningOn_14 : decode cX6_winningOn 14 = .ok (.getfield 7, 3) := by decide +kernel
theorem dX6_winningOn_17 : decode cX6_winningOn 17 = .ok (.iconst 1, 1) := by decide +kernel
theorem dX6_winningOn_18 : decode cX6_winningOn 18 = .ok (.iaload, 1) := by decide +kernel
theorem dX6_winningOn_19 : decode cX6_winningOn 19 = .ok (.if_icmp .ge 48, 3) := by decide +kernel
theorem dX6_winningOn_22 : decode cX6_winningOn 22 = .ok (.iload_n 2, 1) := by decide +kernel
theorem dX6_winningOn_23 : decode cX6_winningOn 23 = .ok (.iload 4, 2) := by decide +kernel
theorem dX6_winningOn_25 : decode cX6_winningOn 25 = .ok (.ishr, 1) := by decide +kernel
theorem dX6_winningOn_26 : decode cX6_winningOn 26 = .ok (.iconst 1, 1) := by decide +kernel
theorem dX6_winningOn_27 : decode cX6_winningOn 27 = .ok (.iand, 1) := by decide +kernel
theorem dX6_winningOn_28 : decode cX6_winningOn 28 = .ok (.iconst 1, 1) := by decide +kernel
theorem dX6_winningOn_29 : decode cX6_winningOn 29 = .ok (.if_icmp .ne 32, 3) := by decide +kernel
theorem dX6_winningOn_32 : decode cX6_winningOn 32 = .ok (.aload_n 0, 1) := by decide +kernel
theorem dX6_winningOn_33 : decode cX6_winningOn 33 = .ok (.iload_n 1, 1) := by decide +kernel
theorem dX6_winningOn_34 : decode cX6_winningOn 34 = .ok (.iload 4, 2) := by decide +kernel
theorem dX6_winningOn_36 : decode cX6_winningOn 36 = .ok (.invokevirtual 241, 3) := by decide +kernel
theorem dX6_winningOn_39 : decode cX6_winningOn 39 = .ok (.bipush 31, 2) := by decide +kernel
theorem dX6_winningOn_41 : decode cX6_winningOn 41 = .ok (.iand, 1) := by decide +kernel
theorem dX6_winningOn_42 : decode cX6_winningOn 42 = .ok (.aload_n 0, 1) := by decide +kernel
theorem dX6_winningOn_43 : decode cX6_winningOn 43 = .ok (.getfield 7, 3) := by decide +kernel
theorem dX6_winningOn_46 : decode cX6_winningOn 46 = .ok (.iconst 2, 1) := by decide +kernel
theorem dX6_winningOn_47 : decode cX6_winningOn 47 = .ok (.iaload, 1) := by decide +kernel
theorem dX6_winningOn_48 : decode cX6_winningOn 48 = .ok (.iconst 2, 1) := by decide +kernel
theorem dX6_winningOn_49 : decode cX6_winningOn 49 = .ok (.irem, 1) := by decide +kernel
theorem dX6_winningOn_50 : decode cX6_winningOn 50 = .ok (.ixor, 1) := by decide +kernel
theorem dX6_winningOn_51 : decode cX6_winningOn 51 = .ok (.ifCond .ne 10, 3) := by decide +kernel
theorem dX6_winningOn_54 : decode cX6_winningOn 54 = .ok (.iload_n 3, 1) := by decide +kernel
theorem dX6_winningOn_55 : decode cX6_winningOn 55 = .ok (.iconst 1, 1) := by decide +kernel
theorem dX6_winningOn_56 : decode cX6_winningOn 56 = .ok (.iload 4, 2) := by decide +kernel
theorem dX6_winningOn_58 : decode cX6_winningOn 58 = .ok (.ishl, 1) := by decide +kernel
theorem dX6_winningOn_59 : decode cX6_winningOn 59 = .ok (.ior, 1) := by decide +kernel
theorem dX6_winningOn_60 : decode cX6_winningOn 60 = .ok (.istore_n 3, 1) := by decide +kernel
theorem dX6_winningOn_61 : decode cX6_winningOn 61 = .ok (.iinc 4 1, 3) := by decide +kernel
theorem dX6_winningOn_64 : decode cX6_winningOn 64 = .ok (.goto (-53), 3) := by decide +kernel
theorem dX6_winningOn_67 : decode cX6_winningOn 67 = .ok (.iload_n 3, 1) := by decide +kernel
theorem dX6_winningOn_68 : decode cX6_winningOn 68 = .ok (.ireturn, 1) := by decide +kernel
theorem dX6_passWins_0 : decode cX6_passWins 0 = .ok (.aload_n 0, 1) := by decide +kernel
theorem dX6_passWins_1 : decode cX6_passWins 1 = .ok (.getfield 7, 3) := by decide +kernel
theorem dX6_passWins_4 : decode cX6_passWins 4 = .ok (.iconst 2, 1) := by decide +kernel
theorem dX6_passWins_5 : decode cX6_passWins 5 = .ok (.iaload, 1) := by decide +kernel
theorem dX6_passWins_6 : decode cX6_passWins 6 = .ok (.ifCond .le 28, 3) := by decide +kernel
theorem dX6_passWins_9 : decode cX6_passWins 9 = .ok (.aload_n 0, 1) := by decide +kernel
theorem dX6_passWins_10 : decode cX6_passWins 10 = .ok (.invokevirtual 238, 3) := by decide +kernel
theorem dX6_passWins_13 : decode cX6_passWins 13 = .ok (.bipush 31, 2) := by decide +kernel
theorem dX6_passWins_15 : decode cX6_passWins 15 = .ok (.iand, 1) := by decide +kernel
theorem dX6_passWins_16 : decode cX6_passWins 16 = .ok (.aload_n 0, 1) := by decide +kernel
theorem dX6_passWins_17 : decode cX6_passWins 17 = .ok (.getfield 7, 3) := by decide +kernel
theorem dX6_passWins_20 : decode cX6_passWins 20 = .ok (.iconst 2, 1) := by decide +kernel
theorem dX6_passWins_21 : decode cX6_passWins 21 = .ok (.iaload, 1) := by decide +kernel
theorem dX6_passWins_22 : decode cX6_passWins 22 = .ok (.iconst 1, 1) := by decide +kernel
theorem dX6_passWins_23 : decode cX6_passWins 23 = .ok (.isub, 1) := by decide +kernel
theorem dX6_passWins_24 : decode cX6_passWins 24 = .ok (.iconst 2, 1) := by decide +kernel
theorem dX6_passWins_25 : decode cX6_passWins 25 = .ok (.irem, 1) := by decide +kernel
theorem dX6_passWins_26 : decode cX6_passWins 26 = .ok (.ixor, 1) := by decide +kernel
theorem dX6_passWins_27 : decode cX6_passWins 27 = .ok (.ifCond .ne 7, 3) := by decide +kernel
theorem dX6_passWins_30 : decode cX6_passWins 30 = .ok (.iconst 1, 1) := by decide +kernel
theorem dX6_passWins_31 : decode cX6_passWins 31 = .ok (.goto 4, 3) := by decide +kernel
theorem dX6_passWins_34 : decode cX6_passWins 34 = .ok (.iconst 0, 1) := by decide +kernel
theorem dX6_passWins_35 : decode cX6_passWins 35 = .ok (.ireturn, 1) := by decide +kernel
theorem dX6_part_0 : decode cX6_part 0 = .ok (.iload_n 1, 1) := by decide +kernel
theorem dX6_part_1 : decode cX6_part 1 = .ok (.ifCond .ge 7, 3) := by decide +kernel
theorem dX6_part_4 : decode cX6_part 4 = .ok (.iconst 0, 1) := by decide +kernel
theorem dX6_part_5 : decode cX6_part 5 = .ok (.goto 8, 3) := by decide +kernel
theorem dX6_part_8 : decode cX6_part 8 = .ok (.aload_n 0, 1) := by decide +kernel
theorem dX6_part_9 : decode cX6_part 9 = .ok (.iload_n 1, 1) := by decide +kernel
theorem dX6_part_10 : decode cX6_part 10 = .ok (.invokevirtual 244, 3) := by decide +kernel
theorem dX6_part_13 : decode cX6_part 13 = .ok (.istore_n 3, 1) := by decide +kernel
theorem dX6_part_14 : decode cX6_part 14 = .ok (.aload_n 0, 1) := by decide +kernel
theorem dX6_part_15 : decode cX6_part 15 = .ok (.iload_n 3, 1) := by decide +kernel
theorem dX6_part_16 : decode cX6_part 16 = .ok (.ifCond .ne 7, 3) := by decide +kernel
theorem dX6_part_19 : decode cX6_part 19 = .ok (.iconst 1, 1) := by decide +kernel
theorem dX6_part_20 : decode cX6_part 20 = .ok (.goto 18, 3) := by decide +kernel
theorem dX6_part_23 : decode cX6_part 23 = .ok (.iload_n 2, 1) := by decide +kernel
theorem dX6_part_24 : decode cX6_part 24 = .ok (.iconst 0, 1) := by decide +kernel
theorem dX6_part_25 : decode cX6_part 25 = .ok (.bipush 7, 2) := by decide +kernel
theorem dX6_part_27 : decode cX6_part 27 = .ok (.invokestatic 76, 3) := by decide +kernel
theorem dX6_part_30 : decode cX6_part 30 = .ok (.ifCond .eq 7, 3) := by decide +kernel
theorem dX6_part_33 : decode cX6_part 33 = .ok (.iconst 0, 1) := by decide +kernel
theorem dX6_part_34 : decode cX6_part 34 = .ok (.goto 4, 3) := by decide +kernel
theorem dX6_part_37 : decode cX6_part 37 = .ok (.iconst 2, 1) := by decide +kernel
theorem dX6_part_38 : decode cX6_part 38 = .ok (.putfield 47, 3) := by decide +kernel
theorem dX6_part_41 : decode cX6_part 41 = .ok (.aload_n 0, 1) := by decide +kernel
theorem dX6_part_42 : decode cX6_part 42 = .ok (.getfield 47, 3) := by decide +kernel
theorem dX6_part_45 : decode cX6_part 45 = .ok (.ifCond .le 5, 3) := by decide +kernel
theorem dX6_part_48 : decode cX6_part 48 = .ok (.iconst 0, 1) := by decide +kernel
theorem dX6_part_49 : decode cX6_part 49 = .ok (.ireturn, 1) := by decide +kernel
theorem dX6_part_50 : decode cX6_part 50 = .ok (.aload_n 0, 1) := by decide +kernel
theorem dX6_part_51 : decode cX6_part 51 = .ok (.iload_n 3, 1) := by decide +kernel
theorem dX6_part_52 : decode cX6_part 52 = .ok (.invokestatic 174, 3) := by decide +kernel
theorem dX6_part_55 : decode cX6_part 55 = .ok (.invokevirtual 192, 3) := by decide +kernel
theorem dX6_part_58 : decode cX6_part 58 = .ok (.istore 4, 2) := by decide +kernel
theorem dX6_part_60 : decode cX6_part 60 = .ok (.iload_n 2, 1) := by decide +kernel
theorem dX6_part_61 : decode cX6_part 61 = .ok (.tableswitch 60 0 4 #[35, 40, 45, 48, 54], 35) := by decide +kernel
theorem dX6_part_96 : decode cX6_part 96 = .ok (.iload_n 3, 1) := by decide +kernel
theorem dX6_part_97 : decode cX6_part 97 = .ok (.invokestatic 189, 3) := by decide +kernel
theorem dX6_part_100 : decode cX6_part 100 = .ok (.ireturn, 1) := by decide +kernel
theorem dX6_part_101 : decode cX6_part 101 = .ok (.iload_n 3, 1) := by decide +kernel
theorem dX6_part_102 : decode cX6_part 102 = .ok (.invokestatic 174, 3) := by decide +kernel
theorem dX6_part_105 : decode cX6_part 105 = .ok (.ireturn, 1) := by decide +kernel
theorem dX6_part_106 : decode cX6_part 106 = .ok (.iload 4, 2) := by decide +kernel
theorem dX6_part_108 : decode cX6_part 108 = .ok (.ireturn, 1) := by decide +kernel
theorem dX6_part_109 : decode cX6_part 109 = .ok (.aload_n 0, 1) := by decide +kernel
theorem dX6_part_110 : decode cX6_part 110 = .ok (.iload_n 3, 1) := by decide +kernel
theorem dX6_part_111 : decode cX6_part 111 = .ok (.invokevirtual 204, 3) := by decide +kernel
theorem dX6_part_114 : decode cX6_part 114 = .ok (.ireturn, 1) := by decide +kernel
theorem dX6_part_115 : decode cX6_part 115 = .ok (.aload_n 0, 1) := by decide +kernel
theorem dX6_part_116 : decode cX6_part 116 = .ok (.iload_n 3, 1) := by decide +kernel
theorem dX6_part_117 : decode cX6_part 117 = .ok (.invokevirtual 247, 3) := by decide +kernel
theorem dX6_part_120 : decode cX6_part 120 = .ok (.ireturn, 1) := by decide +kernel
theorem dX6_part_121 : decode cX6_part 121 = .ok (.aload_n 0, 1) := by decide +kernel
theorem dX6_part_122 : decode cX6_part 122 = .ok (.iload_n 3, 1) := by decide +kernel
theorem dX6_part_123 : decode cX6_part 123 = .ok (.iload 4, 2) := by decide +kernel
theorem dX6_part_125 : decode cX6_part 125 = .ok (.iload_n 2, 1) := by decide +kernel
theorem dX6_part_126 : decode cX6_part 126 = .ok (.invokevirtual 250, 3) := by decide +kernel
theorem dX6_part_129 : decode cX6_part 129 = .ok (.ireturn, 1) := by decide +kernel
theorem dX6_pairsIn_0 : decode cX6_pairsIn 0 = .ok (.iconst 0, 1) := by decide +kernel
theorem dX6_pairsIn_1 : decode cX6_pairsIn 1 = .ok (.istore_n 2, 1) := by decide +kernel
theorem dX6_pairsIn_2 : decode cX6_pairsIn 2 = .ok (.iconst 0, 1) := by decide +kernel
theorem dX6_pairsIn_3 : decode cX6_pairsIn 3 = .ok (.istore_n 3, 1) := by decide +kernel
theorem dX6_pairsIn_4 : decode cX6_pairsIn 4 = .ok (.iload_n 3, 1) := by decide +kernel
theorem dX6_pairsIn_5 : decode cX6_pairsIn 5 = .ok (.aload_n 0, 1) := by decide +kernel
theorem dX6_pairsIn_6 : decode cX6_pairsIn 6 = .ok (.getfield 7, 3) := by decide +kernel
theorem dX6_pairsIn_9 : decode cX6_pairsIn 9 = .ok (.iconst 0, 1) := by decide +kernel
theorem dX6_pairsIn_10 : decode cX6_pairsIn 10 = .ok (.iaload, 1) := by decide +kernel
theorem dX6_pairsIn_11 : decode cX6_pairsIn 11 = .ok (.if_icmp .ge 33, 3) := by decide +kernel
theorem dX6_pairsIn_14 : decode cX6_pairsIn 14 = .ok (.iload_n 2, 1) := by decide +kernel
theorem dX6_pairsIn_15 : decode cX6_pairsIn 15 = .ok (.iload_n 1, 1) := by decide +kernel
theorem dX6_pairsIn_16 : decode cX6_pairsIn 16 = .ok (.iload_n 3, 1) := by decide +kernel
theorem dX6_pairsIn_17 : decode cX6_pairsIn 17 = .ok (.ishr, 1) := by decide +kernel
theorem dX6_pairsIn_18 : decode cX6_pairsIn 18 = .ok (.iconst 1, 1) := by decide +kernel
theorem dX6_pairsIn_19 : decode cX6_pairsIn 19 = .ok (.iand, 1) := by decide +kernel
theorem dX6_pairsIn_20 : decode cX6_pairsIn 20 = .ok (.iconst 1, 1) := by decide +kernel
theorem dX6_pairsIn_21 : decode cX6_pairsIn 21 = .ok (.if_icmp .ne 14, 3) := by decide +kernel
theorem dX6_pairsIn_24 : decode cX6_pairsIn 24 = .ok (.aload_n 0, 1) := by decide +kernel
theorem dX6_pairsIn_25 : decode cX6_pairsIn 25 = .ok (.iload_n 3, 1) := by decide +kernel
theorem dX6_pairsIn_26 : decode cX6_pairsIn 26 = .ok (.invokevirtual 199, 3) := by decide +kernel
theorem dX6_pairsIn_29 : decode cX6_pairsIn 29 = .ok (.invokestatic 189, 3) := by decide +kernel
theorem dX6_pairsIn_32 : decode cX6_pairsIn 32 = .ok (.goto 4, 3) := by decide +kernel
theorem dX6_pairsIn_35 : decode cX6_pairsIn 35 = .ok (.iconst 0, 1) := by decide +kernel
theorem dX6_pairsIn_36 : decode cX6_pairsIn 36 = .ok (.iadd, 1) := by decide +kernel
theorem dX6_pairsIn_37 : decode cX6_pairsIn 37 = .ok (.istore_n 2, 1) := by decide +kernel
theorem dX6_pairsIn_38 : decode cX6_pairsIn 38 = .ok (.iinc 3 1, 3) := by decide +kernel
theorem dX6_pairsIn_41 : decode cX6_pairsIn 41 = .ok (.goto (-37), 3) := by decide +kernel
theorem dX6_pairsIn_44 : decode cX6_pairsIn 44 = .ok (.iload_n 2, 1) := by decide +kernel
theorem dX6_pairsIn_45 : decode cX6_pairsIn 45 = .ok (.ireturn, 1) := by decide +kernel
theorem dX6_ofPart_0 : decode cX6_ofPart 0 = .ok (.aload_n 0, 1) := by decide +kernel
theorem dX6_ofPart_1 : decode cX6_ofPart 1 = .ok (.invokevirtual 253, 3) := by decide +kernel
theorem dX6_ofPart_4 : decode cX6_ofPart 4 = .ok (.aload_n 0, 1) := by decide +kernel
theorem dX6_ofPart_5 : decode cX6_ofPart 5 = .ok (.iload_n 1, 1) := by decide +kernel
theorem dX6_ofPart_6 : decode cX6_ofPart 6 = .ok (.iload_n 2, 1) := by decide +kernel
theorem dX6_ofPart_7 : decode cX6_ofPart 7 = .ok (.invokevirtual 229, 3) := by decide +kernel
theorem dX6_ofPart_10 : decode cX6_ofPart 10 = .ok (.istore 4, 2) := by decide +kernel
theorem dX6_ofPart_12 : decode cX6_ofPart 12 = .ok (.iload_n 3, 1) := by decide +kernel
theorem dX6_ofPart_13 : decode cX6_ofPart 13 = .ok (.iconst 5, 1) := by decide +kernel
theorem dX6_ofPart_14 : decode cX6_ofPart 14 = .ok (.if_icmp .ne 11, 3) := by decide +kernel
theorem dX6_ofPart_17 : decode cX6_ofPart 17 = .ok (.iload 4, 2) := by decide +kernel
theorem dX6_ofPart_19 : decode cX6_ofPart 19 = .ok (.bipush 31, 2) := by decide +kernel
theorem dX6_ofPart_21 : decode cX6_ofPart 21 = .ok (.iand, 1) := by decide +kernel
theorem dX6_ofPart_22 : decode cX6_ofPart 22 = .ok (.goto 24, 3) := by decide +kernel
theorem dX6_ofPart_25 : decode cX6_ofPart 25 = .ok (.iload_n 3, 1) := by decide +kernel
theorem dX6_ofPart_26 : decode cX6_ofPart 26 = .ok (.bipush 6, 2) := by decide +kernel
theorem dX6_ofPart_28 : decode cX6_ofPart 28 = .ok (.if_icmp .ne 13, 3) := by decide +kernel
theorem dX6_ofPart_31 : decode cX6_ofPart 31 = .ok (.iload 4, 2) := by decide +kernel
theorem dX6_ofPart_33 : decode cX6_ofPart 33 = .ok (.iconst 5, 1) := by decide +kernel
theorem dX6_ofPart_34 : decode cX6_ofPart 34 = .ok (.ishr, 1) := by decide +kernel
theorem dX6_ofPart_35 : decode cX6_ofPart 35 = .ok (.bipush 31, 2) := by decide +kernel
theorem dX6_ofPart_37 : decode cX6_ofPart 37 = .ok (.iand, 1) := by decide +kernel
theorem dX6_ofPart_38 : decode cX6_ofPart 38 = .ok (.goto 8, 3) := by decide +kernel
theorem dX6_ofPart_41 : decode cX6_ofPart 41 = .ok (.iload 4, 2) := by decide +kernel
theorem dX6_ofPart_43 : decode cX6_ofPart 43 = .ok (.bipush 10, 2) := by decide +kernel
theorem dX6_ofPart_45 : decode cX6_ofPart 45 = .ok (.ishr, 1) := by decide +kernel
theorem dX6_ofPart_46 : decode cX6_ofPart 46 = .ok (.ireturn, 1) := by decide +kernel
theorem dX6_value_0 : decode cX6_value 0 = .ok (.aload_n 0, 1) := by decide +kernel
theorem dX6_value_1 : decode cX6_value 1 = .ok (.iconst 0, 1) := by decide +kernel
theorem dX6_value_2 : decode cX6_value 2 = .ok (.putfield 47, 3) := by decide +kernel
theorem dX6_value_5 : decode cX6_value 5 = .ok (.aload_n 0, 1) := by decide +kernel
theorem dX6_value_6 : decode cX6_value 6 = .ok (.invokevirtual 253, 3) := by decide +kernel
theorem dX6_value_9 : decode cX6_value 9 = .ok (.aload_n 0, 1) := by decide +kernel
theorem dX6_value_10 : decode cX6_value 10 = .ok (.invokevirtual 256, 3) := by decide +kernel
theorem dX6_value_13 : decode cX6_value 13 = .ok (.ireturn, 1) := by decide +kernel
theorem dX6_valueIf_0 : decode cX6_valueIf 0 = .ok (.aload_n 0, 1) := by decide +kernel
theorem dX6_valueIf_1 : decode cX6_valueIf 1 = .ok (.aload_n 0, 1) := by decide +kernel
theorem dX6_valueIf_2 : decode cX6_valueIf 2 = .ok (.iload_n 1, 1) := by decide +kernel
theorem dX6_valueIf_3 : decode cX6_valueIf 3 = .ok (.invokevirtual 220, 3) := by decide +kernel
theorem dX6_valueIf_6 : decode cX6_valueIf 6 = .ok (.ifCond .eq 11, 3) := by decide +kernel
theorem dX6_valueIf_9 : decode cX6_valueIf 9 = .ok (.aload_n 0, 1) := by decide +kernel
theorem dX6_valueIf_10 : decode cX6_valueIf 10 = .ok (.iload_n 2, 1) := by decide +kernel
theorem dX6_valueIf_11 : decode cX6_valueIf 11 = .ok (.invokevirtual 226, 3) := by decide +kernel
theorem dX6_valueIf_14 : decode cX6_valueIf 14 = .ok (.ifCond .ne 7, 3) := by decide +kernel
theorem dX6_valueIf_17 : decode cX6_valueIf 17 = .ok (.iconst 1, 1) := by decide +kernel
theorem dX6_valueIf_18 : decode cX6_valueIf 18 = .ok (.goto 17, 3) := by decide +kernel
theorem dX6_valueIf_21 : decode cX6_valueIf 21 = .ok (.aload_n 0, 1) := by decide +kernel
theorem dX6_valueIf_22 : decode cX6_valueIf 22 = .ok (.iload_n 1, 1) := by decide +kernel
theorem dX6_valueIf_23 : decode cX6_valueIf 23 = .ok (.iload_n 2, 1) := by decide +kernel
theorem dX6_valueIf_24 : decode cX6_valueIf 24 = .ok (.invokevirtual 127, 3) := by decide +kernel
theorem dX6_valueIf_27 : decode cX6_valueIf 27 = .ok (.ifCond .le 7, 3) := by decide +kernel
theorem dX6_valueIf_30 : decode cX6_valueIf 30 = .ok (.iconst 2, 1) := by decide +kernel
theorem dX6_valueIf_31 : decode cX6_valueIf 31 = .ok (.goto 4, 3) := by decide +kernel
theorem dX6_valueIf_34 : decode cX6_valueIf 34 = .ok (.iconst 0, 1) := by decide +kernel
theorem dX6_valueIf_35 : decode cX6_valueIf 35 = .ok (.putfield 47, 3) := by decide +kernel
theorem dX6_valueIf_38 : decode cX6_valueIf 38 = .ok (.aload_n 0, 1) := by decide +kernel
theorem dX6_valueIf_39 : decode cX6_valueIf 39 = .ok (.getfield 47, 3) := by decide +kernel
theorem dX6_valueIf_42 : decode cX6_valueIf 42 = .ok (.ifCond .le 5, 3) := by decide +kernel
theorem dX6_valueIf_45 : decode cX6_valueIf 45 = .ok (.iconst 0, 1) := by decide +kernel
theorem dX6_valueIf_46 : decode cX6_valueIf 46 = .ok (.ireturn, 1) := by decide +kernel
theorem dX6_valueIf_47 : decode cX6_valueIf 47 = .ok (.aload_n 0, 1) := by decide +kernel
theorem dX6_valueIf_48 : decode cX6_valueIf 48 = .ok (.invokevirtual 253, 3) := by decide +kernel
theorem dX6_valueIf_51 : decode cX6_valueIf 51 = .ok (.aload_n 0, 1) := by decide +kernel
theorem dX6_valueIf_52 : decode cX6_valueIf 52 = .ok (.iload_n 1, 1) := by decide +kernel
theorem dX6_valueIf_53 : decode cX6_valueIf 53 = .ok (.iload_n 2, 1) := by decide +kernel
theorem dX6_valueIf_54 : decode cX6_valueIf 54 = .ok (.invokevirtual 241, 3) := by decide +kernel
theorem dX6_valueIf_57 : decode cX6_valueIf 57 = .ok (.bipush 31, 2) := by decide +kernel
theorem dX6_valueIf_59 : decode cX6_valueIf 59 = .ok (.iand, 1) := by decide +kernel
theorem dX6_valueIf_60 : decode cX6_valueIf 60 = .ok (.aload_n 0, 1) := by decide +kernel
theorem dX6_valueIf_61 : decode cX6_valueIf 61 = .ok (.getfield 7, 3) := by decide +kernel
theorem dX6_valueIf_64 : decode cX6_valueIf 64 = .ok (.iconst 2, 1) := by decide +kernel
theorem dX6_valueIf_65 : decode cX6_valueIf 65 = .ok (.iaload, 1) := by decide +kernel
theorem dX6_valueIf_66 : decode cX6_valueIf 66 = .ok (.iconst 2, 1) := by decide +kernel
theorem dX6_valueIf_67 : decode cX6_valueIf 67 = .ok (.irem, 1) := by decide +kernel
theorem dX6_valueIf_68 : decode cX6_valueIf 68 = .ok (.ixor, 1) := by decide +kernel
theorem dX6_valueIf_69 : decode cX6_valueIf 69 = .ok (.ireturn, 1) := by decide +kernel
theorem dX6_winningMoves_0 : decode cX6_winningMoves 0 = .ok (.aload_n 0, 1) := by decide +kernel
theorem dX6_winningMoves_1 : decode cX6_winningMoves 1 = .ok (.iconst 0, 1) := by decide +kernel
theorem dX6_winningMoves_2 : decode cX6_winningMoves 2 = .ok (.putfield 47, 3) := by decide +kernel
theorem dX6_winningMoves_5 : decode cX6_winningMoves 5 = .ok (.aload_n 0, 1) := by decide +kernel
theorem dX6_winningMoves_6 : decode cX6_winningMoves 6 = .ok (.invokevirtual 253, 3) := by decide +kernel
theorem dX6_winningMoves_9 : decode cX6_winningMoves 9 = .ok (.aload_n 0, 1) := by decide +kernel
theorem dX6_winningMoves_10 : decode cX6_winningMoves 10 = .ok (.invokevirtual 259, 3) := by decide +kernel
theorem dX6_winningMoves_13 : decode cX6_winningMoves 13 = .ok (.ifCond .eq 7, 3) := by decide +kernel
theorem dX6_winningMoves_16 : decode cX6_winningMoves 16 = .ok (.iconst 1, 1) := by decide +kernel
theorem dX6_winningMoves_17 : decode cX6_winningMoves 17 = .ok (.goto 4, 3) := by decide +kernel
theorem dX6_winningMoves_20 : decode cX6_winningMoves 20 = .ok (.iconst 0, 1) := by decide +kernel
theorem dX6_winningMoves_21 : decode cX6_winningMoves 21 = .ok (.istore_n 1, 1) := by decide +kernel
theorem dX6_winningMoves_22 : decode cX6_winningMoves 22 = .ok (.iconst 0, 1) := by decide +kernel
theorem dX6_winningMoves_23 : decode cX6_winningMoves 23 = .ok (.istore_n 2, 1) := by decide +kernel
theorem dX6_winningMoves_24 : decode cX6_winningMoves 24 = .ok (.iload_n 2, 1) := by decide +kernel
theorem dX6_winningMoves_25 : decode cX6_winningMoves 25 = .ok (.aload_n 0, 1) := by decide +kernel
theorem dX6_winningMoves_26 : decode cX6_winningMoves 26 = .ok (.getfield 7, 3) := by decide +kernel
theorem dX6_winningMoves_29 : decode cX6_winningMoves 29 = .ok (.iconst 0, 1) := by decide +kernel
theorem dX6_winningMoves_30 : decode cX6_winningMoves 30 = .ok (.iaload, 1) := by decide +kernel
theorem dX6_winningMoves_31 : decode cX6_winningMoves 31 = .ok (.if_icmp .ge 20, 3) := by decide +kernel
theorem dX6_winningMoves_34 : decode cX6_winningMoves 34 = .ok (.iload_n 1, 1) := by decide +kernel
theorem dX6_winningMoves_35 : decode cX6_winningMoves 35 = .ok (.aload_n 0, 1) := by decide +kernel
theorem dX6_winningMoves_36 : decode cX6_winningMoves 36 = .ok (.iload_n 2, 1) := by decide +kernel
theorem dX6_winningMoves_37 : decode cX6_winningMoves 37 = .ok (.invokevirtual 262, 3) := by decide +kernel
theorem dX6_winningMoves_40 : decode cX6_winningMoves 40 = .ok (.invokestatic 189, 3) := by decide +kernel
theorem dX6_winningMoves_43 : decode cX6_winningMoves 43 = .ok (.iadd, 1) := by decide +kernel
theorem dX6_winningMoves_44 : decode cX6_winningMoves 44 = .ok (.istore_n 1, 1) := by decide +kernel
theorem dX6_winningMoves_45 : decode cX6_winningMoves 45 = .ok (.iinc 2 1, 3) := by decide +kernel
theorem dX6_winningMoves_48 : decode cX6_winningMoves 48 = .ok (.goto (-24), 3) := by decide +kernel
theorem dX6_winningMoves_51 : decode cX6_winningMoves 51 = .ok (.iload_n 1, 1) := by decide +kernel
theorem dX6_winningMoves_52 : decode cX6_winningMoves 52 = .ok (.ireturn, 1) := by decide +kernel
theorem dX6_winningColours_0 : decode cX6_winningColours 0 = .ok (.aload_n 0, 1) := by decide +kernel
theorem dX6_winningColours_1 : decode cX6_winningColours 1 = .ok (.aload_n 0, 1) := by decide +kernel
theorem dX6_winningColours_2 : decode cX6_winningColours 2 = .ok (.iload_n 1, 1) := by decide +kernel
theorem dX6_winningColours_3 : decode cX6_winningColours 3 = .ok (.invokevirtual 220, 3) := by decide +kernel
theorem dX6_winningColours_6 : decode cX6_winningColours 6 = .ok (.ifCond .eq 7, 3) := by decide +kernel
theorem dX6_winningColours_9 : decode cX6_winningColours 9 = .ok (.iconst 0, 1) := by decide +kernel
theorem dX6_winningColours_10 : decode cX6_winningColours 10 = .ok (.goto 4, 3) := by decide +kernel
theorem dX6_winningColours_13 : decode cX6_winningColours 13 = .ok (.iconst 1, 1) := by decide +kernel
theorem dX6_winningColours_14 : decode cX6_winningColours 14 = .ok (.putfield 47, 3) := by decide +kernel
theorem dX6_winningColours_17 : decode cX6_winningColours 17 = .ok (.aload_n 0, 1) := by decide +kernel
theorem dX6_winningColours_18 : decode cX6_winningColours 18 = .ok (.getfield 47, 3) := by decide +kernel
theorem dX6_winningColours_21 : decode cX6_winningColours 21 = .ok (.ifCond .le 5, 3) := by decide +kernel
theorem dX6_winningColours_24 : decode cX6_winningColours 24 = .ok (.iconst 0, 1) := by decide +kernel
theorem dX6_winningColours_25 : decode cX6_winningColours 25 = .ok (.ireturn, 1) := by decide +kernel
theorem dX6_winningColours_26 : decode cX6_winningColours 26 = .ok (.aload_n 0, 1) := by decide +kernel
theorem dX6_winningColours_27 : decode cX6_winningColours 27 = .ok (.invokevirtual 253, 3) := by decide +kernel
theorem dX6_winningColours_30 : decode cX6_winningColours 30 = .ok (.aload_n 0, 1) := by decide +kernel
theorem dX6_winningColours_31 : decode cX6_winningColours 31 = .ok (.iload_n 1, 1) := by decide +kernel
theorem dX6_winningColours_32 : decode cX6_winningColours 32 = .ok (.invokevirtual 262, 3) := by decide +kernel
theorem dX6_winningColours_35 : decode cX6_winningColours 35 = .ok (.ireturn, 1) := by decide +kernel
theorem dX6_best_0 : decode cX6_best 0 = .ok (.iconst 0, 1) := by decide +kernel
theorem dX6_best_1 : decode cX6_best 1 = .ok (.istore_n 1, 1) := by decide +kernel
theorem dX6_best_2 : decode cX6_best 2 = .ok (.iload_n 1, 1) := by decide +kernel
theorem dX6_best_3 : decode cX6_best 3 = .ok (.aload_n 0, 1) := by decide +kernel
theorem dX6_best_4 : decode cX6_best 4 = .ok (.getfield 7, 3) := by decide +kernel
theorem dX6_best_7 : decode cX6_best 7 = .ok (.iconst 0, 1) := by decide +kernel
theorem dX6_best_8 : decode cX6_best 8 = .ok (.iaload, 1) := by decide +kernel
theorem dX6_best_9 : decode cX6_best 9 = .ok (.if_icmp .ge 30, 3) := by decide +kernel
theorem dX6_best_12 : decode cX6_best 12 = .ok (.aload_n 0, 1) := by decide +kernel
theorem dX6_best_13 : decode cX6_best 13 = .ok (.iload_n 1, 1) := by decide +kernel
theorem dX6_best_14 : decode cX6_best 14 = .ok (.invokevirtual 262, 3) := by decide +kernel
theorem dX6_best_17 : decode cX6_best 17 = .ok (.ifCond .le 16, 3) := by decide +kernel
theorem dX6_best_20 : decode cX6_best 20 = .ok (.iconst 4, 1) := by decide +kernel
theorem dX6_best_21 : decode cX6_best 21 = .ok (.iload_n 1, 1) := by decide +kernel
theorem dX6_best_22 : decode cX6_best 22 = .ok (.imul, 1) := by decide +kernel
theorem dX6_best_23 : decode cX6_best 23 = .ok (.aload_n 0, 1) := by decide +kernel
theorem dX6_best_24 : decode cX6_best 24 = .ok (.iload_n 1, 1) := by decide +kernel
theorem dX6_best_25 : decode cX6_best 25 = .ok (.invokevirtual 262, 3) := by decide +kernel
theorem dX6_best_28 : decode cX6_best 28 = .ok (.invokestatic 174, 3) := by decide +kernel
theorem dX6_best_31 : decode cX6_best 31 = .ok (.iadd, 1) := by decide +kernel
theorem dX6_best_32 : decode cX6_best 32 = .ok (.ireturn, 1) := by decide +kernel
theorem dX6_best_33 : decode cX6_best 33 = .ok (.iinc 1 1, 3) := by decide +kernel
theorem dX6_best_36 : decode cX6_best 36 = .ok (.goto (-34), 3) := by decide +kernel
theorem dX6_best_39 : decode cX6_best 39 = .ok (.aload_n 0, 1) := by decide +kernel
theorem dX6_best_40 : decode cX6_best 40 = .ok (.invokevirtual 259, 3) := by decide +kernel
theorem dX6_best_43 : decode cX6_best 43 = .ok (.ifCond .eq 6, 3) := by decide +kernel
theorem dX6_best_46 : decode cX6_best 46 = .ok (.bipush 100, 2) := by decide +kernel
theorem dX6_best_48 : decode cX6_best 48 = .ok (.ireturn, 1) := by decide +kernel
theorem dX6_best_49 : decode cX6_best 49 = .ok (.iconst (-1), 1) := by decide +kernel
theorem dX6_best_50 : decode cX6_best 50 = .ok (.istore_n 1, 1) := by decide +kernel
theorem dX6_best_51 : decode cX6_best 51 = .ok (.iconst 0, 1) := by decide +kernel
theorem dX6_best_52 : decode cX6_best 52 = .ok (.istore_n 2, 1) := by decide +kernel
theorem dX6_best_53 : decode cX6_best 53 = .ok (.iconst 0, 1) := by decide +kernel
theorem dX6_best_54 : decode cX6_best 54 = .ok (.istore_n 3, 1) := by decide +kernel
theorem dX6_best_55 : decode cX6_best 55 = .ok (.iload_n 3, 1) := by decide +kernel
theorem dX6_best_56 : decode cX6_best 56 = .ok (.aload_n 0, 1) := by decide +kernel
theorem dX6_best_57 : decode cX6_best 57 = .ok (.getfield 7, 3) := by decide +kernel
theorem dX6_best_60 : decode cX6_best 60 = .ok (.iconst 0, 1) := by decide +kernel
theorem dX6_best_61 : decode cX6_best 61 = .ok (.iaload, 1) := by decide +kernel
theorem dX6_best_62 : decode cX6_best 62 = .ok (.if_icmp .ge 102, 3) := by decide +kernel
theorem dX6_best_65 : decode cX6_best 65 = .ok (.aload_n 0, 1) := by decide +kernel
theorem dX6_best_66 : decode cX6_best 66 = .ok (.iload_n 3, 1) := by decide +kernel
theorem dX6_best_67 : decode cX6_best 67 = .ok (.invokevirtual 199, 3) := by decide +kernel
theorem dX6_best_70 : decode cX6_best 70 = .ok (.istore 4, 2) := by decide +kernel
theorem dX6_best_72 : decode cX6_best 72 = .ok (.iconst 0, 1) := by decide +kernel
theorem dX6_best_73 : decode cX6_best 73 = .ok (.istore 5, 2) := by decide +kernel
theorem dX6_best_75 : decode cX6_best 75 = .ok (.iload 5, 2) := by decide +kernel
theorem dX6_best_77 : decode cX6_best 77 = .ok (.aload_n 0, 1) := by decide +kernel
theorem dX6_best_78 : decode cX6_best 78 = .ok (.getfield 7, 3) := by decide +kernel
theorem dX6_best_81 : decode cX6_best 81 = .ok (.iconst 1, 1) := by decide +kernel
theorem dX6_best_82 : decode cX6_best 82 = .ok (.iaload, 1) := by decide +kernel
theorem dX6_best_83 : decode cX6_best 83 = .ok (.if_icmp .ge 75, 3) := by decide +kernel
theorem dX6_best_86 : decode cX6_best 86 = .ok (.iload 4, 2) := by decide +kernel
theorem dX6_best_88 : decode cX6_best 88 = .ok (.iload 5, 2) := by decide +kernel
theorem dX6_best_90 : decode cX6_best 90 = .ok (.ishr, 1) := by decide +kernel
theorem dX6_best_91 : decode cX6_best 91 = .ok (.iconst 1, 1) := by decide +kernel
theorem dX6_best_92 : decode cX6_best 92 = .ok (.iand, 1) := by decide +kernel
theorem dX6_best_93 : decode cX6_best 93 = .ok (.iconst 1, 1) := by decide +kernel
theorem dX6_best_94 : decode cX6_best 94 = .ok (.if_icmp .ne 25, 3) := by decide +kernel
theorem dX6_best_97 : decode cX6_best 97 = .ok (.aload_n 0, 1) := by decide +kernel
theorem dX6_best_98 : decode cX6_best 98 = .ok (.iload_n 3, 1) := by decide +kernel
theorem dX6_best_99 : decode cX6_best 99 = .ok (.iload 5, 2) := by decide +kernel
theorem dX6_best_101 : decode cX6_best 101 = .ok (.invokevirtual 241, 3) := by decide +kernel
theorem dX6_best_104 : decode cX6_best 104 = .ok (.iconst 5, 1) := by decide +kernel
theorem dX6_best_105 : decode cX6_best 105 = .ok (.ishr, 1) := by decide +kernel
theorem dX6_best_106 : decode cX6_best 106 = .ok (.bipush 31, 2) := by decide +kernel
theorem dX6_best_108 : decode cX6_best 108 = .ok (.iand, 1) := by decide +kernel
theorem dX6_best_109 : decode cX6_best 109 = .ok (.aload_n 0, 1) := by decide +kernel
theorem dX6_best_110 : decode cX6_best 110 = .ok (.getfield 7, 3) := by decide +kernel
theorem dX6_best_113 : decode cX6_best 113 = .ok (.iconst 2, 1) := by decide +kernel
theorem dX6_best_114 : decode cX6_best 114 = .ok (.iaload, 1) := by decide +kernel
theorem dX6_best_115 : decode cX6_best 115 = .ok (.iadd, 1) := by decide +kernel
theorem dX6_best_116 : decode cX6_best 116 = .ok (.goto 4, 3) := by decide +kernel
theorem dX6_best_119 : decode cX6_best 119 = .ok (.iconst (-1), 1) := by decide +kernel
theorem dX6_best_120 : decode cX6_best 120 = .ok (.istore 6, 2) := by decide +kernel
theorem dX6_best_122 : decode cX6_best 122 = .ok (.iload 6, 2) := by decide +kernel
theorem dX6_best_124 : decode cX6_best 124 = .ok (.iconst (-1), 1) := by decide +kernel
theorem dX6_best_125 : decode cX6_best 125 = .ok (.if_icmp .eq 27, 3) := by decide +kernel
theorem dX6_best_128 : decode cX6_best 128 = .ok (.iload_n 1, 1) := by decide +kernel
theorem dX6_best_129 : decode cX6_best 129 = .ok (.iconst (-1), 1) := by decide +kernel
theorem dX6_best_130 : decode cX6_best 130 = .ok (.if_icmp .eq 12, 3) := by decide +kernel
theorem dX6_best_133 : decode cX6_best 133 = .ok (.iload 6, 2) := by decide +kernel
theorem dX6_best_135 : decode cX6_best 135 = .ok (.iload_n 2, 1) := by decide +kernel
theorem dX6_best_136 : decode cX6_best 136 = .ok (.if_icmp .gt 6, 3) := by decide +kernel
theorem dX6_best_139 : decode cX6_best 139 = .ok (.goto 13, 3) := by decide +kernel
theorem dX6_best_142 : decode cX6_best 142 = .ok (.iconst 4, 1) := by decide +kernel
theorem dX6_best_143 : decode cX6_best 143 = .ok (.iload_n 3, 1) := by decide +kernel
theorem dX6_best_144 : decode cX6_best 144 = .ok (.imul, 1) := by decide +kernel
theorem dX6_best_145 : decode cX6_best 145 = .ok (.iload 5, 2) := by decide +kernel
theorem dX6_best_147 : decode cX6_best 147 = .ok (.iadd, 1) := by decide +kernel
theorem dX6_best_148 : decode cX6_best 148 = .ok (.istore_n 1, 1) := by decide +kernel
theorem dX6_best_149 : decode cX6_best 149 = .ok (.iload 6, 2) := by decide +kernel
theorem dX6_best_151 : decode cX6_best 151 = .ok (.istore_n 2, 1) := by decide +kernel
theorem dX6_best_152 : decode cX6_best 152 = .ok (.iinc 5 1, 3) := by decide +kernel
theorem dX6_best_155 : decode cX6_best 155 = .ok (.goto (-80), 3) := by decide +kernel
theorem dX6_best_158 : decode cX6_best 158 = .ok (.iinc 3 1, 3) := by decide +kernel
theorem dX6_best_161 : decode cX6_best 161 = .ok (.goto (-106), 3) := by decide +kernel
theorem dX6_best_164 : decode cX6_best 164 = .ok (.aload_n 0, 1) := by decide +kernel
theorem dX6_best_165 : decode cX6_best 165 = .ok (.getfield 7, 3) := by decide +kernel
theorem dX6_best_168 : decode cX6_best 168 = .ok (.iconst 2, 1) := by decide +kernel
theorem dX6_best_169 : decode cX6_best 169 = .ok (.iaload, 1) := by decide +kernel
theorem dX6_best_170 : decode cX6_best 170 = .ok (.ifCond .le 33, 3) := by decide +kernel
theorem dX6_best_173 : decode cX6_best 173 = .ok (.iload_n 1, 1) := by decide +kernel
theorem dX6_best_174 : decode cX6_best 174 = .ok (.iconst (-1), 1) := by decide +kernel
theorem dX6_best_175 : decode cX6_best 175 = .ok (.if_icmp .eq 25, 3) := by decide +kernel
theorem dX6_best_178 : decode cX6_best 178 = .ok (.aload_n 0, 1) := by decide +kernel
theorem dX6_best_179 : decode cX6_best 179 = .ok (.invokevirtual 238, 3) := by decide +kernel
theorem dX6_best_182 : decode cX6_best 182 = .ok (.iconst 5, 1) := by decide +kernel
theorem dX6_best_183 : decode cX6_best 183 = .ok (.ishr, 1) := by decide +kernel
theorem dX6_best_184 : decode cX6_best 184 = .ok (.bipush 31, 2) := by decide +kernel
theorem dX6_best_186 : decode cX6_best 186 = .ok (.iand, 1) := by decide +kernel
theorem dX6_best_187 : decode cX6_best 187 = .ok (.aload_n 0, 1) := by decide +kernel
theorem dX6_best_188 : decode cX6_best 188 = .ok (.getfield 7, 3) := by decide +kernel
theorem dX6_best_191 : decode cX6_best 191 = .ok (.iconst 2, 1) := by decide +kernel
theorem dX6_best_192 : decode cX6_best 192 = .ok (.iaload, 1) := by decide +kernel
theorem dX6_best_193 : decode cX6_best 193 = .ok (.iadd, 1) := by decide +kernel
theorem dX6_best_194 : decode cX6_best 194 = .ok (.iconst 1, 1) := by decide +kernel
theorem dX6_best_195 : decode cX6_best 195 = .ok (.isub, 1) := by decide +kernel
theorem dX6_best_196 : decode cX6_best 196 = .ok (.iload_n 2, 1) := by decide +kernel
theorem dX6_best_197 : decode cX6_best 197 = .ok (.if_icmp .le 6, 3) := by decide +kernel
theorem dX6_best_200 : decode cX6_best 200 = .ok (.bipush 100, 2) := by decide +kernel
theorem dX6_best_202 : decode cX6_best 202 = .ok (.istore_n 1, 1) := by decide +kernel
theorem dX6_best_203 : decode cX6_best 203 = .ok (.iload_n 1, 1) := by decide +kernel
theorem dX6_best_204 : decode cX6_best 204 = .ok (.ireturn, 1) := by decide +kernel
theorem dX6_bestMove_0 : decode cX6_bestMove 0 = .ok (.aload_n 0, 1) := by decide +kernel
theorem dX6_bestMove_1 : decode cX6_bestMove 1 = .ok (.aload_n 0, 1) := by decide +kernel
theorem dX6_bestMove_2 : decode cX6_bestMove 2 = .ok (.invokevirtual 213, 3) := by decide +kernel
theorem dX6_bestMove_5 : decode cX6_bestMove 5 = .ok (.ifCond .eq 7, 3) := by decide +kernel
theorem dX6_bestMove_8 : decode cX6_bestMove 8 = .ok (.iconst 1, 1) := by decide +kernel
theorem dX6_bestMove_9 : decode cX6_bestMove 9 = .ok (.goto 4, 3) := by decide +kernel
theorem dX6_bestMove_12 : decode cX6_bestMove 12 = .ok (.iconst 0, 1) := by decide +kernel
theorem dX6_bestMove_13 : decode cX6_bestMove 13 = .ok (.putfield 47, 3) := by decide +kernel
theorem dX6_bestMove_16 : decode cX6_bestMove 16 = .ok (.aload_n 0, 1) := by decide +kernel
theorem dX6_bestMove_17 : decode cX6_bestMove 17 = .ok (.getfield 47, 3) := by decide +kernel
theorem dX6_bestMove_20 : decode cX6_bestMove 20 = .ok (.ifCond .le 5, 3) := by decide +kernel
theorem dX6_bestMove_23 : decode cX6_bestMove 23 = .ok (.iconst 0, 1) := by decide +kernel
theorem dX6_bestMove_24 : decode cX6_bestMove 24 = .ok (.ireturn, 1) := by decide +kernel
theorem dX6_bestMove_25 : decode cX6_bestMove 25 = .ok (.aload_n 0, 1) := by decide +kernel
theorem dX6_bestMove_26 : decode cX6_bestMove 26 = .ok (.invokevirtual 253, 3) := by decide +kernel
theorem dX6_bestMove_29 : decode cX6_bestMove 29 = .ok (.aload_n 0, 1) := by decide +kernel
theorem dX6_bestMove_30 : decode cX6_bestMove 30 = .ok (.invokevirtual 265, 3) := by decide +kernel
theorem dX6_bestMove_33 : decode cX6_bestMove 33 = .ok (.ireturn, 1) := by decide +kernel
theorem dX6_longest_0 : decode cX6_longest 0 = .ok (.aload_n 0, 1) := by decide +kernel
theorem dX6_longest_1 : decode cX6_longest 1 = .ok (.iconst 0, 1) := by decide +kernel
theorem dX6_longest_2 : decode cX6_longest 2 = .ok (.putfield 47, 3) := by decide +kernel
theorem dX6_longest_5 : decode cX6_longest 5 = .ok (.aload_n 0, 1) := by decide +kernel
theorem dX6_longest_6 : decode cX6_longest 6 = .ok (.invokevirtual 253, 3) := by decide +kernel
theorem dX6_longest_9 : decode cX6_longest 9 = .ok (.aload_n 0, 1) := by decide +kernel
theorem dX6_longest_10 : decode cX6_longest 10 = .ok (.invokevirtual 238, 3) := by decide +kernel
theorem dX6_longest_13 : decode cX6_longest 13 = .ok (.iconst 5, 1) := by decide +kernel
theorem dX6_longest_14 : decode cX6_longest 14 = .ok (.ishr, 1) := by decide +kernel
theorem dX6_longest_15 : decode cX6_longest 15 = .ok (.bipush 31, 2) := by decide +kernel
theorem dX6_longest_17 : decode cX6_longest 17 = .ok (.iand, 1) := by decide +kernel
theorem dX6_longest_18 : decode cX6_longest 18 = .ok (.aload_n 0, 1) := by decide +kernel
theorem dX6_longest_19 : decode cX6_longest 19 = .ok (.getfield 7, 3) := by decide +kernel
theorem dX6_longest_22 : decode cX6_longest 22 = .ok (.iconst 2, 1) := by decide +kernel
theorem dX6_longest_23 : decode cX6_longest 23 = .ok (.iaload, 1) := by decide +kernel
theorem dX6_longest_24 : decode cX6_longest 24 = .ok (.iadd, 1) := by decide +kernel
theorem dX6_longest_25 : decode cX6_longest 25 = .ok (.ireturn, 1) := by decide +kernel
theorem dX6_shortest_0 : decode cX6_shortest 0 = .ok (.aload_n 0, 1) := by decide +kernel
theorem dX6_shortest_1 : decode cX6_shortest 1 = .ok (.iconst 0, 1) := by decide +kernel
theorem dX6_shortest_2 : decode cX6_shortest 2 = .ok (.putfield 47, 3) := by decide +kernel
theorem dX6_shortest_5 : decode cX6_shortest 5 = .ok (.aload_n 0, 1) := by decide +kernel
theorem dX6_shortest_6 : decode cX6_shortest 6 = .ok (.invokevirtual 253, 3) := by decide +kernel
theorem dX6_shortest_9 : decode cX6_shortest 9 = .ok (.aload_n 0, 1) := by decide +kernel
theorem dX6_shortest_10 : decode cX6_shortest 10 = .ok (.invokevirtual 238, 3) := by decide +kernel
theorem dX6_shortest_13 : decode cX6_shortest 13 = .ok (.bipush 10, 2) := by decide +kernel
theorem dX6_shortest_15 : decode cX6_shortest 15 = .ok (.ishr, 1) := by decide +kernel
theorem dX6_shortest_16 : decode cX6_shortest 16 = .ok (.aload_n 0, 1) := by decide +kernel
theorem dX6_shortest_17 : decode cX6_shortest 17 = .ok (.getfield 7, 3) := by decide +kernel
theorem dX6_shortest_20 : decode cX6_shortest 20 = .ok (.iconst 2, 1) := by decide +kernel
theorem dX6_shortest_21 : decode cX6_shortest 21 = .ok (.iaload, 1) := by decide +kernel
theorem dX6_shortest_22 : decode cX6_shortest 22 = .ok (.iadd, 1) := by decide +kernel
theorem dX6_shortest_23 : decode cX6_shortest 23 = .ok (.ireturn, 1) := by decide +kernel
theorem dX6_meanValue_0 : decode cX6_meanValue 0 = .ok (.aload_n 0, 1) := by decide +kernel
theorem dX6_meanValue_1 : decode cX6_meanValue 1 = .ok (.iconst 0, 1) := by decide +kernel
theorem dX6_meanValue_2 : decode cX6_meanValue 2 = .ok (.putfield 47, 3) := by decide +kernel
theorem dX6_meanValue_5 : decode cX6_meanValue 5 = .ok (.aload_n 0, 1) := by decide +kernel
theorem dX6_meanValue_6 : decode cX6_meanValue 6 = .ok (.invokevirtual 253, 3) := by decide +kernel
theorem dX6_meanValue_9 : decode cX6_meanValue 9 = .ok (.aload_n 0, 1) := by decide +kernel
theorem dX6_meanValue_10 : decode cX6_meanValue 10 = .ok (.aload_n 0, 1) := by decide +kernel
theorem dX6_meanValue_11 : decode cX6_meanValue 11 = .ok (.invokevirtual 180, 3) := by decide +kernel
theorem dX6_meanValue_14 : decode cX6_meanValue 14 = .ok (.invokevirtual 207, 3) := by decide +kernel
theorem dX6_meanValue_17 : decode cX6_meanValue 17 = .ok (.istore_n 1, 1) := by decide +kernel
theorem dX6_meanValue_18 : decode cX6_meanValue 18 = .ok (.iconst 0, 1) := by decide +kernel
theorem dX6_meanValue_19 : decode cX6_meanValue 19 = .ok (.istore_n 2, 1) := by decide +kernel
theorem dX6_meanValue_20 : decode cX6_meanValue 20 = .ok (.iconst 0, 1) := by decide +kernel
theorem dX6_meanValue_21 : decode cX6_meanValue 21 = .ok (.istore_n 3, 1) := by decide +kernel
theorem dX6_meanValue_22 : decode cX6_meanValue 22 = .ok (.iload_n 3, 1) := by decide +kernel
theorem dX6_meanValue_23 : decode cX6_meanValue 23 = .ok (.iload_n 1, 1) := by decide +kernel
theorem dX6_meanValue_24 : decode cX6_meanValue 24 = .ok (.if_icmp .ge 36, 3) := by decide +kernel
theorem dX6_meanValue_27 : decode cX6_meanValue 27 = .ok (.iload_n 2, 1) := by decide +kernel
theorem dX6_meanValue_28 : decode cX6_meanValue 28 = .ok (.aload_n 0, 1) := by decide +kernel
theorem dX6_meanValue_29 : decode cX6_meanValue 29 = .ok (.aload_n 0, 1) := by decide +kernel
theorem dX6_meanValue_30 : decode cX6_meanValue 30 = .ok (.iload_n 3, 1) := by decide +kernel
theorem dX6_meanValue_31 : decode cX6_meanValue 31 = .ok (.invokevirtual 244, 3) := by decide +kernel
theorem dX6_meanValue_34 : decode cX6_meanValue 34 = .ok (.aload_n 0, 1) := by decide +kernel
theorem dX6_meanValue_35 : decode cX6_meanValue 35 = .ok (.aload_n 0, 1) := by decide +kernel
theorem dX6_meanValue_36 : decode cX6_meanValue 36 = .ok (.iload_n 3, 1) := by decide +kernel
theorem dX6_meanValue_37 : decode cX6_meanValue 37 = .ok (.invokevirtual 244, 3) := by decide +kernel
theorem dX6_meanValue_40 : decode cX6_meanValue 40 = .ok (.invokestatic 174, 3) := by decide +kernel
theorem dX6_meanValue_43 : decode cX6_meanValue 43 = .ok (.invokevirtual 192, 3) := by decide +kernel
theorem dX6_meanValue_46 : decode cX6_meanValue 46 = .ok (.invokevirtual 229, 3) := by decide +kernel
theorem dX6_meanValue_49 : decode cX6_meanValue 49 = .ok (.bipush 31, 2) := by decide +kernel
theorem dX6_meanValue_51 : decode cX6_meanValue 51 = .ok (.iand, 1) := by decide +kernel
theorem dX6_meanValue_52 : decode cX6_meanValue 52 = .ok (.iadd, 1) := by decide +kernel
theorem dX6_meanValue_53 : decode cX6_meanValue 53 = .ok (.istore_n 2, 1) := by decide +kernel
theorem dX6_meanValue_54 : decode cX6_meanValue 54 = .ok (.iinc 3 1, 3) := by decide +kernel
theorem dX6_meanValue_57 : decode cX6_meanValue 57 = .ok (.goto (-35), 3) := by decide +kernel
theorem dX6_meanValue_60 : decode cX6_meanValue 60 = .ok (.iload_n 1, 1) := by decide +kernel
theorem dX6_meanValue_61 : decode cX6_meanValue 61 = .ok (.ifCond .ne 7, 3) := by decide +kernel
theorem dX6_meanValue_64 : decode cX6_meanValue 64 = .ok (.fconst 0, 1) := by decide +kernel
theorem dX6_meanValue_65 : decode cX6_meanValue 65 = .ok (.goto 8, 3) := by decide +kernel
theorem dX6_meanValue_68 : decode cX6_meanValue 68 = .ok (.iload_n 2, 1) := by decide +kernel
theorem dX6_meanValue_69 : decode cX6_meanValue 69 = .ok (.i2f, 1) := by decide +kernel
theorem dX6_meanValue_70 : decode cX6_meanValue 70 = .ok (.iload_n 1, 1) := by decide +kernel
theorem dX6_meanValue_71 : decode cX6_meanValue 71 = .ok (.i2f, 1) := by decide +kernel
theorem dX6_meanValue_72 : decode cX6_meanValue 72 = .ok (.fdiv, 1) := by decide +kernel
theorem dX6_meanValue_73 : decode cX6_meanValue 73 = .ok (.freturn, 1) := by decide +kernel
theorem dX6_falls_0 : decode cX6_falls 0 = .ok (.aload_n 0, 1) := by decide +kernel
theorem dX6_falls_1 : decode cX6_falls 1 = .ok (.aload_n 0, 1) := by decide +kernel
theorem dX6_falls_2 : decode cX6_falls 2 = .ok (.iload_n 1, 1) := by decide +kernel
theorem dX6_falls_3 : decode cX6_falls 3 = .ok (.invokevirtual 220, 3) := by decide +kernel
theorem dX6_falls_6 : decode cX6_falls 6 = .ok (.ifCond .ne 7, 3) := by decide +kernel
theorem dX6_falls_9 : decode cX6_falls 9 = .ok (.iconst 1, 1) := by decide +kernel
theorem dX6_falls_10 : decode cX6_falls 10 = .ok (.goto 16, 3) := by decide +kernel
theorem dX6_falls_13 : decode cX6_falls 13 = .ok (.aload_n 0, 1) := by decide +kernel
theorem dX6_falls_14 : decode cX6_falls 14 = .ok (.iload_n 1, 1) := by decide +kernel
theorem dX6_falls_15 : decode cX6_falls 15 = .ok (.invokevirtual 170, 3) := by decide +kernel
theorem dX6_falls_18 : decode cX6_falls 18 = .ok (.ifCond .eq 7, 3) := by decide +kernel
theorem dX6_falls_21 : decode cX6_falls 21 = .ok (.iconst 0, 1) := by decide +kernel
theorem dX6_falls_22 : decode cX6_falls 22 = .ok (.goto 4, 3) := by decide +kernel
theorem dX6_falls_25 : decode cX6_falls 25 = .ok (.iconst 2, 1) := by decide +kernel
theorem dX6_falls_26 : decode cX6_falls 26 = .ok (.putfield 47, 3) := by decide +kernel
theorem dX6_falls_29 : decode cX6_falls 29 = .ok (.aload_n 0, 1) := by decide +kernel
theorem dX6_falls_30 : decode cX6_falls 30 = .ok (.getfield 47, 3) := by decide +kernel
theorem dX6_falls_33 : decode cX6_falls 33 = .ok (.ifCond .le 7, 3) := by decide +kernel
theorem dX6_falls_36 : decode cX6_falls 36 = .ok (.iconst 0, 1) := by decide +kernel
theorem dX6_falls_37 : decode cX6_falls 37 = .ok (.goto 22, 3) := by decide +kernel
theorem dX6_falls_40 : decode cX6_falls 40 = .ok (.aload_n 0, 1) := by decide +kernel
theorem dX6_falls_41 : decode cX6_falls 41 = .ok (.aload_n 0, 1) := by decide +kernel
theorem dX6_falls_42 : decode cX6_falls 42 = .ok (.iload_n 1, 1) := by decide +kernel
theorem dX6_falls_43 : decode cX6_falls 43 = .ok (.aload_n 0, 1) := by decide +kernel
theorem dX6_falls_44 : decode cX6_falls 44 = .ok (.invokevirtual 180, 3) := by decide +kernel
theorem dX6_falls_47 : decode cX6_falls 47 = .ok (.invokevirtual 177, 3) := by decide +kernel
theorem dX6_falls_50 : decode cX6_falls 50 = .ok (.iconst 1, 1) := by decide +kernel
theorem dX6_falls_51 : decode cX6_falls 51 = .ok (.iload_n 1, 1) := by decide +kernel
theorem dX6_falls_52 : decode cX6_falls 52 = .ok (.ishl, 1) := by decide +kernel
theorem dX6_falls_53 : decode cX6_falls 53 = .ok (.iconst (-1), 1) := by decide +kernel
theorem dX6_falls_54 : decode cX6_falls 54 = .ok (.ixor, 1) := by decide +kernel
theorem dX6_falls_55 : decode cX6_falls 55 = .ok (.iand, 1) := by decide +kernel
theorem dX6_falls_56 : decode cX6_falls 56 = .ok (.invokevirtual 207, 3) := by decide +kernel
theorem dX6_falls_59 : decode cX6_falls 59 = .ok (.ireturn, 1) := by decide +kernel
theorem dX6_valueWithout_0 : decode cX6_valueWithout 0 = .ok (.aload_n 0, 1) := by decide +kernel
theorem dX6_valueWithout_1 : decode cX6_valueWithout 1 = .ok (.aload_n 0, 1) := by decide +kernel
theorem dX6_valueWithout_2 : decode cX6_valueWithout 2 = .ok (.iload_n 1, 1) := by decide +kernel
theorem dX6_valueWithout_3 : decode cX6_valueWithout 3 = .ok (.invokevirtual 220, 3) := by decide +kernel
theorem dX6_valueWithout_6 : decode cX6_valueWithout 6 = .ok (.ifCond .ne 7, 3) := by decide +kernel
theorem dX6_valueWithout_9 : decode cX6_valueWithout 9 = .ok (.iconst 1, 1) := by decide +kernel
theorem dX6_valueWithout_10 : decode cX6_valueWithout 10 = .ok (.goto 16, 3) := by decide +kernel
theorem dX6_valueWithout_13 : decode cX6_valueWithout 13 = .ok (.aload_n 0, 1) := by decide +kernel
theorem dX6_valueWithout_14 : decode cX6_valueWithout 14 = .ok (.iload_n 1, 1) := by decide +kernel
theorem dX6_valueWithout_15 : decode cX6_valueWithout 15 = .ok (.invokevirtual 170, 3) := by decide +kernel
theorem dX6_valueWithout_18 : decode cX6_valueWithout 18 = .ok (.ifCond .eq 7, 3) := by decide +kernel
theorem dX6_valueWithout_21 : decode cX6_valueWithout 21 = .ok (.iconst 0, 1) := by decide +kernel
theorem dX6_valueWithout_22 : decode cX6_valueWithout 22 = .ok (.goto 4, 3) := by decide +kernel
theorem dX6_valueWithout_25 : decode cX6_valueWithout 25 = .ok (.iconst 2, 1) := by decide +kernel
theorem dX6_valueWithout_26 : decode cX6_valueWithout 26 = .ok (.putfield 47, 3) := by decide +kernel
theorem dX6_valueWithout_29 : decode cX6_valueWithout 29 = .ok (.aload_n 0, 1) := by decide +kernel
theorem dX6_valueWithout_30 : decode cX6_valueWithout 30 = .ok (.getfield 47, 3) := by decide +kernel
theorem dX6_valueWithout_33 : decode cX6_valueWithout 33 = .ok (.ifCond .le 5, 3) := by decide +kernel
theorem dX6_valueWithout_36 : decode cX6_valueWithout 36 = .ok (.iconst 0, 1) := by decide +kernel
theorem dX6_valueWithout_37 : decode cX6_valueWithout 37 = .ok (.ireturn, 1) := by decide +kernel
theorem dX6_valueWithout_38 : decode cX6_valueWithout 38 = .ok (.aload_n 0, 1) := by decide +kernel
theorem dX6_valueWithout_39 : decode cX6_valueWithout 39 = .ok (.invokevirtual 253, 3) := by decide +kernel
theorem dX6_valueWithout_42 : decode cX6_valueWithout 42 = .ok (.aload_n 0, 1) := by decide +kernel
theorem dX6_valueWithout_43 : decode cX6_valueWithout 43 = .ok (.getfield 7, 3) := by decide +kernel
theorem dX6_valueWithout_46 : decode cX6_valueWithout 46 = .ok (.bipush 13, 2) := by decide +kernel
theorem dX6_valueWithout_48 : decode cX6_valueWithout 48 = .ok (.iload_n 1, 1) := by decide +kernel
theorem dX6_valueWithout_49 : decode cX6_valueWithout 49 = .ok (.iadd, 1) := by decide +kernel
theorem dX6_valueWithout_50 : decode cX6_valueWithout 50 = .ok (.iaload, 1) := by decide +kernel
theorem dX6_valueWithout_51 : decode cX6_valueWithout 51 = .ok (.istore_n 2, 1) := by decide +kernel
theorem dX6_valueWithout_52 : decode cX6_valueWithout 52 = .ok (.aload_n 0, 1) := by decide +kernel
theorem dX6_valueWithout_53 : decode cX6_valueWithout 53 = .ok (.invokevirtual 256, 3) := by decide +kernel
theorem dX6_valueWithout_56 : decode cX6_valueWithout 56 = .ok (.istore_n 3, 1) := by decide +kernel
theorem dX6_valueWithout_57 : decode cX6_valueWithout 57 = .ok (.aload_n 0, 1) := by decide +kernel
theorem dX6_valueWithout_58 : decode cX6_valueWithout 58 = .ok (.iload_n 1, 1) := by decide +kernel
theorem dX6_valueWithout_59 : decode cX6_valueWithout 59 = .ok (.invokevirtual 192, 3) := by decide +kernel
theorem dX6_valueWithout_62 : decode cX6_valueWithout 62 = .ok (.istore 4, 2) := by decide +kernel
theorem dX6_valueWithout_64 : decode cX6_valueWithout 64 = .ok (.aload_n 0, 1) := by decide +kernel
theorem dX6_valueWithout_65 : decode cX6_valueWithout 65 = .ok (.iload_n 1, 1) := by decide +kernel
theorem dX6_valueWithout_66 : decode cX6_valueWithout 66 = .ok (.aload_n 0, 1) := by decide +kernel
theorem dX6_valueWithout_67 : decode cX6_valueWithout 67 = .ok (.invokevirtual 180, 3) := by decide +kernel
theorem dX6_valueWithout_70 : decode cX6_valueWithout 70 = .ok (.invokevirtual 177, 3) := by decide +kernel
theorem dX6_valueWithout_73 : decode cX6_valueWithout 73 = .ok (.istore 5, 2) := by decide +kernel
theorem dX6_valueWithout_75 : decode cX6_valueWithout 75 = .ok (.iload_n 3, 1) := by decide +kernel
theorem dX6_valueWithout_76 : decode cX6_valueWithout 76 = .ok (.aload_n 0, 1) := by decide +kernel
theorem dX6_valueWithout_77 : decode cX6_valueWithout 77 = .ok (.iload 5, 2) := by decide +kernel
theorem dX6_valueWithout_79 : decode cX6_valueWithout 79 = .ok (.iload 4, 2) := by decide +kernel
theorem dX6_valueWithout_81 : decode cX6_valueWithout 81 = .ok (.invokevirtual 229, 3) := by decide +kernel
theorem dX6_valueWithout_84 : decode cX6_valueWithout 84 = .ok (.bipush 31, 2) := by decide +kernel
theorem dX6_valueWithout_86 : decode cX6_valueWithout 86 = .ok (.iand, 1) := by decide +kernel
theorem dX6_valueWithout_87 : decode cX6_valueWithout 87 = .ok (.ixor, 1) := by decide +kernel
theorem dX6_valueWithout_88 : decode cX6_valueWithout 88 = .ok (.istore_n 3, 1) := by decide +kernel
theorem dX6_valueWithout_89 : decode cX6_valueWithout 89 = .ok (.aload_n 0, 1) := by decide +kernel
theorem dX6_valueWithout_90 : decode cX6_valueWithout 90 = .ok (.invokevirtual 253, 3) := by decide +kernel
theorem dX6_valueWithout_93 : decode cX6_valueWithout 93 = .ok (.iconst 0, 1) := by decide +kernel
theorem dX6_valueWithout_94 : decode cX6_valueWithout 94 = .ok (.istore 6, 2) := by decide +kernel
theorem dX6_valueWithout_96 : decode cX6_valueWithout 96 = .ok (.iload 6, 2) := by decide +kernel
theorem dX6_valueWithout_98 : decode cX6_valueWithout 98 = .ok (.aload_n 0, 1) := by decide +kernel
theorem dX6_valueWithout_99 : decode cX6_valueWithout 99 = .ok (.getfield 7, 3) := by decide +kernel
theorem dX6_valueWithout_102 : decode cX6_valueWithout 102 = .ok (.iconst 0, 1) := by decide +kernel
theorem dX6_valueWithout_103 : decode cX6_valueWithout 103 = .ok (.iaload, 1) := by decide +kernel
theorem dX6_valueWithout_104 : decode cX6_valueWithout 104 = .ok (.if_icmp .ge 27, 3) := by decide +kernel
theorem dX6_valueWithout_107 : decode cX6_valueWithout 107 = .ok (.aload_n 0, 1) := by decide +kernel
theorem dX6_valueWithout_108 : decode cX6_valueWithout 108 = .ok (.getfield 7, 3) := by decide +kernel
theorem dX6_valueWithout_111 : decode cX6_valueWithout 111 = .ok (.bipush 13, 2) := by decide +kernel
theorem dX6_valueWithout_113 : decode cX6_valueWithout 113 = .ok (.iload 6, 2) := by decide +kernel
theorem dX6_valueWithout_115 : decode cX6_valueWithout 115 = .ok (.iadd, 1) := by decide +kernel
theorem dX6_valueWithout_116 : decode cX6_valueWithout 116 = .ok (.dup2, 1) := by decide +kernel
theorem dX6_valueWithout_117 : decode cX6_valueWithout 117 = .ok (.iaload, 1) := by decide +kernel
theorem dX6_valueWithout_118 : decode cX6_valueWithout 118 = .ok (.iconst 1, 1) := by decide +kernel
theorem dX6_valueWithout_119 : decode cX6_valueWithout 119 = .ok (.iload_n 1, 1) := by decide +kernel
theorem dX6_valueWithout_120 : decode cX6_valueWithout 120 = .ok (.ishl, 1) := by decide +kernel
theorem dX6_valueWithout_121 : decode cX6_valueWithout 121 = .ok (.iconst (-1), 1) := by decide +kernel
theorem dX6_valueWithout_122 : decode cX6_valueWithout 122 = .ok (.ixor, 1) := by decide +kernel
theorem dX6_valueWithout_123 : decode cX6_valueWithout 123 = .ok (.iand, 1) := by decide +kernel
theorem dX6_valueWithout_124 : decode cX6_valueWithout 124 = .ok (.iastore, 1) := by decide +kernel
theorem dX6_valueWithout_125 : decode cX6_valueWithout 125 = .ok (.iinc 6 1, 3) := by decide +kernel
theorem dX6_valueWithout_128 : decode cX6_valueWithout 128 = .ok (.goto (-32), 3) := by decide +kernel
theorem dX6_valueWithout_131 : decode cX6_valueWithout 131 = .ok (.aload_n 0, 1) := by decide +kernel
theorem dX6_valueWithout_132 : decode cX6_valueWithout 132 = .ok (.getfield 7, 3) := by decide +kernel
theorem dX6_valueWithout_135 : decode cX6_valueWithout 135 = .ok (.bipush 13, 2) := by decide +kernel
theorem dX6_valueWithout_137 : decode cX6_valueWithout 137 = .ok (.iload_n 1, 1) := by decide +kernel
theorem dX6_valueWithout_138 : decode cX6_valueWithout 138 = .ok (.iadd, 1) := by decide +kernel
theorem dX6_valueWithout_139 : decode cX6_valueWithout 139 = .ok (.iconst 0, 1) := by decide +kernel
theorem dX6_valueWithout_140 : decode cX6_valueWithout 140 = .ok (.iastore, 1) := by decide +kernel
theorem dX6_valueWithout_141 : decode cX6_valueWithout 141 = .ok (.iload_n 3, 1) := by decide +kernel
theorem dX6_valueWithout_142 : decode cX6_valueWithout 142 = .ok (.aload_n 0, 1) := by decide +kernel
theorem dX6_valueWithout_143 : decode cX6_valueWithout 143 = .ok (.iload 5, 2) := by decide +kernel
theorem dX6_valueWithout_145 : decode cX6_valueWithout 145 = .ok (.iconst 1, 1) := by decide +kernel
theorem dX6_valueWithout_146 : decode cX6_valueWithout 146 = .ok (.iload_n 1, 1) := by decide +kernel
theorem dX6_valueWithout_147 : decode cX6_valueWithout 147 = .ok (.ishl, 1) := by decide +kernel
theorem dX6_valueWithout_148 : decode cX6_valueWithout 148 = .ok (.iconst (-1), 1) := by decide +kernel
theorem dX6_valueWithout_149 : decode cX6_valueWithout 149 = .ok (.ixor, 1) := by decide +kernel
theorem dX6_valueWithout_150 : decode cX6_valueWithout 150 = .ok (.iand, 1) := by decide +kernel
theorem dX6_valueWithout_151 : decode cX6_valueWithout 151 = .ok (.iload 4, 2) := by decide +kernel
theorem dX6_valueWithout_153 : decode cX6_valueWithout 153 = .ok (.invokevirtual 235, 3) := by decide +kernel
theorem dX6_valueWithout_156 : decode cX6_valueWithout 156 = .ok (.bipush 31, 2) := by decide +kernel
theorem dX6_valueWithout_158 : decode cX6_valueWithout 158 = .ok (.iand, 1) := by decide +kernel
theorem dX6_valueWithout_159 : decode cX6_valueWithout 159 = .ok (.ixor, 1) := by decide +kernel
theorem dX6_valueWithout_160 : decode cX6_valueWithout 160 = .ok (.istore_n 3, 1) := by decide +kernel
theorem dX6_valueWithout_161 : decode cX6_valueWithout 161 = .ok (.aload_n 0, 1) := by decide +kernel
theorem dX6_valueWithout_162 : decode cX6_valueWithout 162 = .ok (.getfield 7, 3) := by decide +kernel
theorem dX6_valueWithout_165 : decode cX6_valueWithout 165 = .ok (.bipush 13, 2) := by decide +kernel
theorem dX6_valueWithout_167 : decode cX6_valueWithout 167 = .ok (.iload_n 1, 1) := by decide +kernel
theorem dX6_valueWithout_168 : decode cX6_valueWithout 168 = .ok (.iadd, 1) := by decide +kernel
theorem dX6_valueWithout_169 : decode cX6_valueWithout 169 = .ok (.iload_n 2, 1) := by decide +kernel
theorem dX6_valueWithout_170 : decode cX6_valueWithout 170 = .ok (.iastore, 1) := by decide +kernel
theorem dX6_valueWithout_171 : decode cX6_valueWithout 171 = .ok (.iconst 0, 1) := by decide +kernel
theorem dX6_valueWithout_172 : decode cX6_valueWithout 172 = .ok (.istore 6, 2) := by decide +kernel
theorem dX6_valueWithout_174 : decode cX6_valueWithout 174 = .ok (.iload 6, 2) := by decide +kernel
theorem dX6_valueWithout_176 : decode cX6_valueWithout 176 = .ok (.aload_n 0, 1) := by decide +kernel
theorem dX6_valueWithout_177 : decode cX6_valueWithout 177 = .ok (.getfield 7, 3) := by decide +kernel
theorem dX6_valueWithout_180 : decode cX6_valueWithout 180 = .ok (.iconst 0, 1) := by decide +kernel
theorem dX6_valueWithout_181 : decode cX6_valueWithout 181 = .ok (.iaload, 1) := by decide +kernel
theorem dX6_valueWithout_182 : decode cX6_valueWithout 182 = .ok (.if_icmp .ge 30, 3) := by decide +kernel
theorem dX6_valueWithout_185 : decode cX6_valueWithout 185 = .ok (.aload_n 0, 1) := by decide +kernel
theorem dX6_valueWithout_186 : decode cX6_valueWithout 186 = .ok (.getfield 7, 3) := by decide +kernel
theorem dX6_valueWithout_189 : decode cX6_valueWithout 189 = .ok (.bipush 13, 2) := by decide +kernel
theorem dX6_valueWithout_191 : decode cX6_valueWithout 191 = .ok (.iload 6, 2) := by decide +kernel
theorem dX6_valueWithout_193 : decode cX6_valueWithout 193 = .ok (.iadd, 1) := by decide +kernel
theorem dX6_valueWithout_194 : decode cX6_valueWithout 194 = .ok (.dup2, 1) := by decide +kernel
theorem dX6_valueWithout_195 : decode cX6_valueWithout 195 = .ok (.iaload, 1) := by decide +kernel
theorem dX6_valueWithout_196 : decode cX6_valueWithout 196 = .ok (.iload_n 2, 1) := by decide +kernel
theorem dX6_valueWithout_197 : decode cX6_valueWithout 197 = .ok (.iload 6, 2) := by decide +kernel
theorem dX6_valueWithout_199 : decode cX6_valueWithout 199 = .ok (.ishr, 1) := by decide +kernel
theorem dX6_valueWithout_200 : decode cX6_valueWithout 200 = .ok (.iconst 1, 1) := by decide +kernel
theorem dX6_valueWithout_201 : decode cX6_valueWithout 201 = .ok (.iand, 1) := by decide +kernel
theorem dX6_valueWithout_202 : decode cX6_valueWithout 202 = .ok (.iload_n 1, 1) := by decide +kernel
theorem dX6_valueWithout_203 : decode cX6_valueWithout 203 = .ok (.ishl, 1) := by decide +kernel
theorem dX6_valueWithout_204 : decode cX6_valueWithout 204 = .ok (.ior, 1) := by decide +kernel
theorem dX6_valueWithout_205 : decode cX6_valueWithout 205 = .ok (.iastore, 1) := by decide +kernel
theorem dX6_valueWithout_206 : decode cX6_valueWithout 206 = .ok (.iinc 6 1, 3) := by decide +kernel
theorem dX6_valueWithout_209 : decode cX6_valueWithout 209 = .ok (.goto (-35), 3) := by decide +kernel
theorem dX6_valueWithout_212 : decode cX6_valueWithout 212 = .ok (.iload_n 3, 1) := by decide +kernel
theorem dX6_valueWithout_213 : decode cX6_valueWithout 213 = .ok (.ireturn, 1) := by decide +kernel
theorem dX6_notes_0 : decode cX6_notes 0 = .ok (.aload_n 0, 1) := by decide +kernel
theorem dX6_notes_1 : decode cX6_notes 1 = .ok (.aload_n 0, 1) := by decide +kernel
theorem dX6_notes_2 : decode cX6_notes 2 = .ok (.invokevirtual 180, 3) := by decide +kernel
theorem dX6_notes_5 : decode cX6_notes 5 = .ok (.invokevirtual 207, 3) := by decide +kernel
theorem dX6_notes_8 : decode cX6_notes 8 = .ok (.istore 4, 2) := by decide +kernel
theorem dX6_notes_10 : decode cX6_notes 10 = .ok (.aload_n 0, 1) := by decide +kernel
theorem dX6_notes_11 : decode cX6_notes 11 = .ok (.getfield 7, 3) := by decide +kernel
theorem dX6_notes_14 : decode cX6_notes 14 = .ok (.bipush 40, 2) := by decide +kernel
theorem dX6_notes_16 : decode cX6_notes 16 = .ok (.aload_n 0, 1) := by decide +kernel
theorem dX6_notes_17 : decode cX6_notes 17 = .ok (.getfield 7, 3) := by decide +kernel
theorem dX6_notes_20 : decode cX6_notes 20 = .ok (.iconst 3, 1) := by decide +kernel
theorem dX6_notes_21 : decode cX6_notes 21 = .ok (.iaload, 1) := by decide +kernel
theorem dX6_notes_22 : decode cX6_notes 22 = .ok (.iadd, 1) := by decide +kernel
theorem dX6_notes_23 : decode cX6_notes 23 = .ok (.aload_n 0, 1) := by decide +kernel
theorem dX6_notes_24 : decode cX6_notes 24 = .ok (.invokevirtual 210, 3) := by decide +kernel
theorem dX6_notes_27 : decode cX6_notes 27 = .ok (.iload_n 1, 1) := by decide +kernel
theorem dX6_notes_28 : decode cX6_notes 28 = .ok (.iconst 1, 1) := by decide +kernel
theorem dX6_notes_29 : decode cX6_notes 29 = .ok (.iadd, 1) := by decide +kernel
theorem dX6_notes_30 : decode cX6_notes 30 = .ok (.iconst 1, 1) := by decide +kernel
theorem dX6_notes_31 : decode cX6_notes 31 = .ok (.ishl, 1) := by decide +kernel
theorem dX6_notes_32 : decode cX6_notes 32 = .ok (.ior, 1) := by decide +kernel
theorem dX6_notes_33 : decode cX6_notes 33 = .ok (.iload_n 2, 1) := by decide +kernel
theorem dX6_notes_34 : decode cX6_notes 34 = .ok (.iconst 1, 1) := by decide +kernel
theorem dX6_notes_35 : decode cX6_notes 35 = .ok (.iadd, 1) := by decide +kernel
theorem dX6_notes_36 : decode cX6_notes 36 = .ok (.iconst 5, 1) := by decide +kernel
theorem dX6_notes_37 : decode cX6_notes 37 = .ok (.ishl, 1) := by decide +kernel
theorem dX6_notes_38 : decode cX6_notes 38 = .ok (.ior, 1) := by decide +kernel
theorem dX6_notes_39 : decode cX6_notes 39 = .ok (.iload 4, 2) := by decide +kernel
theorem dX6_notes_41 : decode cX6_notes 41 = .ok (.bipush 7, 2) := by decide +kernel
theorem dX6_notes_43 : decode cX6_notes 43 = .ok (.ishl, 1) := by decide +kernel
theorem dX6_notes_44 : decode cX6_notes 44 = .ok (.ior, 1) := by decide +kernel
theorem dX6_notes_45 : decode cX6_notes 45 = .ok (.iload_n 3, 1) := by decide +kernel
theorem dX6_notes_46 : decode cX6_notes 46 = .ok (.bipush 11, 2) := by decide +kernel
theorem dX6_notes_48 : decode cX6_notes 48 = .ok (.ishl, 1) := by decide +kernel
theorem dX6_notes_49 : decode cX6_notes 49 = .ok (.ior, 1) := by decide +kernel
theorem dX6_notes_50 : decode cX6_notes 50 = .ok (.iastore, 1) := by decide +kernel
theorem dX6_notes_51 : decode cX6_notes 51 = .ok (.aload_n 0, 1) := by decide +kernel
theorem dX6_notes_52 : decode cX6_notes 52 = .ok (.getfield 7, 3) := by decide +kernel
theorem dX6_notes_55 : decode cX6_notes 55 = .ok (.iconst 3, 1) := by decide +kernel
theorem dX6_notes_56 : decode cX6_notes 56 = .ok (.dup2, 1) := by decide +kernel
theorem dX6_notes_57 : decode cX6_notes 57 = .ok (.iaload, 1) := by decide +kernel
theorem dX6_notes_58 : decode cX6_notes 58 = .ok (.iconst 1, 1) := by decide +kernel
theorem dX6_notes_59 : decode cX6_notes 59 = .ok (.iadd, 1) := by decide +kernel
theorem dX6_notes_60 : decode cX6_notes 60 = .ok (.iastore, 1) := by decide +kernel
theorem dX6_notes_61 : decode cX6_notes 61 = .ok (.return_, 1) := by decide +kernel
theorem dX6_lays_0 : decode cX6_lays 0 = .ok (.aload_n 0, 1) := by decide +kernel
theorem dX6_lays_1 : decode cX6_lays 1 = .ok (.iload_n 1, 1) := by decide +kernel
theorem dX6_lays_2 : decode cX6_lays 2 = .ok (.aload_n 0, 1) := by decide +kernel
theorem dX6_lays_3 : decode cX6_lays 3 = .ok (.invokevirtual 180, 3) := by decide +kernel
theorem dX6_lays_6 : decode cX6_lays 6 = .ok (.invokevirtual 177, 3) := by decide +kernel
theorem dX6_lays_9 : decode cX6_lays 9 = .ok (.istore_n 3, 1) := by decide +kernel
theorem dX6_lays_10 : decode cX6_lays 10 = .ok (.iconst 0, 1) := by decide +kernel
theorem dX6_lays_11 : decode cX6_lays 11 = .ok (.istore 4, 2) := by decide +kernel
theorem dX6_lays_13 : decode cX6_lays 13 = .ok (.iload 4, 2) := by decide +kernel
theorem dX6_lays_15 : decode cX6_lays 15 = .ok (.aload_n 0, 1) := by decide +kernel
theorem dX6_lays_16 : decode cX6_lays 16 = .ok (.getfield 7, 3) := by decide +kernel
theorem dX6_lays_19 : decode cX6_lays 19 = .ok (.iconst 0, 1) := by decide +kernel
theorem dX6_lays_20 : decode cX6_lays 20 = .ok (.iaload, 1) := by decide +kernel
theorem dX6_lays_21 : decode cX6_lays 21 = .ok (.if_icmp .ge 32, 3) := by decide +kernel
theorem dX6_lays_24 : decode cX6_lays 24 = .ok (.iload_n 3, 1) := by decide +kernel
theorem dX6_lays_25 : decode cX6_lays 25 = .ok (.iload 4, 2) := by decide +kernel
theorem dX6_lays_27 : decode cX6_lays 27 = .ok (.ishr, 1) := by decide +kernel
theorem dX6_lays_28 : decode cX6_lays 28 = .ok (.iconst 1, 1) := by decide +kernel
theorem dX6_lays_29 : decode cX6_lays 29 = .ok (.iand, 1) := by decide +kernel
theorem dX6_lays_30 : decode cX6_lays 30 = .ok (.iconst 1, 1) := by decide +kernel
theorem dX6_lays_31 : decode cX6_lays 31 = .ok (.if_icmp .ne 16, 3) := by decide +kernel
theorem dX6_lays_34 : decode cX6_lays 34 = .ok (.aload_n 0, 1) := by decide +kernel
theorem dX6_lays_35 : decode cX6_lays 35 = .ok (.getfield 7, 3) := by decide +kernel
theorem dX6_lays_38 : decode cX6_lays 38 = .ok (.bipush 31, 2) := by decide +kernel
theorem dX6_lays_40 : decode cX6_lays 40 = .ok (.iload 4, 2) := by decide +kernel
theorem dX6_lays_42 : decode cX6_lays 42 = .ok (.iadd, 1) := by decide +kernel
theorem dX6_lays_43 : decode cX6_lays 43 = .ok (.iload_n 2, 1) := by decide +kernel
theorem dX6_lays_44 : decode cX6_lays 44 = .ok (.iconst 1, 1) := by decide +kernel
theorem dX6_lays_45 : decode cX6_lays 45 = .ok (.iadd, 1) := by decide +kernel
theorem dX6_lays_46 : decode cX6_lays 46 = .ok (.iastore, 1) := by decide +kernel
theorem dX6_lays_47 : decode cX6_lays 47 = .ok (.iinc 4 1, 3) := by decide +kernel
theorem dX6_lays_50 : decode cX6_lays 50 = .ok (.goto (-37), 3) := by decide +kernel
theorem dX6_lays_53 : decode cX6_lays 53 = .ok (.aload_n 0, 1) := by decide +kernel
theorem dX6_lays_54 : decode cX6_lays 54 = .ok (.getfield 7, 3) := by decide +kernel
theorem dX6_lays_57 : decode cX6_lays 57 = .ok (.bipush 22, 2) := by decide +kernel
theorem dX6_lays_59 : decode cX6_lays 59 = .ok (.iload_n 1, 1) := by decide +kernel
theorem dX6_lays_60 : decode cX6_lays 60 = .ok (.iadd, 1) := by decide +kernel
theorem dX6_lays_61 : decode cX6_lays 61 = .ok (.iload_n 2, 1) := by decide +kernel
theorem dX6_lays_62 : decode cX6_lays 62 = .ok (.iconst 1, 1) := by decide +kernel
theorem dX6_lays_63 : decode cX6_lays 63 = .ok (.iadd, 1) := by decide +kernel
theorem dX6_lays_64 : decode cX6_lays 64 = .ok (.iastore, 1) := by decide +kernel
theorem dX6_lays_65 : decode cX6_lays 65 = .ok (.aload_n 0, 1) := by decide +kernel
theorem dX6_lays_66 : decode cX6_lays 66 = .ok (.iload_n 1, 1) := by decide +kernel
theorem dX6_lays_67 : decode cX6_lays 67 = .ok (.iload_n 2, 1) := by decide +kernel
theorem dX6_lays_68 : decode cX6_lays 68 = .ok (.aload_n 0, 1) := by decide +kernel
theorem dX6_lays_69 : decode cX6_lays 69 = .ok (.iload_n 3, 1) := by decide +kernel
theorem dX6_lays_70 : decode cX6_lays 70 = .ok (.iconst 1, 1) := by decide +kernel
theorem dX6_lays_71 : decode cX6_lays 71 = .ok (.iload_n 1, 1) := by decide +kernel
theorem dX6_lays_72 : decode cX6_lays 72 = .ok (.ishl, 1) := by decide +kernel
theorem dX6_lays_73 : decode cX6_lays 73 = .ok (.iconst (-1), 1) := by decide +kernel
theorem dX6_lays_74 : decode cX6_lays 74 = .ok (.ixor, 1) := by decide +kernel
theorem dX6_lays_75 : decode cX6_lays 75 = .ok (.iand, 1) := by decide +kernel
theorem dX6_lays_76 : decode cX6_lays 76 = .ok (.invokevirtual 207, 3) := by decide +kernel
theorem dX6_lays_79 : decode cX6_lays 79 = .ok (.invokevirtual 268, 3) := by decide +kernel
theorem dX6_lays_82 : decode cX6_lays 82 = .ok (.return_, 1) := by decide +kernel
theorem dX6_passes_0 : decode cX6_passes 0 = .ok (.aload_n 0, 1) := by decide +kernel
theorem dX6_passes_1 : decode cX6_passes 1 = .ok (.getfield 7, 3) := by decide +kernel
theorem dX6_passes_4 : decode cX6_passes 4 = .ok (.iconst 2, 1) := by decide +kernel
theorem dX6_passes_5 : decode cX6_passes 5 = .ok (.dup2, 1) := by decide +kernel
theorem dX6_passes_6 : decode cX6_passes 6 = .ok (.iaload, 1) := by decide +kernel
theorem dX6_passes_7 : decode cX6_passes 7 = .ok (.iconst 1, 1) := by decide +kernel
theorem dX6_passes_8 : decode cX6_passes 8 = .ok (.isub, 1) := by decide +kernel
theorem dX6_passes_9 : decode cX6_passes 9 = .ok (.iastore, 1) := by decide +kernel
theorem dX6_passes_10 : decode cX6_passes 10 = .ok (.aload_n 0, 1) := by decide +kernel
theorem dX6_passes_11 : decode cX6_passes 11 = .ok (.iconst (-1), 1) := by decide +kernel
theorem dX6_passes_12 : decode cX6_passes 12 = .ok (.iconst (-1), 1) := by decide +kernel
theorem dX6_passes_13 : decode cX6_passes 13 = .ok (.iconst 0, 1) := by decide +kernel
theorem dX6_passes_14 : decode cX6_passes 14 = .ok (.invokevirtual 268, 3) := by decide +kernel
theorem dX6_passes_17 : decode cX6_passes 17 = .ok (.return_, 1) := by decide +kernel
theorem dX6_lay_0 : decode cX6_lay 0 = .ok (.aload_n 0, 1) := by decide +kernel
theorem dX6_lay_1 : decode cX6_lay 1 = .ok (.aload_n 0, 1) := by decide +kernel
theorem dX6_lay_2 : decode cX6_lay 2 = .ok (.iload_n 1, 1) := by decide +kernel
theorem dX6_lay_3 : decode cX6_lay 3 = .ok (.invokevirtual 220, 3) := by decide +kernel
theorem dX6_lay_6 : decode cX6_lay 6 = .ok (.ifCond .eq 11, 3) := by decide +kernel
theorem dX6_lay_9 : decode cX6_lay 9 = .ok (.aload_n 0, 1) := by decide +kernel
theorem dX6_lay_10 : decode cX6_lay 10 = .ok (.iload_n 2, 1) := by decide +kernel
theorem dX6_lay_11 : decode cX6_lay 11 = .ok (.invokevirtual 226, 3) := by decide +kernel
theorem dX6_lay_14 : decode cX6_lay 14 = .ok (.ifCond .ne 7, 3) := by decide +kernel
theorem dX6_lay_17 : decode cX6_lay 17 = .ok (.iconst 1, 1) := by decide +kernel
theorem dX6_lay_18 : decode cX6_lay 18 = .ok (.goto 17, 3) := by decide +kernel
theorem dX6_lay_21 : decode cX6_lay 21 = .ok (.aload_n 0, 1) := by decide +kernel
theorem dX6_lay_22 : decode cX6_lay 22 = .ok (.iload_n 1, 1) := by decide +kernel
theorem dX6_lay_23 : decode cX6_lay 23 = .ok (.iload_n 2, 1) := by decide +kernel
theorem dX6_lay_24 : decode cX6_lay 24 = .ok (.invokevirtual 127, 3) := by decide +kernel
theorem dX6_lay_27 : decode cX6_lay 27 = .ok (.ifCond .le 7, 3) := by decide +kernel
theorem dX6_lay_30 : decode cX6_lay 30 = .ok (.iconst 2, 1) := by decide +kernel
theorem dX6_lay_31 : decode cX6_lay 31 = .ok (.goto 4, 3) := by decide +kernel
theorem dX6_lay_34 : decode cX6_lay 34 = .ok (.iconst 0, 1) := by decide +kernel
theorem dX6_lay_35 : decode cX6_lay 35 = .ok (.putfield 47, 3) := by decide +kernel
theorem dX6_lay_38 : decode cX6_lay 38 = .ok (.aload_n 0, 1) := by decide +kernel
theorem dX6_lay_39 : decode cX6_lay 39 = .ok (.getfield 47, 3) := by decide +kernel
theorem dX6_lay_42 : decode cX6_lay 42 = .ok (.ifCond .le 5, 3) := by decide +kernel
theorem dX6_lay_45 : decode cX6_lay 45 = .ok (.iconst 0, 1) := by decide +kernel
theorem dX6_lay_46 : decode cX6_lay 46 = .ok (.ireturn, 1) := by decide +kernel
theorem dX6_lay_47 : decode cX6_lay 47 = .ok (.aload_n 0, 1) := by decide +kernel
theorem dX6_lay_48 : decode cX6_lay 48 = .ok (.invokevirtual 167, 3) := by decide +kernel
theorem dX6_lay_51 : decode cX6_lay 51 = .ok (.aload_n 0, 1) := by decide +kernel
theorem dX6_lay_52 : decode cX6_lay 52 = .ok (.iload_n 1, 1) := by decide +kernel
theorem dX6_lay_53 : decode cX6_lay 53 = .ok (.iload_n 2, 1) := by decide +kernel
theorem dX6_lay_54 : decode cX6_lay 54 = .ok (.invokevirtual 130, 3) := by decide +kernel
theorem dX6_lay_57 : decode cX6_lay 57 = .ok (.aload_n 0, 1) := by decide +kernel
theorem dX6_lay_58 : decode cX6_lay 58 = .ok (.aload_n 0, 1) := by decide +kernel
theorem dX6_lay_59 : decode cX6_lay 59 = .ok (.invokevirtual 180, 3) := by decide +kernel
theorem dX6_lay_62 : decode cX6_lay 62 = .ok (.invokevirtual 207, 3) := by decide +kernel
theorem dX6_lay_65 : decode cX6_lay 65 = .ok (.ireturn, 1) := by decide +kernel
theorem dX6_pass_0 : decode cX6_pass 0 = .ok (.aload_n 0, 1) := by decide +kernel
theorem dX6_pass_1 : decode cX6_pass 1 = .ok (.aload_n 0, 1) := by decide +kernel
theorem dX6_pass_2 : decode cX6_pass 2 = .ok (.getfield 7, 3) := by decide +kernel
theorem dX6_pass_5 : decode cX6_pass 5 = .ok (.iconst 2, 1) := by decide +kernel
theorem dX6_pass_6 : decode cX6_pass 6 = .ok (.iaload, 1) := by decide +kernel
theorem dX6_pass_7 : decode cX6_pass 7 = .ok (.ifCond .ne 7, 3) := by decide +kernel
