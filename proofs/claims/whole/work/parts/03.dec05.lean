theorem dX6_partsIn_21 : decode cX6_partsIn 21 = .ok (.iconst (-1), 1) := by decide +kernel
theorem dX6_partsIn_22 : decode cX6_partsIn 22 = .ok (.ixor, 1) := by decide +kernel
theorem dX6_partsIn_23 : decode cX6_partsIn 23 = .ok (.iand, 1) := by decide +kernel
theorem dX6_partsIn_24 : decode cX6_partsIn 24 = .ok (.istore_n 3, 1) := by decide +kernel
theorem dX6_partsIn_25 : decode cX6_partsIn 25 = .ok (.goto (-21), 3) := by decide +kernel
theorem dX6_partsIn_28 : decode cX6_partsIn 28 = .ok (.iload_n 2, 1) := by decide +kernel
theorem dX6_partsIn_29 : decode cX6_partsIn 29 = .ok (.ireturn, 1) := by decide +kernel
theorem dX6_partSet_0 : decode cX6_partSet 0 = .ok (.aload_n 0, 1) := by decide +kernel
theorem dX6_partSet_1 : decode cX6_partSet 1 = .ok (.invokevirtual 180, 3) := by decide +kernel
theorem dX6_partSet_4 : decode cX6_partSet 4 = .ok (.istore_n 2, 1) := by decide +kernel
theorem dX6_partSet_5 : decode cX6_partSet 5 = .ok (.iload_n 2, 1) := by decide +kernel
theorem dX6_partSet_6 : decode cX6_partSet 6 = .ok (.istore_n 3, 1) := by decide +kernel
theorem dX6_partSet_7 : decode cX6_partSet 7 = .ok (.iconst 0, 1) := by decide +kernel
theorem dX6_partSet_8 : decode cX6_partSet 8 = .ok (.istore 4, 2) := by decide +kernel
theorem dX6_partSet_10 : decode cX6_partSet 10 = .ok (.iload 4, 2) := by decide +kernel
theorem dX6_partSet_12 : decode cX6_partSet 12 = .ok (.iload_n 1, 1) := by decide +kernel
theorem dX6_partSet_13 : decode cX6_partSet 13 = .ok (.if_icmp .ge 27, 3) := by decide +kernel
theorem dX6_partSet_16 : decode cX6_partSet 16 = .ok (.iload_n 3, 1) := by decide +kernel
theorem dX6_partSet_17 : decode cX6_partSet 17 = .ok (.ifCond .le 23, 3) := by decide +kernel
theorem dX6_partSet_20 : decode cX6_partSet 20 = .ok (.iload_n 3, 1) := by decide +kernel
theorem dX6_partSet_21 : decode cX6_partSet 21 = .ok (.aload_n 0, 1) := by decide +kernel
theorem dX6_partSet_22 : decode cX6_partSet 22 = .ok (.iload_n 3, 1) := by decide +kernel
theorem dX6_partSet_23 : decode cX6_partSet 23 = .ok (.invokestatic 174, 3) := by decide +kernel
theorem dX6_partSet_26 : decode cX6_partSet 26 = .ok (.iload_n 2, 1) := by decide +kernel
theorem dX6_partSet_27 : decode cX6_partSet 27 = .ok (.invokevirtual 177, 3) := by decide +kernel
theorem dX6_partSet_30 : decode cX6_partSet 30 = .ok (.iconst (-1), 1) := by decide +kernel
theorem dX6_partSet_31 : decode cX6_partSet 31 = .ok (.ixor, 1) := by decide +kernel
theorem dX6_partSet_32 : decode cX6_partSet 32 = .ok (.iand, 1) := by decide +kernel
theorem dX6_partSet_33 : decode cX6_partSet 33 = .ok (.istore_n 3, 1) := by decide +kernel
theorem dX6_partSet_34 : decode cX6_partSet 34 = .ok (.iinc 4 1, 3) := by decide +kernel
theorem dX6_partSet_37 : decode cX6_partSet 37 = .ok (.goto (-27), 3) := by decide +kernel
theorem dX6_partSet_40 : decode cX6_partSet 40 = .ok (.iload_n 3, 1) := by decide +kernel
theorem dX6_partSet_41 : decode cX6_partSet 41 = .ok (.ifCond .ne 7, 3) := by decide +kernel
theorem dX6_partSet_44 : decode cX6_partSet 44 = .ok (.iconst 0, 1) := by decide +kernel
theorem dX6_partSet_45 : decode cX6_partSet 45 = .ok (.goto 12, 3) := by decide +kernel
theorem dX6_partSet_48 : decode cX6_partSet 48 = .ok (.aload_n 0, 1) := by decide +kernel
theorem dX6_partSet_49 : decode cX6_partSet 49 = .ok (.iload_n 3, 1) := by decide +kernel
theorem dX6_partSet_50 : decode cX6_partSet 50 = .ok (.invokestatic 174, 3) := by decide +kernel
theorem dX6_partSet_53 : decode cX6_partSet 53 = .ok (.iload_n 2, 1) := by decide +kernel
theorem dX6_partSet_54 : decode cX6_partSet 54 = .ok (.invokevirtual 177, 3) := by decide +kernel
theorem dX6_partSet_57 : decode cX6_partSet 57 = .ok (.ireturn, 1) := by decide +kernel
theorem dX6_partOf_0 : decode cX6_partOf 0 = .ok (.aload_n 0, 1) := by decide +kernel
theorem dX6_partOf_1 : decode cX6_partOf 1 = .ok (.invokevirtual 180, 3) := by decide +kernel
theorem dX6_partOf_4 : decode cX6_partOf 4 = .ok (.istore_n 2, 1) := by decide +kernel
theorem dX6_partOf_5 : decode cX6_partOf 5 = .ok (.iconst 0, 1) := by decide +kernel
theorem dX6_partOf_6 : decode cX6_partOf 6 = .ok (.istore_n 3, 1) := by decide +kernel
theorem dX6_partOf_7 : decode cX6_partOf 7 = .ok (.iload_n 2, 1) := by decide +kernel
theorem dX6_partOf_8 : decode cX6_partOf 8 = .ok (.istore 4, 2) := by decide +kernel
theorem dX6_partOf_10 : decode cX6_partOf 10 = .ok (.aload_n 0, 1) := by decide +kernel
theorem dX6_partOf_11 : decode cX6_partOf 11 = .ok (.iload 4, 2) := by decide +kernel
theorem dX6_partOf_13 : decode cX6_partOf 13 = .ok (.invokestatic 174, 3) := by decide +kernel
theorem dX6_partOf_16 : decode cX6_partOf 16 = .ok (.iload_n 2, 1) := by decide +kernel
theorem dX6_partOf_17 : decode cX6_partOf 17 = .ok (.invokevirtual 177, 3) := by decide +kernel
theorem dX6_partOf_20 : decode cX6_partOf 20 = .ok (.iload_n 1, 1) := by decide +kernel
theorem dX6_partOf_21 : decode cX6_partOf 21 = .ok (.ishr, 1) := by decide +kernel
theorem dX6_partOf_22 : decode cX6_partOf 22 = .ok (.iconst 1, 1) := by decide +kernel
theorem dX6_partOf_23 : decode cX6_partOf 23 = .ok (.iand, 1) := by decide +kernel
theorem dX6_partOf_24 : decode cX6_partOf 24 = .ok (.ifCond .ne 26, 3) := by decide +kernel
theorem dX6_partOf_27 : decode cX6_partOf 27 = .ok (.iload 4, 2) := by decide +kernel
theorem dX6_partOf_29 : decode cX6_partOf 29 = .ok (.aload_n 0, 1) := by decide +kernel
theorem dX6_partOf_30 : decode cX6_partOf 30 = .ok (.iload 4, 2) := by decide +kernel
theorem dX6_partOf_32 : decode cX6_partOf 32 = .ok (.invokestatic 174, 3) := by decide +kernel
theorem dX6_partOf_35 : decode cX6_partOf 35 = .ok (.iload_n 2, 1) := by decide +kernel
theorem dX6_partOf_36 : decode cX6_partOf 36 = .ok (.invokevirtual 177, 3) := by decide +kernel
theorem dX6_partOf_39 : decode cX6_partOf 39 = .ok (.iconst (-1), 1) := by decide +kernel
theorem dX6_partOf_40 : decode cX6_partOf 40 = .ok (.ixor, 1) := by decide +kernel
theorem dX6_partOf_41 : decode cX6_partOf 41 = .ok (.iand, 1) := by decide +kernel
theorem dX6_partOf_42 : decode cX6_partOf 42 = .ok (.istore 4, 2) := by decide +kernel
theorem dX6_partOf_44 : decode cX6_partOf 44 = .ok (.iinc 3 1, 3) := by decide +kernel
theorem dX6_partOf_47 : decode cX6_partOf 47 = .ok (.goto (-37), 3) := by decide +kernel
theorem dX6_partOf_50 : decode cX6_partOf 50 = .ok (.iload_n 3, 1) := by decide +kernel
theorem dX6_partOf_51 : decode cX6_partOf 51 = .ok (.ireturn, 1) := by decide +kernel
theorem dX6_around_0 : decode cX6_around 0 = .ok (.iconst 0, 1) := by decide +kernel
theorem dX6_around_1 : decode cX6_around 1 = .ok (.istore_n 2, 1) := by decide +kernel
theorem dX6_around_2 : decode cX6_around 2 = .ok (.iconst 0, 1) := by decide +kernel
theorem dX6_around_3 : decode cX6_around 3 = .ok (.istore_n 3, 1) := by decide +kernel
theorem dX6_around_4 : decode cX6_around 4 = .ok (.iload_n 3, 1) := by decide +kernel
theorem dX6_around_5 : decode cX6_around 5 = .ok (.aload_n 0, 1) := by decide +kernel
theorem dX6_around_6 : decode cX6_around 6 = .ok (.getfield 7, 3) := by decide +kernel
theorem dX6_around_9 : decode cX6_around 9 = .ok (.iconst 0, 1) := by decide +kernel
theorem dX6_around_10 : decode cX6_around 10 = .ok (.iaload, 1) := by decide +kernel
theorem dX6_around_11 : decode cX6_around 11 = .ok (.if_icmp .ge 36, 3) := by decide +kernel
theorem dX6_around_14 : decode cX6_around 14 = .ok (.aload_n 0, 1) := by decide +kernel
theorem dX6_around_15 : decode cX6_around 15 = .ok (.iload_n 1, 1) := by decide +kernel
theorem dX6_around_16 : decode cX6_around 16 = .ok (.iload_n 3, 1) := by decide +kernel
theorem dX6_around_17 : decode cX6_around 17 = .ok (.invokevirtual 123, 3) := by decide +kernel
theorem dX6_around_20 : decode cX6_around 20 = .ok (.ifCond .eq 21, 3) := by decide +kernel
theorem dX6_around_23 : decode cX6_around 23 = .ok (.aload_n 0, 1) := by decide +kernel
theorem dX6_around_24 : decode cX6_around 24 = .ok (.iload_n 3, 1) := by decide +kernel
theorem dX6_around_25 : decode cX6_around 25 = .ok (.invokevirtual 170, 3) := by decide +kernel
theorem dX6_around_28 : decode cX6_around 28 = .ok (.ifCond .ne 13, 3) := by decide +kernel
theorem dX6_around_31 : decode cX6_around 31 = .ok (.iload_n 2, 1) := by decide +kernel
theorem dX6_around_32 : decode cX6_around 32 = .ok (.iconst 1, 1) := by decide +kernel
theorem dX6_around_33 : decode cX6_around 33 = .ok (.aload_n 0, 1) := by decide +kernel
theorem dX6_around_34 : decode cX6_around 34 = .ok (.iload_n 3, 1) := by decide +kernel
theorem dX6_around_35 : decode cX6_around 35 = .ok (.invokevirtual 183, 3) := by decide +kernel
theorem dX6_around_38 : decode cX6_around 38 = .ok (.ishl, 1) := by decide +kernel
theorem dX6_around_39 : decode cX6_around 39 = .ok (.ior, 1) := by decide +kernel
theorem dX6_around_40 : decode cX6_around 40 = .ok (.istore_n 2, 1) := by decide +kernel
theorem dX6_around_41 : decode cX6_around 41 = .ok (.iinc 3 1, 3) := by decide +kernel
theorem dX6_around_44 : decode cX6_around 44 = .ok (.goto (-40), 3) := by decide +kernel
theorem dX6_around_47 : decode cX6_around 47 = .ok (.iload_n 2, 1) := by decide +kernel
theorem dX6_around_48 : decode cX6_around 48 = .ok (.ireturn, 1) := by decide +kernel
theorem dX6_canLay_0 : decode cX6_canLay 0 = .ok (.aload_n 0, 1) := by decide +kernel
theorem dX6_canLay_1 : decode cX6_canLay 1 = .ok (.getfield 7, 3) := by decide +kernel
theorem dX6_canLay_4 : decode cX6_canLay 4 = .ok (.iconst 4, 1) := by decide +kernel
theorem dX6_canLay_5 : decode cX6_canLay 5 = .ok (.iload_n 1, 1) := by decide +kernel
theorem dX6_canLay_6 : decode cX6_canLay 6 = .ok (.iadd, 1) := by decide +kernel
theorem dX6_canLay_7 : decode cX6_canLay 7 = .ok (.iaload, 1) := by decide +kernel
theorem dX6_canLay_8 : decode cX6_canLay 8 = .ok (.aload_n 0, 1) := by decide +kernel
theorem dX6_canLay_9 : decode cX6_canLay 9 = .ok (.iload_n 1, 1) := by decide +kernel
theorem dX6_canLay_10 : decode cX6_canLay 10 = .ok (.invokevirtual 186, 3) := by decide +kernel
theorem dX6_canLay_13 : decode cX6_canLay 13 = .ok (.iconst (-1), 1) := by decide +kernel
theorem dX6_canLay_14 : decode cX6_canLay 14 = .ok (.ixor, 1) := by decide +kernel
theorem dX6_canLay_15 : decode cX6_canLay 15 = .ok (.iand, 1) := by decide +kernel
theorem dX6_canLay_16 : decode cX6_canLay 16 = .ok (.istore 4, 2) := by decide +kernel
theorem dX6_canLay_18 : decode cX6_canLay 18 = .ok (.iload_n 3, 1) := by decide +kernel
theorem dX6_canLay_19 : decode cX6_canLay 19 = .ok (.iconst (-1), 1) := by decide +kernel
theorem dX6_canLay_20 : decode cX6_canLay 20 = .ok (.if_icmp .eq 11, 3) := by decide +kernel
theorem dX6_canLay_23 : decode cX6_canLay 23 = .ok (.iload_n 2, 1) := by decide +kernel
theorem dX6_canLay_24 : decode cX6_canLay 24 = .ok (.invokestatic 189, 3) := by decide +kernel
theorem dX6_canLay_27 : decode cX6_canLay 27 = .ok (.iconst 1, 1) := by decide +kernel
theorem dX6_canLay_28 : decode cX6_canLay 28 = .ok (.if_icmp .ne 8, 3) := by decide +kernel
theorem dX6_canLay_31 : decode cX6_canLay 31 = .ok (.iload 4, 2) := by decide +kernel
theorem dX6_canLay_33 : decode cX6_canLay 33 = .ok (.goto 11, 3) := by decide +kernel
theorem dX6_canLay_36 : decode cX6_canLay 36 = .ok (.iload 4, 2) := by decide +kernel
theorem dX6_canLay_38 : decode cX6_canLay 38 = .ok (.iconst 1, 1) := by decide +kernel
theorem dX6_canLay_39 : decode cX6_canLay 39 = .ok (.iload_n 3, 1) := by decide +kernel
theorem dX6_canLay_40 : decode cX6_canLay 40 = .ok (.ishl, 1) := by decide +kernel
theorem dX6_canLay_41 : decode cX6_canLay 41 = .ok (.iconst (-1), 1) := by decide +kernel
theorem dX6_canLay_42 : decode cX6_canLay 42 = .ok (.ixor, 1) := by decide +kernel
theorem dX6_canLay_43 : decode cX6_canLay 43 = .ok (.iand, 1) := by decide +kernel
theorem dX6_canLay_44 : decode cX6_canLay 44 = .ok (.ireturn, 1) := by decide +kernel
theorem dX6_banOf_0 : decode cX6_banOf 0 = .ok (.aload_n 0, 1) := by decide +kernel
theorem dX6_banOf_1 : decode cX6_banOf 1 = .ok (.getfield 7, 3) := by decide +kernel
theorem dX6_banOf_4 : decode cX6_banOf 4 = .ok (.bipush 31, 2) := by decide +kernel
theorem dX6_banOf_6 : decode cX6_banOf 6 = .ok (.iload_n 1, 1) := by decide +kernel
theorem dX6_banOf_7 : decode cX6_banOf 7 = .ok (.iadd, 1) := by decide +kernel
theorem dX6_banOf_8 : decode cX6_banOf 8 = .ok (.iaload, 1) := by decide +kernel
theorem dX6_banOf_9 : decode cX6_banOf 9 = .ok (.iconst 1, 1) := by decide +kernel
theorem dX6_banOf_10 : decode cX6_banOf 10 = .ok (.isub, 1) := by decide +kernel
theorem dX6_banOf_11 : decode cX6_banOf 11 = .ok (.ireturn, 1) := by decide +kernel
theorem dX6_colours_0 : decode cX6_colours 0 = .ok (.aload_n 0, 1) := by decide +kernel
theorem dX6_colours_1 : decode cX6_colours 1 = .ok (.iload_n 1, 1) := by decide +kernel
theorem dX6_colours_2 : decode cX6_colours 2 = .ok (.invokevirtual 170, 3) := by decide +kernel
theorem dX6_colours_5 : decode cX6_colours 5 = .ok (.ifCond .eq 25, 3) := by decide +kernel
theorem dX6_colours_8 : decode cX6_colours 8 = .ok (.aload_n 0, 1) := by decide +kernel
theorem dX6_colours_9 : decode cX6_colours 9 = .ok (.iload_n 1, 1) := by decide +kernel
theorem dX6_colours_10 : decode cX6_colours 10 = .ok (.aload_n 0, 1) := by decide +kernel
theorem dX6_colours_11 : decode cX6_colours 11 = .ok (.iload_n 1, 1) := by decide +kernel
theorem dX6_colours_12 : decode cX6_colours 12 = .ok (.aload_n 0, 1) := by decide +kernel
theorem dX6_colours_13 : decode cX6_colours 13 = .ok (.invokevirtual 180, 3) := by decide +kernel
theorem dX6_colours_16 : decode cX6_colours 16 = .ok (.invokevirtual 177, 3) := by decide +kernel
theorem dX6_colours_19 : decode cX6_colours 19 = .ok (.aload_n 0, 1) := by decide +kernel
theorem dX6_colours_20 : decode cX6_colours 20 = .ok (.iload_n 1, 1) := by decide +kernel
theorem dX6_colours_21 : decode cX6_colours 21 = .ok (.invokevirtual 192, 3) := by decide +kernel
theorem dX6_colours_24 : decode cX6_colours 24 = .ok (.invokevirtual 195, 3) := by decide +kernel
theorem dX6_colours_27 : decode cX6_colours 27 = .ok (.goto 4, 3) := by decide +kernel
theorem dX6_colours_30 : decode cX6_colours 30 = .ok (.iconst 0, 1) := by decide +kernel
theorem dX6_colours_31 : decode cX6_colours 31 = .ok (.ireturn, 1) := by decide +kernel
theorem dX6_whyNot_0 : decode cX6_whyNot 0 = .ok (.aload_n 0, 1) := by decide +kernel
theorem dX6_whyNot_1 : decode cX6_whyNot 1 = .ok (.iload_n 1, 1) := by decide +kernel
theorem dX6_whyNot_2 : decode cX6_whyNot 2 = .ok (.invokevirtual 170, 3) := by decide +kernel
theorem dX6_whyNot_5 : decode cX6_whyNot 5 = .ok (.ifCond .ne 5, 3) := by decide +kernel
theorem dX6_whyNot_8 : decode cX6_whyNot 8 = .ok (.iconst 1, 1) := by decide +kernel
theorem dX6_whyNot_9 : decode cX6_whyNot 9 = .ok (.ireturn, 1) := by decide +kernel
theorem dX6_whyNot_10 : decode cX6_whyNot 10 = .ok (.aload_n 0, 1) := by decide +kernel
theorem dX6_whyNot_11 : decode cX6_whyNot 11 = .ok (.getfield 7, 3) := by decide +kernel
theorem dX6_whyNot_14 : decode cX6_whyNot 14 = .ok (.iconst 4, 1) := by decide +kernel
theorem dX6_whyNot_15 : decode cX6_whyNot 15 = .ok (.iload_n 1, 1) := by decide +kernel
theorem dX6_whyNot_16 : decode cX6_whyNot 16 = .ok (.iadd, 1) := by decide +kernel
theorem dX6_whyNot_17 : decode cX6_whyNot 17 = .ok (.iaload, 1) := by decide +kernel
theorem dX6_whyNot_18 : decode cX6_whyNot 18 = .ok (.iload_n 2, 1) := by decide +kernel
theorem dX6_whyNot_19 : decode cX6_whyNot 19 = .ok (.ishr, 1) := by decide +kernel
theorem dX6_whyNot_20 : decode cX6_whyNot 20 = .ok (.iconst 1, 1) := by decide +kernel
theorem dX6_whyNot_21 : decode cX6_whyNot 21 = .ok (.iand, 1) := by decide +kernel
theorem dX6_whyNot_22 : decode cX6_whyNot 22 = .ok (.ifCond .ne 5, 3) := by decide +kernel
theorem dX6_whyNot_25 : decode cX6_whyNot 25 = .ok (.iconst 2, 1) := by decide +kernel
theorem dX6_whyNot_26 : decode cX6_whyNot 26 = .ok (.ireturn, 1) := by decide +kernel
theorem dX6_whyNot_27 : decode cX6_whyNot 27 = .ok (.aload_n 0, 1) := by decide +kernel
theorem dX6_whyNot_28 : decode cX6_whyNot 28 = .ok (.iload_n 1, 1) := by decide +kernel
theorem dX6_whyNot_29 : decode cX6_whyNot 29 = .ok (.invokevirtual 186, 3) := by decide +kernel
theorem dX6_whyNot_32 : decode cX6_whyNot 32 = .ok (.iload_n 2, 1) := by decide +kernel
theorem dX6_whyNot_33 : decode cX6_whyNot 33 = .ok (.ishr, 1) := by decide +kernel
theorem dX6_whyNot_34 : decode cX6_whyNot 34 = .ok (.iconst 1, 1) := by decide +kernel
theorem dX6_whyNot_35 : decode cX6_whyNot 35 = .ok (.iand, 1) := by decide +kernel
theorem dX6_whyNot_36 : decode cX6_whyNot 36 = .ok (.iconst 1, 1) := by decide +kernel
theorem dX6_whyNot_37 : decode cX6_whyNot 37 = .ok (.if_icmp .ne 5, 3) := by decide +kernel
theorem dX6_whyNot_40 : decode cX6_whyNot 40 = .ok (.iconst 3, 1) := by decide +kernel
theorem dX6_whyNot_41 : decode cX6_whyNot 41 = .ok (.ireturn, 1) := by decide +kernel
theorem dX6_whyNot_42 : decode cX6_whyNot 42 = .ok (.aload_n 0, 1) := by decide +kernel
theorem dX6_whyNot_43 : decode cX6_whyNot 43 = .ok (.iload_n 1, 1) := by decide +kernel
theorem dX6_whyNot_44 : decode cX6_whyNot 44 = .ok (.invokevirtual 199, 3) := by decide +kernel
theorem dX6_whyNot_47 : decode cX6_whyNot 47 = .ok (.iload_n 2, 1) := by decide +kernel
theorem dX6_whyNot_48 : decode cX6_whyNot 48 = .ok (.ishr, 1) := by decide +kernel
theorem dX6_whyNot_49 : decode cX6_whyNot 49 = .ok (.iconst 1, 1) := by decide +kernel
theorem dX6_whyNot_50 : decode cX6_whyNot 50 = .ok (.iand, 1) := by decide +kernel
theorem dX6_whyNot_51 : decode cX6_whyNot 51 = .ok (.iconst 1, 1) := by decide +kernel
theorem dX6_whyNot_52 : decode cX6_whyNot 52 = .ok (.if_icmp .ne 7, 3) := by decide +kernel
theorem dX6_whyNot_55 : decode cX6_whyNot 55 = .ok (.iconst 0, 1) := by decide +kernel
theorem dX6_whyNot_56 : decode cX6_whyNot 56 = .ok (.goto 4, 3) := by decide +kernel
theorem dX6_whyNot_59 : decode cX6_whyNot 59 = .ok (.iconst 4, 1) := by decide +kernel
theorem dX6_whyNot_60 : decode cX6_whyNot 60 = .ok (.ireturn, 1) := by decide +kernel
theorem dX6_pairs_0 : decode cX6_pairs 0 = .ok (.iconst 0, 1) := by decide +kernel
theorem dX6_pairs_1 : decode cX6_pairs 1 = .ok (.istore_n 1, 1) := by decide +kernel
theorem dX6_pairs_2 : decode cX6_pairs 2 = .ok (.iconst 0, 1) := by decide +kernel
theorem dX6_pairs_3 : decode cX6_pairs 3 = .ok (.istore_n 2, 1) := by decide +kernel
theorem dX6_pairs_4 : decode cX6_pairs 4 = .ok (.iload_n 2, 1) := by decide +kernel
theorem dX6_pairs_5 : decode cX6_pairs 5 = .ok (.aload_n 0, 1) := by decide +kernel
theorem dX6_pairs_6 : decode cX6_pairs 6 = .ok (.getfield 7, 3) := by decide +kernel
theorem dX6_pairs_9 : decode cX6_pairs 9 = .ok (.iconst 0, 1) := by decide +kernel
theorem dX6_pairs_10 : decode cX6_pairs 10 = .ok (.iaload, 1) := by decide +kernel
theorem dX6_pairs_11 : decode cX6_pairs 11 = .ok (.if_icmp .ge 20, 3) := by decide +kernel
theorem dX6_pairs_14 : decode cX6_pairs 14 = .ok (.iload_n 1, 1) := by decide +kernel
theorem dX6_pairs_15 : decode cX6_pairs 15 = .ok (.aload_n 0, 1) := by decide +kernel
theorem dX6_pairs_16 : decode cX6_pairs 16 = .ok (.iload_n 2, 1) := by decide +kernel
theorem dX6_pairs_17 : decode cX6_pairs 17 = .ok (.invokevirtual 199, 3) := by decide +kernel
theorem dX6_pairs_20 : decode cX6_pairs 20 = .ok (.invokestatic 189, 3) := by decide +kernel
theorem dX6_pairs_23 : decode cX6_pairs 23 = .ok (.iadd, 1) := by decide +kernel
theorem dX6_pairs_24 : decode cX6_pairs 24 = .ok (.istore_n 1, 1) := by decide +kernel
theorem dX6_pairs_25 : decode cX6_pairs 25 = .ok (.iinc 2 1, 3) := by decide +kernel
theorem dX6_pairs_28 : decode cX6_pairs 28 = .ok (.goto (-24), 3) := by decide +kernel
theorem dX6_pairs_31 : decode cX6_pairs 31 = .ok (.iload_n 1, 1) := by decide +kernel
theorem dX6_pairs_32 : decode cX6_pairs 32 = .ok (.ireturn, 1) := by decide +kernel
theorem dX6_isOver_0 : decode cX6_isOver 0 = .ok (.aload_n 0, 1) := by decide +kernel
theorem dX6_isOver_1 : decode cX6_isOver 1 = .ok (.invokevirtual 201, 3) := by decide +kernel
theorem dX6_isOver_4 : decode cX6_isOver 4 = .ok (.ifCond .ne 16, 3) := by decide +kernel
theorem dX6_isOver_7 : decode cX6_isOver 7 = .ok (.aload_n 0, 1) := by decide +kernel
theorem dX6_isOver_8 : decode cX6_isOver 8 = .ok (.getfield 7, 3) := by decide +kernel
theorem dX6_isOver_11 : decode cX6_isOver 11 = .ok (.iconst 2, 1) := by decide +kernel
theorem dX6_isOver_12 : decode cX6_isOver 12 = .ok (.iaload, 1) := by decide +kernel
theorem dX6_isOver_13 : decode cX6_isOver 13 = .ok (.ifCond .ne 7, 3) := by decide +kernel
theorem dX6_isOver_16 : decode cX6_isOver 16 = .ok (.iconst 1, 1) := by decide +kernel
theorem dX6_isOver_17 : decode cX6_isOver 17 = .ok (.goto 4, 3) := by decide +kernel
theorem dX6_isOver_20 : decode cX6_isOver 20 = .ok (.iconst 0, 1) := by decide +kernel
theorem dX6_isOver_21 : decode cX6_isOver 21 = .ok (.ireturn, 1) := by decide +kernel
theorem dX6_turn_0 : decode cX6_turn 0 = .ok (.aload_n 0, 1) := by decide +kernel
theorem dX6_turn_1 : decode cX6_turn 1 = .ok (.getfield 7, 3) := by decide +kernel
theorem dX6_turn_4 : decode cX6_turn 4 = .ok (.iconst 3, 1) := by decide +kernel
theorem dX6_turn_5 : decode cX6_turn 5 = .ok (.iaload, 1) := by decide +kernel
theorem dX6_turn_6 : decode cX6_turn 6 = .ok (.iconst 2, 1) := by decide +kernel
theorem dX6_turn_7 : decode cX6_turn 7 = .ok (.irem, 1) := by decide +kernel
theorem dX6_turn_8 : decode cX6_turn 8 = .ok (.ireturn, 1) := by decide +kernel
theorem dX6_stuck_0 : decode cX6_stuck 0 = .ok (.iconst 0, 1) := by decide +kernel
theorem dX6_stuck_1 : decode cX6_stuck 1 = .ok (.istore_n 1, 1) := by decide +kernel
theorem dX6_stuck_2 : decode cX6_stuck 2 = .ok (.iconst 0, 1) := by decide +kernel
theorem dX6_stuck_3 : decode cX6_stuck 3 = .ok (.istore_n 2, 1) := by decide +kernel
theorem dX6_stuck_4 : decode cX6_stuck 4 = .ok (.iload_n 2, 1) := by decide +kernel
theorem dX6_stuck_5 : decode cX6_stuck 5 = .ok (.aload_n 0, 1) := by decide +kernel
theorem dX6_stuck_6 : decode cX6_stuck 6 = .ok (.getfield 7, 3) := by decide +kernel
theorem dX6_stuck_9 : decode cX6_stuck 9 = .ok (.iconst 0, 1) := by decide +kernel
theorem dX6_stuck_10 : decode cX6_stuck 10 = .ok (.iaload, 1) := by decide +kernel
theorem dX6_stuck_11 : decode cX6_stuck 11 = .ok (.if_icmp .ge 33, 3) := by decide +kernel
theorem dX6_stuck_14 : decode cX6_stuck 14 = .ok (.iload_n 1, 1) := by decide +kernel
theorem dX6_stuck_15 : decode cX6_stuck 15 = .ok (.aload_n 0, 1) := by decide +kernel
theorem dX6_stuck_16 : decode cX6_stuck 16 = .ok (.iload_n 2, 1) := by decide +kernel
theorem dX6_stuck_17 : decode cX6_stuck 17 = .ok (.invokevirtual 170, 3) := by decide +kernel
theorem dX6_stuck_20 : decode cX6_stuck 20 = .ok (.ifCond .eq 15, 3) := by decide +kernel
theorem dX6_stuck_23 : decode cX6_stuck 23 = .ok (.aload_n 0, 1) := by decide +kernel
theorem dX6_stuck_24 : decode cX6_stuck 24 = .ok (.iload_n 2, 1) := by decide +kernel
theorem dX6_stuck_25 : decode cX6_stuck 25 = .ok (.invokevirtual 199, 3) := by decide +kernel
theorem dX6_stuck_28 : decode cX6_stuck 28 = .ok (.ifCond .ne 7, 3) := by decide +kernel
theorem dX6_stuck_31 : decode cX6_stuck 31 = .ok (.iconst 1, 1) := by decide +kernel
theorem dX6_stuck_32 : decode cX6_stuck 32 = .ok (.goto 4, 3) := by decide +kernel
theorem dX6_stuck_35 : decode cX6_stuck 35 = .ok (.iconst 0, 1) := by decide +kernel
theorem dX6_stuck_36 : decode cX6_stuck 36 = .ok (.iadd, 1) := by decide +kernel
theorem dX6_stuck_37 : decode cX6_stuck 37 = .ok (.istore_n 1, 1) := by decide +kernel
theorem dX6_stuck_38 : decode cX6_stuck 38 = .ok (.iinc 2 1, 3) := by decide +kernel
theorem dX6_stuck_41 : decode cX6_stuck 41 = .ok (.goto (-37), 3) := by decide +kernel
theorem dX6_stuck_44 : decode cX6_stuck 44 = .ok (.iload_n 1, 1) := by decide +kernel
theorem dX6_stuck_45 : decode cX6_stuck 45 = .ok (.ireturn, 1) := by decide +kernel
theorem dX6_edgesIn_0 : decode cX6_edgesIn 0 = .ok (.iconst 0, 1) := by decide +kernel
theorem dX6_edgesIn_1 : decode cX6_edgesIn 1 = .ok (.istore_n 2, 1) := by decide +kernel
theorem dX6_edgesIn_2 : decode cX6_edgesIn 2 = .ok (.iconst 0, 1) := by decide +kernel
theorem dX6_edgesIn_3 : decode cX6_edgesIn 3 = .ok (.istore_n 3, 1) := by decide +kernel
theorem dX6_edgesIn_4 : decode cX6_edgesIn 4 = .ok (.iload_n 3, 1) := by decide +kernel
theorem dX6_edgesIn_5 : decode cX6_edgesIn 5 = .ok (.aload_n 0, 1) := by decide +kernel
theorem dX6_edgesIn_6 : decode cX6_edgesIn 6 = .ok (.getfield 7, 3) := by decide +kernel
theorem dX6_edgesIn_9 : decode cX6_edgesIn 9 = .ok (.iconst 0, 1) := by decide +kernel
theorem dX6_edgesIn_10 : decode cX6_edgesIn 10 = .ok (.iaload, 1) := by decide +kernel
theorem dX6_edgesIn_11 : decode cX6_edgesIn 11 = .ok (.if_icmp .ge 39, 3) := by decide +kernel
theorem dX6_edgesIn_14 : decode cX6_edgesIn 14 = .ok (.iload_n 2, 1) := by decide +kernel
theorem dX6_edgesIn_15 : decode cX6_edgesIn 15 = .ok (.iload_n 1, 1) := by decide +kernel
theorem dX6_edgesIn_16 : decode cX6_edgesIn 16 = .ok (.iload_n 3, 1) := by decide +kernel
theorem dX6_edgesIn_17 : decode cX6_edgesIn 17 = .ok (.ishr, 1) := by decide +kernel
theorem dX6_edgesIn_18 : decode cX6_edgesIn 18 = .ok (.iconst 1, 1) := by decide +kernel
theorem dX6_edgesIn_19 : decode cX6_edgesIn 19 = .ok (.iand, 1) := by decide +kernel
theorem dX6_edgesIn_20 : decode cX6_edgesIn 20 = .ok (.iconst 1, 1) := by decide +kernel
theorem dX6_edgesIn_21 : decode cX6_edgesIn 21 = .ok (.if_icmp .ne 20, 3) := by decide +kernel
theorem dX6_edgesIn_24 : decode cX6_edgesIn 24 = .ok (.aload_n 0, 1) := by decide +kernel
theorem dX6_edgesIn_25 : decode cX6_edgesIn 25 = .ok (.getfield 7, 3) := by decide +kernel
theorem dX6_edgesIn_28 : decode cX6_edgesIn 28 = .ok (.bipush 13, 2) := by decide +kernel
theorem dX6_edgesIn_30 : decode cX6_edgesIn 30 = .ok (.iload_n 3, 1) := by decide +kernel
theorem dX6_edgesIn_31 : decode cX6_edgesIn 31 = .ok (.iadd, 1) := by decide +kernel
theorem dX6_edgesIn_32 : decode cX6_edgesIn 32 = .ok (.iaload, 1) := by decide +kernel
theorem dX6_edgesIn_33 : decode cX6_edgesIn 33 = .ok (.iload_n 1, 1) := by decide +kernel
theorem dX6_edgesIn_34 : decode cX6_edgesIn 34 = .ok (.iand, 1) := by decide +kernel
theorem dX6_edgesIn_35 : decode cX6_edgesIn 35 = .ok (.invokestatic 189, 3) := by decide +kernel
theorem dX6_edgesIn_38 : decode cX6_edgesIn 38 = .ok (.goto 4, 3) := by decide +kernel
theorem dX6_edgesIn_41 : decode cX6_edgesIn 41 = .ok (.iconst 0, 1) := by decide +kernel
theorem dX6_edgesIn_42 : decode cX6_edgesIn 42 = .ok (.iadd, 1) := by decide +kernel
theorem dX6_edgesIn_43 : decode cX6_edgesIn 43 = .ok (.istore_n 2, 1) := by decide +kernel
theorem dX6_edgesIn_44 : decode cX6_edgesIn 44 = .ok (.iinc 3 1, 3) := by decide +kernel
theorem dX6_edgesIn_47 : decode cX6_edgesIn 47 = .ok (.goto (-43), 3) := by decide +kernel
theorem dX6_edgesIn_50 : decode cX6_edgesIn 50 = .ok (.iload_n 2, 1) := by decide +kernel
theorem dX6_edgesIn_51 : decode cX6_edgesIn 51 = .ok (.iconst 2, 1) := by decide +kernel
theorem dX6_edgesIn_52 : decode cX6_edgesIn 52 = .ok (.idiv, 1) := by decide +kernel
theorem dX6_edgesIn_53 : decode cX6_edgesIn 53 = .ok (.ireturn, 1) := by decide +kernel
theorem dX6_count_0 : decode cX6_count 0 = .ok (.aload_n 0, 1) := by decide +kernel
theorem dX6_count_1 : decode cX6_count 1 = .ok (.iload_n 1, 1) := by decide +kernel
theorem dX6_count_2 : decode cX6_count 2 = .ok (.iconst 0, 1) := by decide +kernel
theorem dX6_count_3 : decode cX6_count 3 = .ok (.bipush 12, 2) := by decide +kernel
theorem dX6_count_5 : decode cX6_count 5 = .ok (.invokestatic 76, 3) := by decide +kernel
theorem dX6_count_8 : decode cX6_count 8 = .ok (.ifCond .eq 7, 3) := by decide +kernel
theorem dX6_count_11 : decode cX6_count 11 = .ok (.iconst 0, 1) := by decide +kernel
theorem dX6_count_12 : decode cX6_count 12 = .ok (.goto 4, 3) := by decide +kernel
theorem dX6_count_15 : decode cX6_count 15 = .ok (.iconst 1, 1) := by decide +kernel
theorem dX6_count_16 : decode cX6_count 16 = .ok (.putfield 47, 3) := by decide +kernel
theorem dX6_count_19 : decode cX6_count 19 = .ok (.aload_n 0, 1) := by decide +kernel
theorem dX6_count_20 : decode cX6_count 20 = .ok (.getfield 47, 3) := by decide +kernel
theorem dX6_count_23 : decode cX6_count 23 = .ok (.ifCond .le 5, 3) := by decide +kernel
theorem dX6_count_26 : decode cX6_count 26 = .ok (.iconst 0, 1) := by decide +kernel
theorem dX6_count_27 : decode cX6_count 27 = .ok (.ireturn, 1) := by decide +kernel
theorem dX6_count_28 : decode cX6_count 28 = .ok (.iload_n 1, 1) := by decide +kernel
theorem dX6_count_29 : decode cX6_count 29 = .ok (.tableswitch 169 0 11 #[63, 70, 85, 92, 99, 107, 116, 121, 128, 141, 159, 164], 63) := by decide +kernel
theorem dX6_count_92 : decode cX6_count 92 = .ok (.aload_n 0, 1) := by decide +kernel
theorem dX6_count_93 : decode cX6_count 93 = .ok (.getfield 7, 3) := by decide +kernel
theorem dX6_count_96 : decode cX6_count 96 = .ok (.iconst 0, 1) := by decide +kernel
theorem dX6_count_97 : decode cX6_count 97 = .ok (.iaload, 1) := by decide +kernel
theorem dX6_count_98 : decode cX6_count 98 = .ok (.ireturn, 1) := by decide +kernel
theorem dX6_count_99 : decode cX6_count 99 = .ok (.aload_n 0, 1) := by decide +kernel
theorem dX6_count_100 : decode cX6_count 100 = .ok (.iconst 1, 1) := by decide +kernel
theorem dX6_count_101 : decode cX6_count 101 = .ok (.aload_n 0, 1) := by decide +kernel
theorem dX6_count_102 : decode cX6_count 102 = .ok (.getfield 7, 3) := by decide +kernel
theorem dX6_count_105 : decode cX6_count 105 = .ok (.iconst 0, 1) := by decide +kernel
theorem dX6_count_106 : decode cX6_count 106 = .ok (.iaload, 1) := by decide +kernel
theorem dX6_count_107 : decode cX6_count 107 = .ok (.ishl, 1) := by decide +kernel
theorem dX6_count_108 : decode cX6_count 108 = .ok (.iconst 1, 1) := by decide +kernel
theorem dX6_count_109 : decode cX6_count 109 = .ok (.isub, 1) := by decide +kernel
theorem dX6_count_110 : decode cX6_count 110 = .ok (.invokevirtual 204, 3) := by decide +kernel
theorem dX6_count_113 : decode cX6_count 113 = .ok (.ireturn, 1) := by decide +kernel
theorem dX6_count_114 : decode cX6_count 114 = .ok (.aload_n 0, 1) := by decide +kernel
theorem dX6_count_115 : decode cX6_count 115 = .ok (.getfield 7, 3) := by decide +kernel
theorem dX6_count_118 : decode cX6_count 118 = .ok (.iconst 1, 1) := by decide +kernel
theorem dX6_count_119 : decode cX6_count 119 = .ok (.iaload, 1) := by decide +kernel
theorem dX6_count_120 : decode cX6_count 120 = .ok (.ireturn, 1) := by decide +kernel
theorem dX6_count_121 : decode cX6_count 121 = .ok (.aload_n 0, 1) := by decide +kernel
theorem dX6_count_122 : decode cX6_count 122 = .ok (.getfield 7, 3) := by decide +kernel
theorem dX6_count_125 : decode cX6_count 125 = .ok (.iconst 2, 1) := by decide +kernel
theorem dX6_count_126 : decode cX6_count 126 = .ok (.iaload, 1) := by decide +kernel
theorem dX6_count_127 : decode cX6_count 127 = .ok (.ireturn, 1) := by decide +kernel
theorem dX6_count_128 : decode cX6_count 128 = .ok (.aload_n 0, 1) := by decide +kernel
theorem dX6_count_129 : decode cX6_count 129 = .ok (.invokevirtual 180, 3) := by decide +kernel
theorem dX6_count_132 : decode cX6_count 132 = .ok (.invokestatic 189, 3) := by decide +kernel
theorem dX6_count_135 : decode cX6_count 135 = .ok (.ireturn, 1) := by decide +kernel
theorem dX6_count_136 : decode cX6_count 136 = .ok (.aload_n 0, 1) := by decide +kernel
theorem dX6_count_137 : decode cX6_count 137 = .ok (.aload_n 0, 1) := by decide +kernel
theorem dX6_count_138 : decode cX6_count 138 = .ok (.invokevirtual 180, 3) := by decide +kernel
theorem dX6_count_141 : decode cX6_count 141 = .ok (.invokevirtual 207, 3) := by decide +kernel
theorem dX6_count_144 : decode cX6_count 144 = .ok (.ireturn, 1) := by decide +kernel
theorem dX6_count_145 : decode cX6_count 145 = .ok (.aload_n 0, 1) := by decide +kernel
theorem dX6_count_146 : decode cX6_count 146 = .ok (.invokevirtual 210, 3) := by decide +kernel
theorem dX6_count_149 : decode cX6_count 149 = .ok (.ireturn, 1) := by decide +kernel
theorem dX6_count_150 : decode cX6_count 150 = .ok (.aload_n 0, 1) := by decide +kernel
theorem dX6_count_151 : decode cX6_count 151 = .ok (.getfield 7, 3) := by decide +kernel
theorem dX6_count_154 : decode cX6_count 154 = .ok (.iconst 3, 1) := by decide +kernel
theorem dX6_count_155 : decode cX6_count 155 = .ok (.iaload, 1) := by decide +kernel
theorem dX6_count_156 : decode cX6_count 156 = .ok (.ireturn, 1) := by decide +kernel
theorem dX6_count_157 : decode cX6_count 157 = .ok (.aload_n 0, 1) := by decide +kernel
theorem dX6_count_158 : decode cX6_count 158 = .ok (.invokevirtual 213, 3) := by decide +kernel
theorem dX6_count_161 : decode cX6_count 161 = .ok (.ifCond .eq 7, 3) := by decide +kernel
theorem dX6_count_164 : decode cX6_count 164 = .ok (.iconst 1, 1) := by decide +kernel
theorem dX6_count_165 : decode cX6_count 165 = .ok (.goto 4, 3) := by decide +kernel
theorem dX6_count_168 : decode cX6_count 168 = .ok (.iconst 0, 1) := by decide +kernel
theorem dX6_count_169 : decode cX6_count 169 = .ok (.ireturn, 1) := by decide +kernel
theorem dX6_count_170 : decode cX6_count 170 = .ok (.aload_n 0, 1) := by decide +kernel
theorem dX6_count_171 : decode cX6_count 171 = .ok (.invokevirtual 213, 3) := by decide +kernel
theorem dX6_count_174 : decode cX6_count 174 = .ok (.ifCond .eq 12, 3) := by decide +kernel
theorem dX6_count_177 : decode cX6_count 177 = .ok (.iconst 1, 1) := by decide +kernel
theorem dX6_count_178 : decode cX6_count 178 = .ok (.aload_n 0, 1) := by decide +kernel
theorem dX6_count_179 : decode cX6_count 179 = .ok (.invokevirtual 210, 3) := by decide +kernel
theorem dX6_count_182 : decode cX6_count 182 = .ok (.isub, 1) := by decide +kernel
theorem dX6_count_183 : decode cX6_count 183 = .ok (.goto 4, 3) := by decide +kernel
theorem dX6_count_186 : decode cX6_count 186 = .ok (.iconst (-1), 1) := by decide +kernel
theorem dX6_count_187 : decode cX6_count 187 = .ok (.ireturn, 1) := by decide +kernel
theorem dX6_count_188 : decode cX6_count 188 = .ok (.aload_n 0, 1) := by decide +kernel
theorem dX6_count_189 : decode cX6_count 189 = .ok (.invokevirtual 201, 3) := by decide +kernel
theorem dX6_count_192 : decode cX6_count 192 = .ok (.ireturn, 1) := by decide +kernel
theorem dX6_count_193 : decode cX6_count 193 = .ok (.aload_n 0, 1) := by decide +kernel
theorem dX6_count_194 : decode cX6_count 194 = .ok (.invokevirtual 217, 3) := by decide +kernel
theorem dX6_count_197 : decode cX6_count 197 = .ok (.ireturn, 1) := by decide +kernel
theorem dX6_count_198 : decode cX6_count 198 = .ok (.aload_n 0, 1) := by decide +kernel
theorem dX6_count_199 : decode cX6_count 199 = .ok (.getfield 7, 3) := by decide +kernel
theorem dX6_count_202 : decode cX6_count 202 = .ok (.iconst 2, 1) := by decide +kernel
theorem dX6_count_203 : decode cX6_count 203 = .ok (.iaload, 1) := by decide +kernel
theorem dX6_count_204 : decode cX6_count 204 = .ok (.iconst 2, 1) := by decide +kernel
theorem dX6_count_205 : decode cX6_count 205 = .ok (.irem, 1) := by decide +kernel
theorem dX6_count_206 : decode cX6_count 206 = .ok (.ireturn, 1) := by decide +kernel
theorem dX6_isVertex_0 : decode cX6_isVertex 0 = .ok (.iload_n 1, 1) := by decide +kernel
theorem dX6_isVertex_1 : decode cX6_isVertex 1 = .ok (.iconst 0, 1) := by decide +kernel
theorem dX6_isVertex_2 : decode cX6_isVertex 2 = .ok (.aload_n 0, 1) := by decide +kernel
theorem dX6_isVertex_3 : decode cX6_isVertex 3 = .ok (.getfield 7, 3) := by decide +kernel
theorem dX6_isVertex_6 : decode cX6_isVertex 6 = .ok (.iconst 0, 1) := by decide +kernel
theorem dX6_isVertex_7 : decode cX6_isVertex 7 = .ok (.iaload, 1) := by decide +kernel
theorem dX6_isVertex_8 : decode cX6_isVertex 8 = .ok (.iconst 1, 1) := by decide +kernel
theorem dX6_isVertex_9 : decode cX6_isVertex 9 = .ok (.isub, 1) := by decide +kernel
theorem dX6_isVertex_10 : decode cX6_isVertex 10 = .ok (.invokestatic 76, 3) := by decide +kernel
theorem dX6_isVertex_13 : decode cX6_isVertex 13 = .ok (.ireturn, 1) := by decide +kernel
theorem dX6_isColour_0 : decode cX6_isColour 0 = .ok (.iload_n 1, 1) := by decide +kernel
theorem dX6_isColour_1 : decode cX6_isColour 1 = .ok (.iconst 0, 1) := by decide +kernel
theorem dX6_isColour_2 : decode cX6_isColour 2 = .ok (.aload_n 0, 1) := by decide +kernel
theorem dX6_isColour_3 : decode cX6_isColour 3 = .ok (.getfield 7, 3) := by decide +kernel
theorem dX6_isColour_6 : decode cX6_isColour 6 = .ok (.iconst 1, 1) := by decide +kernel
theorem dX6_isColour_7 : decode cX6_isColour 7 = .ok (.iaload, 1) := by decide +kernel
theorem dX6_isColour_8 : decode cX6_isColour 8 = .ok (.iconst 1, 1) := by decide +kernel
theorem dX6_isColour_9 : decode cX6_isColour 9 = .ok (.isub, 1) := by decide +kernel
theorem dX6_isColour_10 : decode cX6_isColour 10 = .ok (.invokestatic 76, 3) := by decide +kernel
theorem dX6_isColour_13 : decode cX6_isColour 13 = .ok (.ireturn, 1) := by decide +kernel
theorem dX6_vertex_0 : decode cX6_vertex 0 = .ok (.aload_n 0, 1) := by decide +kernel
theorem dX6_vertex_1 : decode cX6_vertex 1 = .ok (.aload_n 0, 1) := by decide +kernel
theorem dX6_vertex_2 : decode cX6_vertex 2 = .ok (.iload_n 1, 1) := by decide +kernel
theorem dX6_vertex_3 : decode cX6_vertex 3 = .ok (.invokevirtual 220, 3) := by decide +kernel
theorem dX6_vertex_6 : decode cX6_vertex 6 = .ok (.ifCond .ne 7, 3) := by decide +kernel
theorem dX6_vertex_9 : decode cX6_vertex 9 = .ok (.iconst 1, 1) := by decide +kernel
theorem dX6_vertex_10 : decode cX6_vertex 10 = .ok (.goto 17, 3) := by decide +kernel
theorem dX6_vertex_13 : decode cX6_vertex 13 = .ok (.iload_n 2, 1) := by decide +kernel
theorem dX6_vertex_14 : decode cX6_vertex 14 = .ok (.iconst 0, 1) := by decide +kernel
theorem dX6_vertex_15 : decode cX6_vertex 15 = .ok (.iconst 5, 1) := by decide +kernel
theorem dX6_vertex_16 : decode cX6_vertex 16 = .ok (.invokestatic 76, 3) := by decide +kernel
theorem dX6_vertex_19 : decode cX6_vertex 19 = .ok (.ifCond .eq 7, 3) := by decide +kernel
theorem dX6_vertex_22 : decode cX6_vertex 22 = .ok (.iconst 0, 1) := by decide +kernel
theorem dX6_vertex_23 : decode cX6_vertex 23 = .ok (.goto 4, 3) := by decide +kernel
theorem dX6_vertex_26 : decode cX6_vertex 26 = .ok (.iconst 2, 1) := by decide +kernel
theorem dX6_vertex_27 : decode cX6_vertex 27 = .ok (.putfield 47, 3) := by decide +kernel
theorem dX6_vertex_30 : decode cX6_vertex 30 = .ok (.aload_n 0, 1) := by decide +kernel
theorem dX6_vertex_31 : decode cX6_vertex 31 = .ok (.getfield 47, 3) := by decide +kernel
theorem dX6_vertex_34 : decode cX6_vertex 34 = .ok (.ifCond .le 5, 3) := by decide +kernel
theorem dX6_vertex_37 : decode cX6_vertex 37 = .ok (.iconst 0, 1) := by decide +kernel
theorem dX6_vertex_38 : decode cX6_vertex 38 = .ok (.ireturn, 1) := by decide +kernel
theorem dX6_vertex_39 : decode cX6_vertex 39 = .ok (.iload_n 2, 1) := by decide +kernel
theorem dX6_vertex_40 : decode cX6_vertex 40 = .ok (.tableswitch 88 0 4 #[36, 42, 51, 57, 70], 36) := by decide +kernel
theorem dX6_vertex_76 : decode cX6_vertex 76 = .ok (.aload_n 0, 1) := by decide +kernel
theorem dX6_vertex_77 : decode cX6_vertex 77 = .ok (.iload_n 1, 1) := by decide +kernel
theorem dX6_vertex_78 : decode cX6_vertex 78 = .ok (.invokevirtual 183, 3) := by decide +kernel
theorem dX6_vertex_81 : decode cX6_vertex 81 = .ok (.ireturn, 1) := by decide +kernel
theorem dX6_vertex_82 : decode cX6_vertex 82 = .ok (.aload_n 0, 1) := by decide +kernel
theorem dX6_vertex_83 : decode cX6_vertex 83 = .ok (.getfield 7, 3) := by decide +kernel
theorem dX6_vertex_86 : decode cX6_vertex 86 = .ok (.iconst 4, 1) := by decide +kernel
theorem dX6_vertex_87 : decode cX6_vertex 87 = .ok (.iload_n 1, 1) := by decide +kernel
theorem dX6_vertex_88 : decode cX6_vertex 88 = .ok (.iadd, 1) := by decide +kernel
theorem dX6_vertex_89 : decode cX6_vertex 89 = .ok (.iaload, 1) := by decide +kernel
theorem dX6_vertex_90 : decode cX6_vertex 90 = .ok (.ireturn, 1) := by decide +kernel
theorem dX6_vertex_91 : decode cX6_vertex 91 = .ok (.aload_n 0, 1) := by decide +kernel
theorem dX6_vertex_92 : decode cX6_vertex 92 = .ok (.iload_n 1, 1) := by decide +kernel
theorem dX6_vertex_93 : decode cX6_vertex 93 = .ok (.invokevirtual 199, 3) := by decide +kernel
theorem dX6_vertex_96 : decode cX6_vertex 96 = .ok (.ireturn, 1) := by decide +kernel
theorem dX6_vertex_97 : decode cX6_vertex 97 = .ok (.aload_n 0, 1) := by decide +kernel
theorem dX6_vertex_98 : decode cX6_vertex 98 = .ok (.getfield 7, 3) := by decide +kernel
theorem dX6_vertex_101 : decode cX6_vertex 101 = .ok (.bipush 13, 2) := by decide +kernel
theorem dX6_vertex_103 : decode cX6_vertex 103 = .ok (.iload_n 1, 1) := by decide +kernel
theorem dX6_vertex_104 : decode cX6_vertex 104 = .ok (.iadd, 1) := by decide +kernel
theorem dX6_vertex_105 : decode cX6_vertex 105 = .ok (.iaload, 1) := by decide +kernel
theorem dX6_vertex_106 : decode cX6_vertex 106 = .ok (.invokestatic 189, 3) := by decide +kernel
theorem dX6_vertex_109 : decode cX6_vertex 109 = .ok (.ireturn, 1) := by decide +kernel
theorem dX6_vertex_110 : decode cX6_vertex 110 = .ok (.aload_n 0, 1) := by decide +kernel
theorem dX6_vertex_111 : decode cX6_vertex 111 = .ok (.iload_n 1, 1) := by decide +kernel
theorem dX6_vertex_112 : decode cX6_vertex 112 = .ok (.invokevirtual 170, 3) := by decide +kernel
theorem dX6_vertex_115 : decode cX6_vertex 115 = .ok (.ifCond .eq 11, 3) := by decide +kernel
theorem dX6_vertex_118 : decode cX6_vertex 118 = .ok (.aload_n 0, 1) := by decide +kernel
theorem dX6_vertex_119 : decode cX6_vertex 119 = .ok (.iload_n 1, 1) := by decide +kernel
theorem dX6_vertex_120 : decode cX6_vertex 120 = .ok (.invokevirtual 223, 3) := by decide +kernel
theorem dX6_vertex_123 : decode cX6_vertex 123 = .ok (.goto 4, 3) := by decide +kernel
theorem dX6_vertex_126 : decode cX6_vertex 126 = .ok (.iconst (-1), 1) := by decide +kernel
theorem dX6_vertex_127 : decode cX6_vertex 127 = .ok (.ireturn, 1) := by decide +kernel
theorem dX6_vertex_128 : decode cX6_vertex 128 = .ok (.aload_n 0, 1) := by decide +kernel
theorem dX6_vertex_129 : decode cX6_vertex 129 = .ok (.getfield 7, 3) := by decide +kernel
theorem dX6_vertex_132 : decode cX6_vertex 132 = .ok (.bipush 13, 2) := by decide +kernel
theorem dX6_vertex_134 : decode cX6_vertex 134 = .ok (.iload_n 1, 1) := by decide +kernel
theorem dX6_vertex_135 : decode cX6_vertex 135 = .ok (.iadd, 1) := by decide +kernel
theorem dX6_vertex_136 : decode cX6_vertex 136 = .ok (.iaload, 1) := by decide +kernel
theorem dX6_vertex_137 : decode cX6_vertex 137 = .ok (.aload_n 0, 1) := by decide +kernel
theorem dX6_vertex_138 : decode cX6_vertex 138 = .ok (.invokevirtual 180, 3) := by decide +kernel
theorem dX6_vertex_141 : decode cX6_vertex 141 = .ok (.iand, 1) := by decide +kernel
theorem dX6_vertex_142 : decode cX6_vertex 142 = .ok (.invokestatic 189, 3) := by decide +kernel
theorem dX6_vertex_145 : decode cX6_vertex 145 = .ok (.ireturn, 1) := by decide +kernel
theorem dX6_reason_0 : decode cX6_reason 0 = .ok (.aload_n 0, 1) := by decide +kernel
theorem dX6_reason_1 : decode cX6_reason 1 = .ok (.aload_n 0, 1) := by decide +kernel
theorem dX6_reason_2 : decode cX6_reason 2 = .ok (.iload_n 1, 1) := by decide +kernel
theorem dX6_reason_3 : decode cX6_reason 3 = .ok (.invokevirtual 220, 3) := by decide +kernel
theorem dX6_reason_6 : decode cX6_reason 6 = .ok (.ifCond .eq 15, 3) := by decide +kernel
theorem dX6_reason_9 : decode cX6_reason 9 = .ok (.aload_n 0, 1) := by decide +kernel
theorem dX6_reason_10 : decode cX6_reason 10 = .ok (.iload_n 2, 1) := by decide +kernel
theorem dX6_reason_11 : decode cX6_reason 11 = .ok (.invokevirtual 226, 3) := by decide +kernel
theorem dX6_reason_14 : decode cX6_reason 14 = .ok (.ifCond .eq 7, 3) := by decide +kernel
theorem dX6_reason_17 : decode cX6_reason 17 = .ok (.iconst 0, 1) := by decide +kernel
theorem dX6_reason_18 : decode cX6_reason 18 = .ok (.goto 4, 3) := by decide +kernel
theorem dX6_reason_21 : decode cX6_reason 21 = .ok (.iconst 1, 1) := by decide +kernel
theorem dX6_reason_22 : decode cX6_reason 22 = .ok (.putfield 47, 3) := by decide +kernel
theorem dX6_reason_25 : decode cX6_reason 25 = .ok (.aload_n 0, 1) := by decide +kernel
theorem dX6_reason_26 : decode cX6_reason 26 = .ok (.getfield 47, 3) := by decide +kernel
theorem dX6_reason_29 : decode cX6_reason 29 = .ok (.ifCond .le 7, 3) := by decide +kernel
theorem dX6_reason_32 : decode cX6_reason 32 = .ok (.iconst 0, 1) := by decide +kernel
theorem dX6_reason_33 : decode cX6_reason 33 = .ok (.goto 9, 3) := by decide +kernel
theorem dX6_reason_36 : decode cX6_reason 36 = .ok (.aload_n 0, 1) := by decide +kernel
theorem dX6_reason_37 : decode cX6_reason 37 = .ok (.iload_n 1, 1) := by decide +kernel
theorem dX6_reason_38 : decode cX6_reason 38 = .ok (.iload_n 2, 1) := by decide +kernel
theorem dX6_reason_39 : decode cX6_reason 39 = .ok (.invokevirtual 127, 3) := by decide +kernel
theorem dX6_reason_42 : decode cX6_reason 42 = .ok (.ireturn, 1) := by decide +kernel
theorem dX6_forgets_0 : decode cX6_forgets 0 = .ok (.iconst 0, 1) := by decide +kernel
theorem dX6_forgets_1 : decode cX6_forgets 1 = .ok (.istore_n 1, 1) := by decide +kernel
theorem dX6_forgets_2 : decode cX6_forgets 2 = .ok (.iload_n 1, 1) := by decide +kernel
theorem dX6_forgets_3 : decode cX6_forgets 3 = .ok (.ldc 37, 2) := by decide +kernel
theorem dX6_forgets_5 : decode cX6_forgets 5 = .ok (.if_icmp .ge 16, 3) := by decide +kernel
theorem dX6_forgets_8 : decode cX6_forgets 8 = .ok (.aload_n 0, 1) := by decide +kernel
theorem dX6_forgets_9 : decode cX6_forgets 9 = .ok (.getfield 38, 3) := by decide +kernel
theorem dX6_forgets_12 : decode cX6_forgets 12 = .ok (.iload_n 1, 1) := by decide +kernel
theorem dX6_forgets_13 : decode cX6_forgets 13 = .ok (.iconst (-1), 1) := by decide +kernel
theorem dX6_forgets_14 : decode cX6_forgets 14 = .ok (.iastore, 1) := by decide +kernel
theorem dX6_forgets_15 : decode cX6_forgets 15 = .ok (.iinc 1 1, 3) := by decide +kernel
theorem dX6_forgets_18 : decode cX6_forgets 18 = .ok (.goto (-16), 3) := by decide +kernel
theorem dX6_forgets_21 : decode cX6_forgets 21 = .ok (.return_, 1) := by decide +kernel
theorem dX6_placeOf_0 : decode cX6_placeOf 0 = .ok (.iconst 0, 1) := by decide +kernel
theorem dX6_placeOf_1 : decode cX6_placeOf 1 = .ok (.istore_n 3, 1) := by decide +kernel
theorem dX6_placeOf_2 : decode cX6_placeOf 2 = .ok (.aload_n 0, 1) := by decide +kernel
theorem dX6_placeOf_3 : decode cX6_placeOf 3 = .ok (.getfield 7, 3) := by decide +kernel
theorem dX6_placeOf_6 : decode cX6_placeOf 6 = .ok (.iconst 0, 1) := by decide +kernel
theorem dX6_placeOf_7 : decode cX6_placeOf 7 = .ok (.iaload, 1) := by decide +kernel
theorem dX6_placeOf_8 : decode cX6_placeOf 8 = .ok (.iconst 1, 1) := by decide +kernel
theorem dX6_placeOf_9 : decode cX6_placeOf 9 = .ok (.isub, 1) := by decide +kernel
theorem dX6_placeOf_10 : decode cX6_placeOf 10 = .ok (.istore 4, 2) := by decide +kernel
theorem dX6_placeOf_12 : decode cX6_placeOf 12 = .ok (.iload 4, 2) := by decide +kernel
theorem dX6_placeOf_14 : decode cX6_placeOf 14 = .ok (.ifCond .lt 97, 3) := by decide +kernel
theorem dX6_placeOf_17 : decode cX6_placeOf 17 = .ok (.iload_n 1, 1) := by decide +kernel
theorem dX6_placeOf_18 : decode cX6_placeOf 18 = .ok (.iload 4, 2) := by decide +kernel
theorem dX6_placeOf_20 : decode cX6_placeOf 20 = .ok (.ishr, 1) := by decide +kernel
theorem dX6_placeOf_21 : decode cX6_placeOf 21 = .ok (.iconst 1, 1) := by decide +kernel
theorem dX6_placeOf_22 : decode cX6_placeOf 22 = .ok (.iand, 1) := by decide +kernel
theorem dX6_placeOf_23 : decode cX6_placeOf 23 = .ok (.iconst 1, 1) := by decide +kernel
theorem dX6_placeOf_24 : decode cX6_placeOf 24 = .ok (.if_icmp .ne 7, 3) := by decide +kernel
theorem dX6_placeOf_27 : decode cX6_placeOf 27 = .ok (.iconst 1, 1) := by decide +kernel
theorem dX6_placeOf_28 : decode cX6_placeOf 28 = .ok (.goto 4, 3) := by decide +kernel
theorem dX6_placeOf_31 : decode cX6_placeOf 31 = .ok (.iconst 0, 1) := by decide +kernel
theorem dX6_placeOf_32 : decode cX6_placeOf 32 = .ok (.istore 5, 2) := by decide +kernel
theorem dX6_placeOf_34 : decode cX6_placeOf 34 = .ok (.aload_n 0, 1) := by decide +kernel
theorem dX6_placeOf_35 : decode cX6_placeOf 35 = .ok (.iload 4, 2) := by decide +kernel
theorem dX6_placeOf_37 : decode cX6_placeOf 37 = .ok (.invokevirtual 170, 3) := by decide +kernel
theorem dX6_placeOf_40 : decode cX6_placeOf 40 = .ok (.ifCond .ne 22, 3) := by decide +kernel
theorem dX6_placeOf_43 : decode cX6_placeOf 43 = .ok (.aload_n 0, 1) := by decide +kernel
theorem dX6_placeOf_44 : decode cX6_placeOf 44 = .ok (.getfield 7, 3) := by decide +kernel
theorem dX6_placeOf_47 : decode cX6_placeOf 47 = .ok (.bipush 13, 2) := by decide +kernel
theorem dX6_placeOf_49 : decode cX6_placeOf 49 = .ok (.iload 4, 2) := by decide +kernel
theorem dX6_placeOf_51 : decode cX6_placeOf 51 = .ok (.iadd, 1) := by decide +kernel
theorem dX6_placeOf_52 : decode cX6_placeOf 52 = .ok (.iaload, 1) := by decide +kernel
theorem dX6_placeOf_53 : decode cX6_placeOf 53 = .ok (.iload_n 1, 1) := by decide +kernel
theorem dX6_placeOf_54 : decode cX6_placeOf 54 = .ok (.iand, 1) := by decide +kernel
theorem dX6_placeOf_55 : decode cX6_placeOf 55 = .ok (.ifCond .eq 7, 3) := by decide +kernel
theorem dX6_placeOf_58 : decode cX6_placeOf 58 = .ok (.iconst 1, 1) := by decide +kernel
theorem dX6_placeOf_59 : decode cX6_placeOf 59 = .ok (.goto 4, 3) := by decide +kernel
theorem dX6_placeOf_62 : decode cX6_placeOf 62 = .ok (.iconst 0, 1) := by decide +kernel
theorem dX6_placeOf_63 : decode cX6_placeOf 63 = .ok (.istore 6, 2) := by decide +kernel
theorem dX6_placeOf_65 : decode cX6_placeOf 65 = .ok (.iload_n 3, 1) := by decide +kernel
theorem dX6_placeOf_66 : decode cX6_placeOf 66 = .ok (.aload_n 0, 1) := by decide +kernel
theorem dX6_placeOf_67 : decode cX6_placeOf 67 = .ok (.getfield 7, 3) := by decide +kernel
theorem dX6_placeOf_70 : decode cX6_placeOf 70 = .ok (.iconst 1, 1) := by decide +kernel
theorem dX6_placeOf_71 : decode cX6_placeOf 71 = .ok (.iaload, 1) := by decide +kernel
theorem dX6_placeOf_72 : decode cX6_placeOf 72 = .ok (.iconst 1, 1) := by decide +kernel
theorem dX6_placeOf_73 : decode cX6_placeOf 73 = .ok (.iadd, 1) := by decide +kernel
theorem dX6_placeOf_74 : decode cX6_placeOf 74 = .ok (.imul, 1) := by decide +kernel
theorem dX6_placeOf_75 : decode cX6_placeOf 75 = .ok (.iload 5, 2) := by decide +kernel
theorem dX6_placeOf_77 : decode cX6_placeOf 77 = .ok (.ifCond .eq 7, 3) := by decide +kernel
theorem dX6_placeOf_80 : decode cX6_placeOf 80 = .ok (.iconst 0, 1) := by decide +kernel
theorem dX6_placeOf_81 : decode cX6_placeOf 81 = .ok (.goto 22, 3) := by decide +kernel
theorem dX6_placeOf_84 : decode cX6_placeOf 84 = .ok (.iload 6, 2) := by decide +kernel
theorem dX6_placeOf_86 : decode cX6_placeOf 86 = .ok (.ifCond .eq 16, 3) := by decide +kernel
theorem dX6_placeOf_89 : decode cX6_placeOf 89 = .ok (.aload_n 0, 1) := by decide +kernel
theorem dX6_placeOf_90 : decode cX6_placeOf 90 = .ok (.getfield 7, 3) := by decide +kernel
theorem dX6_placeOf_93 : decode cX6_placeOf 93 = .ok (.bipush 22, 2) := by decide +kernel
theorem dX6_placeOf_95 : decode cX6_placeOf 95 = .ok (.iload 4, 2) := by decide +kernel
theorem dX6_placeOf_97 : decode cX6_placeOf 97 = .ok (.iadd, 1) := by decide +kernel
theorem dX6_placeOf_98 : decode cX6_placeOf 98 = .ok (.iaload, 1) := by decide +kernel
theorem dX6_placeOf_99 : decode cX6_placeOf 99 = .ok (.goto 4, 3) := by decide +kernel
theorem dX6_placeOf_102 : decode cX6_placeOf 102 = .ok (.iconst 1, 1) := by decide +kernel
theorem dX6_placeOf_103 : decode cX6_placeOf 103 = .ok (.iadd, 1) := by decide +kernel
theorem dX6_placeOf_104 : decode cX6_placeOf 104 = .ok (.istore_n 3, 1) := by decide +kernel
theorem dX6_placeOf_105 : decode cX6_placeOf 105 = .ok (.iinc 4 (-1), 3) := by decide +kernel
theorem dX6_placeOf_108 : decode cX6_placeOf 108 = .ok (.goto (-96), 3) := by decide +kernel
theorem dX6_placeOf_111 : decode cX6_placeOf 111 = .ok (.iload_n 3, 1) := by decide +kernel
theorem dX6_placeOf_112 : decode cX6_placeOf 112 = .ok (.aload_n 0, 1) := by decide +kernel
theorem dX6_placeOf_113 : decode cX6_placeOf 113 = .ok (.getfield 7, 3) := by decide +kernel
theorem dX6_placeOf_116 : decode cX6_placeOf 116 = .ok (.iconst 1, 1) := by decide +kernel
theorem dX6_placeOf_117 : decode cX6_placeOf 117 = .ok (.iaload, 1) := by decide +kernel
theorem dX6_placeOf_118 : decode cX6_placeOf 118 = .ok (.iconst 1, 1) := by decide +kernel
theorem dX6_placeOf_119 : decode cX6_placeOf 119 = .ok (.iadd, 1) := by decide +kernel
theorem dX6_placeOf_120 : decode cX6_placeOf 120 = .ok (.imul, 1) := by decide +kernel
theorem dX6_placeOf_121 : decode cX6_placeOf 121 = .ok (.iload_n 2, 1) := by decide +kernel
theorem dX6_placeOf_122 : decode cX6_placeOf 122 = .ok (.iadd, 1) := by decide +kernel
theorem dX6_placeOf_123 : decode cX6_placeOf 123 = .ok (.iconst 1, 1) := by decide +kernel
theorem dX6_placeOf_124 : decode cX6_placeOf 124 = .ok (.iadd, 1) := by decide +kernel
theorem dX6_placeOf_125 : decode cX6_placeOf 125 = .ok (.ireturn, 1) := by decide +kernel
theorem dX6_together_0 : decode cX6_together 0 = .ok (.iconst 0, 1) := by decide +kernel
theorem dX6_together_1 : decode cX6_together 1 = .ok (.istore_n 3, 1) := by decide +kernel
theorem dX6_together_2 : decode cX6_together 2 = .ok (.iconst 0, 1) := by decide +kernel
theorem dX6_together_3 : decode cX6_together 3 = .ok (.istore 4, 2) := by decide +kernel
theorem dX6_together_5 : decode cX6_together 5 = .ok (.iconst 0, 1) := by decide +kernel
theorem dX6_together_6 : decode cX6_together 6 = .ok (.istore 5, 2) := by decide +kernel
theorem dX6_together_8 : decode cX6_together 8 = .ok (.iload_n 1, 1) := by decide +kernel
theorem dX6_together_9 : decode cX6_together 9 = .ok (.istore 6, 2) := by decide +kernel
theorem dX6_together_11 : decode cX6_together 11 = .ok (.iload 6, 2) := by decide +kernel
theorem dX6_together_13 : decode cX6_together 13 = .ok (.ifCond .le 66, 3) := by decide +kernel
theorem dX6_together_16 : decode cX6_together 16 = .ok (.aload_n 0, 1) := by decide +kernel
theorem dX6_together_17 : decode cX6_together 17 = .ok (.iload 6, 2) := by decide +kernel
theorem dX6_together_19 : decode cX6_together 19 = .ok (.invokestatic 174, 3) := by decide +kernel
theorem dX6_together_22 : decode cX6_together 22 = .ok (.iload_n 1, 1) := by decide +kernel
theorem dX6_together_23 : decode cX6_together 23 = .ok (.invokevirtual 177, 3) := by decide +kernel
theorem dX6_together_26 : decode cX6_together 26 = .ok (.istore 7, 2) := by decide +kernel
theorem dX6_together_28 : decode cX6_together 28 = .ok (.aload_n 0, 1) := by decide +kernel
theorem dX6_together_29 : decode cX6_together 29 = .ok (.iload 7, 2) := by decide +kernel
theorem dX6_together_31 : decode cX6_together 31 = .ok (.iload_n 2, 1) := by decide +kernel
theorem dX6_together_32 : decode cX6_together 32 = .ok (.invokevirtual 229, 3) := by decide +kernel
theorem dX6_together_35 : decode cX6_together 35 = .ok (.istore 8, 2) := by decide +kernel
theorem dX6_together_37 : decode cX6_together 37 = .ok (.iload_n 3, 1) := by decide +kernel
theorem dX6_together_38 : decode cX6_together 38 = .ok (.iload 8, 2) := by decide +kernel
theorem dX6_together_40 : decode cX6_together 40 = .ok (.bipush 31, 2) := by decide +kernel
theorem dX6_together_42 : decode cX6_together 42 = .ok (.iand, 1) := by decide +kernel
theorem dX6_together_43 : decode cX6_together 43 = .ok (.ixor, 1) := by decide +kernel
theorem dX6_together_44 : decode cX6_together 44 = .ok (.istore_n 3, 1) := by decide +kernel
theorem dX6_together_45 : decode cX6_together 45 = .ok (.iload 4, 2) := by decide +kernel
theorem dX6_together_47 : decode cX6_together 47 = .ok (.iload 8, 2) := by decide +kernel
theorem dX6_together_49 : decode cX6_together 49 = .ok (.iconst 5, 1) := by decide +kernel
theorem dX6_together_50 : decode cX6_together 50 = .ok (.ishr, 1) := by decide +kernel
theorem dX6_together_51 : decode cX6_together 51 = .ok (.bipush 31, 2) := by decide +kernel
theorem dX6_together_53 : decode cX6_together 53 = .ok (.iand, 1) := by decide +kernel
theorem dX6_together_54 : decode cX6_together 54 = .ok (.iadd, 1) := by decide +kernel
theorem dX6_together_55 : decode cX6_together 55 = .ok (.istore 4, 2) := by decide +kernel
theorem dX6_together_57 : decode cX6_together 57 = .ok (.iload 5, 2) := by decide +kernel
theorem dX6_together_59 : decode cX6_together 59 = .ok (.iload 8, 2) := by decide +kernel
theorem dX6_together_61 : decode cX6_together 61 = .ok (.bipush 10, 2) := by decide +kernel
theorem dX6_together_63 : decode cX6_together 63 = .ok (.ishr, 1) := by decide +kernel
theorem dX6_together_64 : decode cX6_together 64 = .ok (.iadd, 1) := by decide +kernel
theorem dX6_together_65 : decode cX6_together 65 = .ok (.istore 5, 2) := by decide +kernel
theorem dX6_together_67 : decode cX6_together 67 = .ok (.iload 6, 2) := by decide +kernel
theorem dX6_together_69 : decode cX6_together 69 = .ok (.iload 7, 2) := by decide +kernel
theorem dX6_together_71 : decode cX6_together 71 = .ok (.iconst (-1), 1) := by decide +kernel
theorem dX6_together_72 : decode cX6_together 72 = .ok (.ixor, 1) := by decide +kernel
theorem dX6_together_73 : decode cX6_together 73 = .ok (.iand, 1) := by decide +kernel
theorem dX6_together_74 : decode cX6_together 74 = .ok (.istore 6, 2) := by decide +kernel
theorem dX6_together_76 : decode cX6_together 76 = .ok (.goto (-65), 3) := by decide +kernel
theorem dX6_together_79 : decode cX6_together 79 = .ok (.iload_n 3, 1) := by decide +kernel
theorem dX6_together_80 : decode cX6_together 80 = .ok (.iload 4, 2) := by decide +kernel
theorem dX6_together_82 : decode cX6_together 82 = .ok (.iconst 5, 1) := by decide +kernel
theorem dX6_together_83 : decode cX6_together 83 = .ok (.ishl, 1) := by decide +kernel
theorem dX6_together_84 : decode cX6_together 84 = .ok (.ior, 1) := by decide +kernel
theorem dX6_together_85 : decode cX6_together 85 = .ok (.iload 5, 2) := by decide +kernel
theorem dX6_together_87 : decode cX6_together 87 = .ok (.bipush 10, 2) := by decide +kernel
theorem dX6_together_89 : decode cX6_together 89 = .ok (.ishl, 1) := by decide +kernel
theorem dX6_together_90 : decode cX6_together 90 = .ok (.ior, 1) := by decide +kernel
theorem dX6_together_91 : decode cX6_together 91 = .ok (.ireturn, 1) := by decide +kernel
theorem dX6_knownOf_0 : decode cX6_knownOf 0 = .ok (.aload_n 0, 1) := by decide +kernel
theorem dX6_knownOf_1 : decode cX6_knownOf 1 = .ok (.iload_n 1, 1) := by decide +kernel
theorem dX6_knownOf_2 : decode cX6_knownOf 2 = .ok (.iload_n 2, 1) := by decide +kernel
theorem dX6_knownOf_3 : decode cX6_knownOf 3 = .ok (.invokevirtual 232, 3) := by decide +kernel
theorem dX6_knownOf_6 : decode cX6_knownOf 6 = .ok (.istore_n 3, 1) := by decide +kernel
theorem dX6_knownOf_7 : decode cX6_knownOf 7 = .ok (.aload_n 0, 1) := by decide +kernel
theorem dX6_knownOf_8 : decode cX6_knownOf 8 = .ok (.getfield 38, 3) := by decide +kernel
theorem dX6_knownOf_11 : decode cX6_knownOf 11 = .ok (.iload_n 3, 1) := by decide +kernel
theorem dX6_knownOf_12 : decode cX6_knownOf 12 = .ok (.iaload, 1) := by decide +kernel
theorem dX6_knownOf_13 : decode cX6_knownOf 13 = .ok (.iconst (-1), 1) := by decide +kernel
theorem dX6_knownOf_14 : decode cX6_knownOf 14 = .ok (.if_icmp .eq 10, 3) := by decide +kernel
theorem dX6_knownOf_17 : decode cX6_knownOf 17 = .ok (.aload_n 0, 1) := by decide +kernel
theorem dX6_knownOf_18 : decode cX6_knownOf 18 = .ok (.getfield 38, 3) := by decide +kernel
theorem dX6_knownOf_21 : decode cX6_knownOf 21 = .ok (.iload_n 3, 1) := by decide +kernel
theorem dX6_knownOf_22 : decode cX6_knownOf 22 = .ok (.iaload, 1) := by decide +kernel
theorem dX6_knownOf_23 : decode cX6_knownOf 23 = .ok (.ireturn, 1) := by decide +kernel
theorem dX6_knownOf_24 : decode cX6_knownOf 24 = .ok (.iconst 0, 1) := by decide +kernel
theorem dX6_knownOf_25 : decode cX6_knownOf 25 = .ok (.istore 4, 2) := by decide +kernel
theorem dX6_knownOf_27 : decode cX6_knownOf 27 = .ok (.iconst 0, 1) := by decide +kernel
theorem dX6_knownOf_28 : decode cX6_knownOf 28 = .ok (.istore 5, 2) := by decide +kernel
theorem dX6_knownOf_30 : decode cX6_knownOf 30 = .ok (.iconst (-1), 1) := by decide +kernel
theorem dX6_knownOf_31 : decode cX6_knownOf 31 = .ok (.istore 6, 2) := by decide +kernel
theorem dX6_knownOf_33 : decode cX6_knownOf 33 = .ok (.iconst 0, 1) := by decide +kernel
theorem dX6_knownOf_34 : decode cX6_knownOf 34 = .ok (.istore 7, 2) := by decide +kernel
theorem dX6_knownOf_36 : decode cX6_knownOf 36 = .ok (.iload 7, 2) := by decide +kernel
theorem dX6_knownOf_38 : decode cX6_knownOf 38 = .ok (.aload_n 0, 1) := by decide +kernel
theorem dX6_knownOf_39 : decode cX6_knownOf 39 = .ok (.getfield 7, 3) := by decide +kernel
theorem dX6_knownOf_42 : decode cX6_knownOf 42 = .ok (.iconst 0, 1) := by decide +kernel
theorem dX6_knownOf_43 : decode cX6_knownOf 43 = .ok (.iaload, 1) := by decide +kernel
theorem dX6_knownOf_44 : decode cX6_knownOf 44 = .ok (.if_icmp .ge 177, 3) := by decide +kernel
theorem dX6_knownOf_47 : decode cX6_knownOf 47 = .ok (.iload_n 1, 1) := by decide +kernel
theorem dX6_knownOf_48 : decode cX6_knownOf 48 = .ok (.iload 7, 2) := by decide +kernel
theorem dX6_knownOf_50 : decode cX6_knownOf 50 = .ok (.ishr, 1) := by decide +kernel
theorem dX6_knownOf_51 : decode cX6_knownOf 51 = .ok (.iconst 1, 1) := by decide +kernel
theorem dX6_knownOf_52 : decode cX6_knownOf 52 = .ok (.iand, 1) := by decide +kernel
theorem dX6_knownOf_53 : decode cX6_knownOf 53 = .ok (.iconst 1, 1) := by decide +kernel
theorem dX6_knownOf_54 : decode cX6_knownOf 54 = .ok (.if_icmp .ne 14, 3) := by decide +kernel
theorem dX6_knownOf_57 : decode cX6_knownOf 57 = .ok (.aload_n 0, 1) := by decide +kernel
theorem dX6_knownOf_58 : decode cX6_knownOf 58 = .ok (.iload 7, 2) := by decide +kernel
theorem dX6_knownOf_60 : decode cX6_knownOf 60 = .ok (.iload_n 1, 1) := by decide +kernel
theorem dX6_knownOf_61 : decode cX6_knownOf 61 = .ok (.iload_n 2, 1) := by decide +kernel
theorem dX6_knownOf_62 : decode cX6_knownOf 62 = .ok (.invokevirtual 195, 3) := by decide +kernel
theorem dX6_knownOf_65 : decode cX6_knownOf 65 = .ok (.goto 4, 3) := by decide +kernel
theorem dX6_knownOf_68 : decode cX6_knownOf 68 = .ok (.iconst 0, 1) := by decide +kernel
theorem dX6_knownOf_69 : decode cX6_knownOf 69 = .ok (.istore 8, 2) := by decide +kernel
theorem dX6_knownOf_71 : decode cX6_knownOf 71 = .ok (.iconst 0, 1) := by decide +kernel
theorem dX6_knownOf_72 : decode cX6_knownOf 72 = .ok (.istore 9, 2) := by decide +kernel
theorem dX6_knownOf_74 : decode cX6_knownOf 74 = .ok (.iload 9, 2) := by decide +kernel
theorem dX6_knownOf_76 : decode cX6_knownOf 76 = .ok (.aload_n 0, 1) := by decide +kernel
theorem dX6_knownOf_77 : decode cX6_knownOf 77 = .ok (.getfield 7, 3) := by decide +kernel
theorem dX6_knownOf_80 : decode cX6_knownOf 80 = .ok (.iconst 1, 1) := by decide +kernel
theorem dX6_knownOf_81 : decode cX6_knownOf 81 = .ok (.iaload, 1) := by decide +kernel
theorem dX6_knownOf_82 : decode cX6_knownOf 82 = .ok (.if_icmp .ge 133, 3) := by decide +kernel
theorem dX6_knownOf_85 : decode cX6_knownOf 85 = .ok (.iload 8, 2) := by decide +kernel
theorem dX6_knownOf_87 : decode cX6_knownOf 87 = .ok (.iload 9, 2) := by decide +kernel
theorem dX6_knownOf_89 : decode cX6_knownOf 89 = .ok (.ishr, 1) := by decide +kernel
theorem dX6_knownOf_90 : decode cX6_knownOf 90 = .ok (.iconst 1, 1) := by decide +kernel
theorem dX6_knownOf_91 : decode cX6_knownOf 91 = .ok (.iand, 1) := by decide +kernel
theorem dX6_knownOf_92 : decode cX6_knownOf 92 = .ok (.ifCond .ne 6, 3) := by decide +kernel
theorem dX6_knownOf_95 : decode cX6_knownOf 95 = .ok (.goto 114, 3) := by decide +kernel
theorem dX6_knownOf_98 : decode cX6_knownOf 98 = .ok (.aload_n 0, 1) := by decide +kernel
theorem dX6_knownOf_99 : decode cX6_knownOf 99 = .ok (.getfield 7, 3) := by decide +kernel
theorem dX6_knownOf_102 : decode cX6_knownOf 102 = .ok (.bipush 22, 2) := by decide +kernel
theorem dX6_knownOf_104 : decode cX6_knownOf 104 = .ok (.iload 7, 2) := by decide +kernel
theorem dX6_knownOf_106 : decode cX6_knownOf 106 = .ok (.iadd, 1) := by decide +kernel
theorem dX6_knownOf_107 : decode cX6_knownOf 107 = .ok (.iload 9, 2) := by decide +kernel
theorem dX6_knownOf_109 : decode cX6_knownOf 109 = .ok (.iconst 1, 1) := by decide +kernel
theorem dX6_knownOf_110 : decode cX6_knownOf 110 = .ok (.iadd, 1) := by decide +kernel
theorem dX6_knownOf_111 : decode cX6_knownOf 111 = .ok (.iastore, 1) := by decide +kernel
theorem dX6_knownOf_112 : decode cX6_knownOf 112 = .ok (.aload_n 0, 1) := by decide +kernel
theorem dX6_knownOf_113 : decode cX6_knownOf 113 = .ok (.iload_n 1, 1) := by decide +kernel
theorem dX6_knownOf_114 : decode cX6_knownOf 114 = .ok (.iconst 1, 1) := by decide +kernel
theorem dX6_knownOf_115 : decode cX6_knownOf 115 = .ok (.iload 7, 2) := by decide +kernel
theorem dX6_knownOf_117 : decode cX6_knownOf 117 = .ok (.ishl, 1) := by decide +kernel
theorem dX6_knownOf_118 : decode cX6_knownOf 118 = .ok (.iconst (-1), 1) := by decide +kernel
theorem dX6_knownOf_119 : decode cX6_knownOf 119 = .ok (.ixor, 1) := by decide +kernel
theorem dX6_knownOf_120 : decode cX6_knownOf 120 = .ok (.iand, 1) := by decide +kernel
theorem dX6_knownOf_121 : decode cX6_knownOf 121 = .ok (.iload 9, 2) := by decide +kernel
theorem dX6_knownOf_123 : decode cX6_knownOf 123 = .ok (.invokevirtual 235, 3) := by decide +kernel
theorem dX6_knownOf_126 : decode cX6_knownOf 126 = .ok (.istore 10, 2) := by decide +kernel
theorem dX6_knownOf_128 : decode cX6_knownOf 128 = .ok (.aload_n 0, 1) := by decide +kernel
theorem dX6_knownOf_129 : decode cX6_knownOf 129 = .ok (.getfield 7, 3) := by decide +kernel
theorem dX6_knownOf_132 : decode cX6_knownOf 132 = .ok (.bipush 22, 2) := by decide +kernel
theorem dX6_knownOf_134 : decode cX6_knownOf 134 = .ok (.iload 7, 2) := by decide +kernel
theorem dX6_knownOf_136 : decode cX6_knownOf 136 = .ok (.iadd, 1) := by decide +kernel
theorem dX6_knownOf_137 : decode cX6_knownOf 137 = .ok (.iconst 0, 1) := by decide +kernel
theorem dX6_knownOf_138 : decode cX6_knownOf 138 = .ok (.iastore, 1) := by decide +kernel
theorem dX6_knownOf_139 : decode cX6_knownOf 139 = .ok (.iload 4, 2) := by decide +kernel
theorem dX6_knownOf_141 : decode cX6_knownOf 141 = .ok (.iconst 1, 1) := by decide +kernel
theorem dX6_knownOf_142 : decode cX6_knownOf 142 = .ok (.iload 10, 2) := by decide +kernel
theorem dX6_knownOf_144 : decode cX6_knownOf 144 = .ok (.bipush 31, 2) := by decide +kernel
theorem dX6_knownOf_146 : decode cX6_knownOf 146 = .ok (.iand, 1) := by decide +kernel
theorem dX6_knownOf_147 : decode cX6_knownOf 147 = .ok (.ishl, 1) := by decide +kernel
theorem dX6_knownOf_148 : decode cX6_knownOf 148 = .ok (.ior, 1) := by decide +kernel
theorem dX6_knownOf_149 : decode cX6_knownOf 149 = .ok (.istore 4, 2) := by decide +kernel
theorem dX6_knownOf_151 : decode cX6_knownOf 151 = .ok (.iconst 1, 1) := by decide +kernel
theorem dX6_knownOf_152 : decode cX6_knownOf 152 = .ok (.iload 10, 2) := by decide +kernel
theorem dX6_knownOf_154 : decode cX6_knownOf 154 = .ok (.iconst 5, 1) := by decide +kernel
theorem dX6_knownOf_155 : decode cX6_knownOf 155 = .ok (.ishr, 1) := by decide +kernel
theorem dX6_knownOf_156 : decode cX6_knownOf 156 = .ok (.bipush 31, 2) := by decide +kernel
theorem dX6_knownOf_158 : decode cX6_knownOf 158 = .ok (.iand, 1) := by decide +kernel
theorem dX6_knownOf_159 : decode cX6_knownOf 159 = .ok (.iadd, 1) := by decide +kernel
theorem dX6_knownOf_160 : decode cX6_knownOf 160 = .ok (.istore 11, 2) := by decide +kernel
theorem dX6_knownOf_162 : decode cX6_knownOf 162 = .ok (.iconst 1, 1) := by decide +kernel
theorem dX6_knownOf_163 : decode cX6_knownOf 163 = .ok (.iload 10, 2) := by decide +kernel
theorem dX6_knownOf_165 : decode cX6_knownOf 165 = .ok (.bipush 10, 2) := by decide +kernel
theorem dX6_knownOf_167 : decode cX6_knownOf 167 = .ok (.ishr, 1) := by decide +kernel
theorem dX6_knownOf_168 : decode cX6_knownOf 168 = .ok (.iadd, 1) := by decide +kernel
theorem dX6_knownOf_169 : decode cX6_knownOf 169 = .ok (.istore 12, 2) := by decide +kernel
theorem dX6_knownOf_171 : decode cX6_knownOf 171 = .ok (.iload 11, 2) := by decide +kernel
theorem dX6_knownOf_173 : decode cX6_knownOf 173 = .ok (.iload 5, 2) := by decide +kernel
theorem dX6_knownOf_175 : decode cX6_knownOf 175 = .ok (.if_icmp .le 8, 3) := by decide +kernel
theorem dX6_knownOf_178 : decode cX6_knownOf 178 = .ok (.iload 11, 2) := by decide +kernel
theorem dX6_knownOf_180 : decode cX6_knownOf 180 = .ok (.goto 5, 3) := by decide +kernel
theorem dX6_knownOf_183 : decode cX6_knownOf 183 = .ok (.iload 5, 2) := by decide +kernel
theorem dX6_knownOf_185 : decode cX6_knownOf 185 = .ok (.istore 5, 2) := by decide +kernel
theorem dX6_knownOf_187 : decode cX6_knownOf 187 = .ok (.iload 6, 2) := by decide +kernel
theorem dX6_knownOf_189 : decode cX6_knownOf 189 = .ok (.iconst (-1), 1) := by decide +kernel
theorem dX6_knownOf_190 : decode cX6_knownOf 190 = .ok (.if_icmp .eq 10, 3) := by decide +kernel
theorem dX6_knownOf_193 : decode cX6_knownOf 193 = .ok (.iload 12, 2) := by decide +kernel
theorem dX6_knownOf_195 : decode cX6_knownOf 195 = .ok (.iload 6, 2) := by decide +kernel
theorem dX6_knownOf_197 : decode cX6_knownOf 197 = .ok (.if_icmp .ge 8, 3) := by decide +kernel
theorem dX6_knownOf_200 : decode cX6_knownOf 200 = .ok (.iload 12, 2) := by decide +kernel
theorem dX6_knownOf_202 : decode cX6_knownOf 202 = .ok (.goto 5, 3) := by decide +kernel
theorem dX6_knownOf_205 : decode cX6_knownOf 205 = .ok (.iload 6, 2) := by decide +kernel
theorem dX6_knownOf_207 : decode cX6_knownOf 207 = .ok (.istore 6, 2) := by decide +kernel
theorem dX6_knownOf_209 : decode cX6_knownOf 209 = .ok (.iinc 9 1, 3) := by decide +kernel
theorem dX6_knownOf_212 : decode cX6_knownOf 212 = .ok (.goto (-138), 3) := by decide +kernel
theorem dX6_knownOf_215 : decode cX6_knownOf 215 = .ok (.iinc 7 1, 3) := by decide +kernel
theorem dX6_knownOf_218 : decode cX6_knownOf 218 = .ok (.goto (-182), 3) := by decide +kernel
theorem dX6_knownOf_221 : decode cX6_knownOf 221 = .ok (.aload_n 0, 1) := by decide +kernel
theorem dX6_knownOf_222 : decode cX6_knownOf 222 = .ok (.getfield 38, 3) := by decide +kernel
theorem dX6_knownOf_225 : decode cX6_knownOf 225 = .ok (.iload_n 3, 1) := by decide +kernel
theorem dX6_knownOf_226 : decode cX6_knownOf 226 = .ok (.iload 4, 2) := by decide +kernel
theorem dX6_knownOf_228 : decode cX6_knownOf 228 = .ok (.iconst (-1), 1) := by decide +kernel
theorem dX6_knownOf_229 : decode cX6_knownOf 229 = .ok (.ixor, 1) := by decide +kernel
theorem dX6_knownOf_230 : decode cX6_knownOf 230 = .ok (.invokestatic 174, 3) := by decide +kernel
theorem dX6_knownOf_233 : decode cX6_knownOf 233 = .ok (.iload 5, 2) := by decide +kernel
theorem dX6_knownOf_235 : decode cX6_knownOf 235 = .ok (.iconst 5, 1) := by decide +kernel
theorem dX6_knownOf_236 : decode cX6_knownOf 236 = .ok (.ishl, 1) := by decide +kernel
theorem dX6_knownOf_237 : decode cX6_knownOf 237 = .ok (.ior, 1) := by decide +kernel
theorem dX6_knownOf_238 : decode cX6_knownOf 238 = .ok (.iload 6, 2) := by decide +kernel
theorem dX6_knownOf_240 : decode cX6_knownOf 240 = .ok (.iconst (-1), 1) := by decide +kernel
theorem dX6_knownOf_241 : decode cX6_knownOf 241 = .ok (.if_icmp .ne 7, 3) := by decide +kernel
theorem dX6_knownOf_244 : decode cX6_knownOf 244 = .ok (.iconst 0, 1) := by decide +kernel
theorem dX6_knownOf_245 : decode cX6_knownOf 245 = .ok (.goto 5, 3) := by decide +kernel
theorem dX6_knownOf_248 : decode cX6_knownOf 248 = .ok (.iload 6, 2) := by decide +kernel
theorem dX6_knownOf_250 : decode cX6_knownOf 250 = .ok (.bipush 10, 2) := by decide +kernel
theorem dX6_knownOf_252 : decode cX6_knownOf 252 = .ok (.ishl, 1) := by decide +kernel
theorem dX6_knownOf_253 : decode cX6_knownOf 253 = .ok (.ior, 1) := by decide +kernel
theorem dX6_knownOf_254 : decode cX6_knownOf 254 = .ok (.iastore, 1) := by decide +kernel
theorem dX6_knownOf_255 : decode cX6_knownOf 255 = .ok (.aload_n 0, 1) := by decide +kernel
theorem dX6_knownOf_256 : decode cX6_knownOf 256 = .ok (.getfield 38, 3) := by decide +kernel
theorem dX6_knownOf_259 : decode cX6_knownOf 259 = .ok (.iload_n 3, 1) := by decide +kernel
theorem dX6_knownOf_260 : decode cX6_knownOf 260 = .ok (.iaload, 1) := by decide +kernel
theorem dX6_knownOf_261 : decode cX6_knownOf 261 = .ok (.ireturn, 1) := by decide +kernel
theorem dX6_board_0 : decode cX6_board 0 = .ok (.iconst 0, 1) := by decide +kernel
theorem dX6_board_1 : decode cX6_board 1 = .ok (.istore_n 1, 1) := by decide +kernel
theorem dX6_board_2 : decode cX6_board 2 = .ok (.iconst 0, 1) := by decide +kernel
theorem dX6_board_3 : decode cX6_board 3 = .ok (.istore_n 2, 1) := by decide +kernel
theorem dX6_board_4 : decode cX6_board 4 = .ok (.iconst 0, 1) := by decide +kernel
theorem dX6_board_5 : decode cX6_board 5 = .ok (.istore_n 3, 1) := by decide +kernel
theorem dX6_board_6 : decode cX6_board 6 = .ok (.aload_n 0, 1) := by decide +kernel
theorem dX6_board_7 : decode cX6_board 7 = .ok (.invokevirtual 180, 3) := by decide +kernel
theorem dX6_board_10 : decode cX6_board 10 = .ok (.istore 4, 2) := by decide +kernel
theorem dX6_board_12 : decode cX6_board 12 = .ok (.iload 4, 2) := by decide +kernel
theorem dX6_board_14 : decode cX6_board 14 = .ok (.istore 5, 2) := by decide +kernel
theorem dX6_board_16 : decode cX6_board 16 = .ok (.iload 5, 2) := by decide +kernel
theorem dX6_board_18 : decode cX6_board 18 = .ok (.ifCond .le 71, 3) := by decide +kernel
theorem dX6_board_21 : decode cX6_board 21 = .ok (.aload_n 0, 1) := by decide +kernel
theorem dX6_board_22 : decode cX6_board 22 = .ok (.iload 5, 2) := by decide +kernel
theorem dX6_board_24 : decode cX6_board 24 = .ok (.invokestatic 174, 3) := by decide +kernel
theorem dX6_board_27 : decode cX6_board 27 = .ok (.iload 4, 2) := by decide +kernel
theorem dX6_board_29 : decode cX6_board 29 = .ok (.invokevirtual 177, 3) := by decide +kernel
theorem dX6_board_32 : decode cX6_board 32 = .ok (.istore 6, 2) := by decide +kernel
theorem dX6_board_34 : decode cX6_board 34 = .ok (.aload_n 0, 1) := by decide +kernel
theorem dX6_board_35 : decode cX6_board 35 = .ok (.iload 6, 2) := by decide +kernel
theorem dX6_board_37 : decode cX6_board 37 = .ok (.aload_n 0, 1) := by decide +kernel
theorem dX6_board_38 : decode cX6_board 38 = .ok (.iload 6, 2) := by decide +kernel
theorem dX6_board_40 : decode cX6_board 40 = .ok (.invokestatic 174, 3) := by decide +kernel
theorem dX6_board_43 : decode cX6_board 43 = .ok (.invokevirtual 192, 3) := by decide +kernel
theorem dX6_board_46 : decode cX6_board 46 = .ok (.invokevirtual 229, 3) := by decide +kernel
theorem dX6_board_49 : decode cX6_board 49 = .ok (.istore 7, 2) := by decide +kernel
theorem dX6_board_51 : decode cX6_board 51 = .ok (.iload_n 1, 1) := by decide +kernel
theorem dX6_board_52 : decode cX6_board 52 = .ok (.iload 7, 2) := by decide +kernel
theorem dX6_board_54 : decode cX6_board 54 = .ok (.bipush 31, 2) := by decide +kernel
theorem dX6_board_56 : decode cX6_board 56 = .ok (.iand, 1) := by decide +kernel
theorem dX6_board_57 : decode cX6_board 57 = .ok (.ixor, 1) := by decide +kernel
theorem dX6_board_58 : decode cX6_board 58 = .ok (.istore_n 1, 1) := by decide +kernel
theorem dX6_board_59 : decode cX6_board 59 = .ok (.iload_n 2, 1) := by decide +kernel
theorem dX6_board_60 : decode cX6_board 60 = .ok (.iload 7, 2) := by decide +kernel
theorem dX6_board_62 : decode cX6_board 62 = .ok (.iconst 5, 1) := by decide +kernel
theorem dX6_board_63 : decode cX6_board 63 = .ok (.ishr, 1) := by decide +kernel
theorem dX6_board_64 : decode cX6_board 64 = .ok (.bipush 31, 2) := by decide +kernel
theorem dX6_board_66 : decode cX6_board 66 = .ok (.iand, 1) := by decide +kernel
theorem dX6_board_67 : decode cX6_board 67 = .ok (.iadd, 1) := by decide +kernel
theorem dX6_board_68 : decode cX6_board 68 = .ok (.istore_n 2, 1) := by decide +kernel
theorem dX6_board_69 : decode cX6_board 69 = .ok (.iload_n 3, 1) := by decide +kernel
theorem dX6_board_70 : decode cX6_board 70 = .ok (.iload 7, 2) := by decide +kernel
theorem dX6_board_72 : decode cX6_board 72 = .ok (.bipush 10, 2) := by decide +kernel
theorem dX6_board_74 : decode cX6_board 74 = .ok (.ishr, 1) := by decide +kernel
theorem dX6_board_75 : decode cX6_board 75 = .ok (.iadd, 1) := by decide +kernel
theorem dX6_board_76 : decode cX6_board 76 = .ok (.istore_n 3, 1) := by decide +kernel
theorem dX6_board_77 : decode cX6_board 77 = .ok (.iload 5, 2) := by decide +kernel
theorem dX6_board_79 : decode cX6_board 79 = .ok (.iload 6, 2) := by decide +kernel
theorem dX6_board_81 : decode cX6_board 81 = .ok (.iconst (-1), 1) := by decide +kernel
theorem dX6_board_82 : decode cX6_board 82 = .ok (.ixor, 1) := by decide +kernel
theorem dX6_board_83 : decode cX6_board 83 = .ok (.iand, 1) := by decide +kernel
theorem dX6_board_84 : decode cX6_board 84 = .ok (.istore 5, 2) := by decide +kernel
theorem dX6_board_86 : decode cX6_board 86 = .ok (.goto (-70), 3) := by decide +kernel
theorem dX6_board_89 : decode cX6_board 89 = .ok (.iload_n 1, 1) := by decide +kernel
theorem dX6_board_90 : decode cX6_board 90 = .ok (.iload_n 2, 1) := by decide +kernel
theorem dX6_board_91 : decode cX6_board 91 = .ok (.iconst 5, 1) := by decide +kernel
theorem dX6_board_92 : decode cX6_board 92 = .ok (.ishl, 1) := by decide +kernel
theorem dX6_board_93 : decode cX6_board 93 = .ok (.ior, 1) := by decide +kernel
theorem dX6_board_94 : decode cX6_board 94 = .ok (.iload_n 3, 1) := by decide +kernel
theorem dX6_board_95 : decode cX6_board 95 = .ok (.bipush 10, 2) := by decide +kernel
theorem dX6_board_97 : decode cX6_board 97 = .ok (.ishl, 1) := by decide +kernel
theorem dX6_board_98 : decode cX6_board 98 = .ok (.ior, 1) := by decide +kernel
theorem dX6_board_99 : decode cX6_board 99 = .ok (.ireturn, 1) := by decide +kernel
theorem dX6_valueNow_0 : decode cX6_valueNow 0 = .ok (.aload_n 0, 1) := by decide +kernel
theorem dX6_valueNow_1 : decode cX6_valueNow 1 = .ok (.invokevirtual 238, 3) := by decide +kernel
theorem dX6_valueNow_4 : decode cX6_valueNow 4 = .ok (.bipush 31, 2) := by decide +kernel
theorem dX6_valueNow_6 : decode cX6_valueNow 6 = .ok (.iand, 1) := by decide +kernel
theorem dX6_valueNow_7 : decode cX6_valueNow 7 = .ok (.aload_n 0, 1) := by decide +kernel
theorem dX6_valueNow_8 : decode cX6_valueNow 8 = .ok (.getfield 7, 3) := by decide +kernel
theorem dX6_valueNow_11 : decode cX6_valueNow 11 = .ok (.iconst 2, 1) := by decide +kernel
theorem dX6_valueNow_12 : decode cX6_valueNow 12 = .ok (.iaload, 1) := by decide +kernel
theorem dX6_valueNow_13 : decode cX6_valueNow 13 = .ok (.iconst 2, 1) := by decide +kernel
theorem dX6_valueNow_14 : decode cX6_valueNow 14 = .ok (.irem, 1) := by decide +kernel
theorem dX6_valueNow_15 : decode cX6_valueNow 15 = .ok (.ixor, 1) := by decide +kernel
theorem dX6_valueNow_16 : decode cX6_valueNow 16 = .ok (.ireturn, 1) := by decide +kernel
theorem dX6_boardIf_0 : decode cX6_boardIf 0 = .ok (.aload_n 0, 1) := by decide +kernel
theorem dX6_boardIf_1 : decode cX6_boardIf 1 = .ok (.iload_n 1, 1) := by decide +kernel
theorem dX6_boardIf_2 : decode cX6_boardIf 2 = .ok (.aload_n 0, 1) := by decide +kernel
theorem dX6_boardIf_3 : decode cX6_boardIf 3 = .ok (.invokevirtual 180, 3) := by decide +kernel
theorem dX6_boardIf_6 : decode cX6_boardIf 6 = .ok (.invokevirtual 177, 3) := by decide +kernel
theorem dX6_boardIf_9 : decode cX6_boardIf 9 = .ok (.istore_n 3, 1) := by decide +kernel
theorem dX6_boardIf_10 : decode cX6_boardIf 10 = .ok (.iconst 0, 1) := by decide +kernel
theorem dX6_boardIf_11 : decode cX6_boardIf 11 = .ok (.istore 4, 2) := by decide +kernel
theorem dX6_boardIf_13 : decode cX6_boardIf 13 = .ok (.iload 4, 2) := by decide +kernel
theorem dX6_boardIf_15 : decode cX6_boardIf 15 = .ok (.bipush 9, 2) := by decide +kernel
theorem dX6_boardIf_17 : decode cX6_boardIf 17 = .ok (.if_icmp .ge 26, 3) := by decide +kernel
