theorem dX4_ofPartsIn_55 : decode cX4_ofPartsIn 55 = .ok (.iinc 4 1, 3) := by decide +kernel
theorem dX4_ofPartsIn_58 : decode cX4_ofPartsIn 58 = .ok (.goto (-51), 3) := by decide +kernel
theorem dX4_ofPartsIn_61 : decode cX4_ofPartsIn 61 = .ok (.iload_n 2, 1) := by decide +kernel
theorem dX4_ofPartsIn_62 : decode cX4_ofPartsIn 62 = .ok (.ireturn, 1) := by decide +kernel
theorem dX4_behindLay_0 : decode cX4_behindLay 0 = .ok (.aload_n 0, 1) := by decide +kernel
theorem dX4_behindLay_1 : decode cX4_behindLay 1 = .ok (.getfield 14, 3) := by decide +kernel
theorem dX4_behindLay_4 : decode cX4_behindLay 4 = .ok (.iload_n 1, 1) := by decide +kernel
theorem dX4_behindLay_5 : decode cX4_behindLay 5 = .ok (.invokevirtual 42, 3) := by decide +kernel
theorem dX4_behindLay_8 : decode cX4_behindLay 8 = .ok (.istore_n 3, 1) := by decide +kernel
theorem dX4_behindLay_9 : decode cX4_behindLay 9 = .ok (.aload_n 0, 1) := by decide +kernel
theorem dX4_behindLay_10 : decode cX4_behindLay 10 = .ok (.aload_n 0, 1) := by decide +kernel
theorem dX4_behindLay_11 : decode cX4_behindLay 11 = .ok (.iload_n 3, 1) := by decide +kernel
theorem dX4_behindLay_12 : decode cX4_behindLay 12 = .ok (.invokevirtual 31, 3) := by decide +kernel
theorem dX4_behindLay_15 : decode cX4_behindLay 15 = .ok (.iload_n 1, 1) := by decide +kernel
theorem dX4_behindLay_16 : decode cX4_behindLay 16 = .ok (.iload_n 2, 1) := by decide +kernel
theorem dX4_behindLay_17 : decode cX4_behindLay 17 = .ok (.invokevirtual 46, 3) := by decide +kernel
theorem dX4_behindLay_20 : decode cX4_behindLay 20 = .ok (.lstore 4, 2) := by decide +kernel
theorem dX4_behindLay_22 : decode cX4_behindLay 22 = .ok (.aload_n 0, 1) := by decide +kernel
theorem dX4_behindLay_23 : decode cX4_behindLay 23 = .ok (.aload_n 0, 1) := by decide +kernel
theorem dX4_behindLay_24 : decode cX4_behindLay 24 = .ok (.getfield 14, 3) := by decide +kernel
theorem dX4_behindLay_27 : decode cX4_behindLay 27 = .ok (.getfield 50, 3) := by decide +kernel
theorem dX4_behindLay_30 : decode cX4_behindLay 30 = .ok (.iload_n 3, 1) := by decide +kernel
theorem dX4_behindLay_31 : decode cX4_behindLay 31 = .ok (.iconst (-1), 1) := by decide +kernel
theorem dX4_behindLay_32 : decode cX4_behindLay 32 = .ok (.ixor, 1) := by decide +kernel
theorem dX4_behindLay_33 : decode cX4_behindLay 33 = .ok (.iand, 1) := by decide +kernel
theorem dX4_behindLay_34 : decode cX4_behindLay 34 = .ok (.invokevirtual 54, 3) := by decide +kernel
theorem dX4_behindLay_37 : decode cX4_behindLay 37 = .ok (.aload_n 0, 1) := by decide +kernel
theorem dX4_behindLay_38 : decode cX4_behindLay 38 = .ok (.lload 4, 2) := by decide +kernel
theorem dX4_behindLay_40 : decode cX4_behindLay 40 = .ok (.iconst 0, 1) := by decide +kernel
theorem dX4_behindLay_41 : decode cX4_behindLay 41 = .ok (.invokevirtual 57, 3) := by decide +kernel
theorem dX4_behindLay_44 : decode cX4_behindLay 44 = .ok (.invokestatic 39, 3) := by decide +kernel
theorem dX4_behindLay_47 : decode cX4_behindLay 47 = .ok (.ireturn, 1) := by decide +kernel
theorem dX4_without_0 : decode cX4_without 0 = .ok (.aload_n 0, 1) := by decide +kernel
theorem dX4_without_1 : decode cX4_without 1 = .ok (.getfield 14, 3) := by decide +kernel
theorem dX4_without_4 : decode cX4_without 4 = .ok (.iload_n 1, 1) := by decide +kernel
theorem dX4_without_5 : decode cX4_without 5 = .ok (.invokevirtual 42, 3) := by decide +kernel
theorem dX4_without_8 : decode cX4_without 8 = .ok (.istore_n 2, 1) := by decide +kernel
theorem dX4_without_9 : decode cX4_without 9 = .ok (.aload_n 0, 1) := by decide +kernel
theorem dX4_without_10 : decode cX4_without 10 = .ok (.iload_n 2, 1) := by decide +kernel
theorem dX4_without_11 : decode cX4_without 11 = .ok (.invokevirtual 31, 3) := by decide +kernel
theorem dX4_without_14 : decode cX4_without 14 = .ok (.ldc2_w 60, 3) := by decide +kernel
theorem dX4_without_17 : decode cX4_without 17 = .ok (.iload_n 1, 1) := by decide +kernel
theorem dX4_without_18 : decode cX4_without 18 = .ok (.lshl, 1) := by decide +kernel
theorem dX4_without_19 : decode cX4_without 19 = .ok (.ldc2_w 62, 3) := by decide +kernel
theorem dX4_without_22 : decode cX4_without 22 = .ok (.lxor, 1) := by decide +kernel
theorem dX4_without_23 : decode cX4_without 23 = .ok (.land, 1) := by decide +kernel
theorem dX4_without_24 : decode cX4_without 24 = .ok (.lstore_n 3, 1) := by decide +kernel
theorem dX4_without_25 : decode cX4_without 25 = .ok (.aload_n 0, 1) := by decide +kernel
theorem dX4_without_26 : decode cX4_without 26 = .ok (.aload_n 0, 1) := by decide +kernel
theorem dX4_without_27 : decode cX4_without 27 = .ok (.getfield 14, 3) := by decide +kernel
theorem dX4_without_30 : decode cX4_without 30 = .ok (.getfield 50, 3) := by decide +kernel
theorem dX4_without_33 : decode cX4_without 33 = .ok (.iload_n 2, 1) := by decide +kernel
theorem dX4_without_34 : decode cX4_without 34 = .ok (.iconst (-1), 1) := by decide +kernel
theorem dX4_without_35 : decode cX4_without 35 = .ok (.ixor, 1) := by decide +kernel
theorem dX4_without_36 : decode cX4_without 36 = .ok (.iand, 1) := by decide +kernel
theorem dX4_without_37 : decode cX4_without 37 = .ok (.invokevirtual 54, 3) := by decide +kernel
theorem dX4_without_40 : decode cX4_without 40 = .ok (.aload_n 0, 1) := by decide +kernel
theorem dX4_without_41 : decode cX4_without 41 = .ok (.lload_n 3, 1) := by decide +kernel
theorem dX4_without_42 : decode cX4_without 42 = .ok (.iconst 0, 1) := by decide +kernel
theorem dX4_without_43 : decode cX4_without 43 = .ok (.invokevirtual 57, 3) := by decide +kernel
theorem dX4_without_46 : decode cX4_without 46 = .ok (.invokestatic 39, 3) := by decide +kernel
theorem dX4_without_49 : decode cX4_without 49 = .ok (.ireturn, 1) := by decide +kernel
theorem dX4_placeOf_0 : decode cX4_placeOf 0 = .ok (.aload_n 0, 1) := by decide +kernel
theorem dX4_placeOf_1 : decode cX4_placeOf 1 = .ok (.getfield 14, 3) := by decide +kernel
theorem dX4_placeOf_4 : decode cX4_placeOf 4 = .ok (.getfield 64, 3) := by decide +kernel
theorem dX4_placeOf_7 : decode cX4_placeOf 7 = .ok (.i2l, 1) := by decide +kernel
theorem dX4_placeOf_8 : decode cX4_placeOf 8 = .ok (.bipush 38, 2) := by decide +kernel
theorem dX4_placeOf_10 : decode cX4_placeOf 10 = .ok (.lshl, 1) := by decide +kernel
theorem dX4_placeOf_11 : decode cX4_placeOf 11 = .ok (.aload_n 0, 1) := by decide +kernel
theorem dX4_placeOf_12 : decode cX4_placeOf 12 = .ok (.getfield 14, 3) := by decide +kernel
theorem dX4_placeOf_15 : decode cX4_placeOf 15 = .ok (.iload_n 1, 1) := by decide +kernel
theorem dX4_placeOf_16 : decode cX4_placeOf 16 = .ok (.invokevirtual 67, 3) := by decide +kernel
theorem dX4_placeOf_19 : decode cX4_placeOf 19 = .ok (.iconst 1, 1) := by decide +kernel
theorem dX4_placeOf_20 : decode cX4_placeOf 20 = .ok (.iadd, 1) := by decide +kernel
theorem dX4_placeOf_21 : decode cX4_placeOf 21 = .ok (.i2l, 1) := by decide +kernel
theorem dX4_placeOf_22 : decode cX4_placeOf 22 = .ok (.bipush 36, 2) := by decide +kernel
theorem dX4_placeOf_24 : decode cX4_placeOf 24 = .ok (.lshl, 1) := by decide +kernel
theorem dX4_placeOf_25 : decode cX4_placeOf 25 = .ok (.lor, 1) := by decide +kernel
theorem dX4_placeOf_26 : decode cX4_placeOf 26 = .ok (.iload_n 1, 1) := by decide +kernel
theorem dX4_placeOf_27 : decode cX4_placeOf 27 = .ok (.i2l, 1) := by decide +kernel
theorem dX4_placeOf_28 : decode cX4_placeOf 28 = .ok (.lor, 1) := by decide +kernel
theorem dX4_placeOf_29 : decode cX4_placeOf 29 = .ok (.lstore_n 2, 1) := by decide +kernel
theorem dX4_placeOf_30 : decode cX4_placeOf 30 = .ok (.iconst 0, 1) := by decide +kernel
theorem dX4_placeOf_31 : decode cX4_placeOf 31 = .ok (.istore 4, 2) := by decide +kernel
theorem dX4_placeOf_33 : decode cX4_placeOf 33 = .ok (.iload 4, 2) := by decide +kernel
theorem dX4_placeOf_35 : decode cX4_placeOf 35 = .ok (.iconst 3, 1) := by decide +kernel
theorem dX4_placeOf_36 : decode cX4_placeOf 36 = .ok (.if_icmp .ge 30, 3) := by decide +kernel
theorem dX4_placeOf_39 : decode cX4_placeOf 39 = .ok (.lload_n 2, 1) := by decide +kernel
theorem dX4_placeOf_40 : decode cX4_placeOf 40 = .ok (.aload_n 0, 1) := by decide +kernel
theorem dX4_placeOf_41 : decode cX4_placeOf 41 = .ok (.getfield 14, 3) := by decide +kernel
theorem dX4_placeOf_44 : decode cX4_placeOf 44 = .ok (.iload 4, 2) := by decide +kernel
theorem dX4_placeOf_46 : decode cX4_placeOf 46 = .ok (.invokevirtual 70, 3) := by decide +kernel
theorem dX4_placeOf_49 : decode cX4_placeOf 49 = .ok (.iload_n 1, 1) := by decide +kernel
theorem dX4_placeOf_50 : decode cX4_placeOf 50 = .ok (.iand, 1) := by decide +kernel
theorem dX4_placeOf_51 : decode cX4_placeOf 51 = .ok (.i2l, 1) := by decide +kernel
theorem dX4_placeOf_52 : decode cX4_placeOf 52 = .ok (.iload 4, 2) := by decide +kernel
theorem dX4_placeOf_54 : decode cX4_placeOf 54 = .ok (.invokestatic 73, 3) := by decide +kernel
theorem dX4_placeOf_57 : decode cX4_placeOf 57 = .ok (.lshl, 1) := by decide +kernel
theorem dX4_placeOf_58 : decode cX4_placeOf 58 = .ok (.lor, 1) := by decide +kernel
theorem dX4_placeOf_59 : decode cX4_placeOf 59 = .ok (.lstore_n 2, 1) := by decide +kernel
theorem dX4_placeOf_60 : decode cX4_placeOf 60 = .ok (.iinc 4 1, 3) := by decide +kernel
theorem dX4_placeOf_63 : decode cX4_placeOf 63 = .ok (.goto (-30), 3) := by decide +kernel
theorem dX4_placeOf_66 : decode cX4_placeOf 66 = .ok (.lload_n 2, 1) := by decide +kernel
theorem dX4_placeOf_67 : decode cX4_placeOf 67 = .ok (.lreturn, 1) := by decide +kernel
theorem dX4_setShift_0 : decode cX4_setShift 0 = .ok (.bipush 9, 2) := by decide +kernel
theorem dX4_setShift_2 : decode cX4_setShift 2 = .ok (.iload_n 0, 1) := by decide +kernel
theorem dX4_setShift_3 : decode cX4_setShift 3 = .ok (.iconst 1, 1) := by decide +kernel
theorem dX4_setShift_4 : decode cX4_setShift 4 = .ok (.iadd, 1) := by decide +kernel
theorem dX4_setShift_5 : decode cX4_setShift 5 = .ok (.imul, 1) := by decide +kernel
theorem dX4_setShift_6 : decode cX4_setShift 6 = .ok (.ireturn, 1) := by decide +kernel
theorem dX4_behind_0 : decode cX4_behind 0 = .ok (.aload_n 0, 1) := by decide +kernel
theorem dX4_behind_1 : decode cX4_behind 1 = .ok (.getfield 14, 3) := by decide +kernel
theorem dX4_behind_4 : decode cX4_behind 4 = .ok (.iload_n 3, 1) := by decide +kernel
theorem dX4_behind_5 : decode cX4_behind 5 = .ok (.invokevirtual 76, 3) := by decide +kernel
theorem dX4_behind_8 : decode cX4_behind 8 = .ok (.i2l, 1) := by decide +kernel
theorem dX4_behind_9 : decode cX4_behind 9 = .ok (.iload 4, 2) := by decide +kernel
theorem dX4_behind_11 : decode cX4_behind 11 = .ok (.invokestatic 73, 3) := by decide +kernel
theorem dX4_behind_14 : decode cX4_behind 14 = .ok (.lshl, 1) := by decide +kernel
theorem dX4_behind_15 : decode cX4_behind 15 = .ok (.lstore 5, 2) := by decide +kernel
theorem dX4_behind_17 : decode cX4_behind 17 = .ok (.lload_n 1, 1) := by decide +kernel
theorem dX4_behind_18 : decode cX4_behind 18 = .ok (.ldc2_w 60, 3) := by decide +kernel
theorem dX4_behind_21 : decode cX4_behind 21 = .ok (.iload_n 3, 1) := by decide +kernel
theorem dX4_behind_22 : decode cX4_behind 22 = .ok (.lshl, 1) := by decide +kernel
theorem dX4_behind_23 : decode cX4_behind 23 = .ok (.lload 5, 2) := by decide +kernel
theorem dX4_behind_25 : decode cX4_behind 25 = .ok (.lor, 1) := by decide +kernel
theorem dX4_behind_26 : decode cX4_behind 26 = .ok (.ldc2_w 79, 3) := by decide +kernel
theorem dX4_behind_29 : decode cX4_behind 29 = .ok (.lor, 1) := by decide +kernel
theorem dX4_behind_30 : decode cX4_behind 30 = .ok (.ldc2_w 62, 3) := by decide +kernel
theorem dX4_behind_33 : decode cX4_behind 33 = .ok (.lxor, 1) := by decide +kernel
theorem dX4_behind_34 : decode cX4_behind 34 = .ok (.land, 1) := by decide +kernel
theorem dX4_behind_35 : decode cX4_behind 35 = .ok (.iload 4, 2) := by decide +kernel
theorem dX4_behind_37 : decode cX4_behind 37 = .ok (.iconst 1, 1) := by decide +kernel
theorem dX4_behind_38 : decode cX4_behind 38 = .ok (.iadd, 1) := by decide +kernel
theorem dX4_behind_39 : decode cX4_behind 39 = .ok (.i2l, 1) := by decide +kernel
theorem dX4_behind_40 : decode cX4_behind 40 = .ok (.bipush 36, 2) := by decide +kernel
theorem dX4_behind_42 : decode cX4_behind 42 = .ok (.lshl, 1) := by decide +kernel
theorem dX4_behind_43 : decode cX4_behind 43 = .ok (.lor, 1) := by decide +kernel
theorem dX4_behind_44 : decode cX4_behind 44 = .ok (.lreturn, 1) := by decide +kernel
theorem dX4_ofPieces_0 : decode cX4_ofPieces 0 = .ok (.lload_n 1, 1) := by decide +kernel
theorem dX4_ofPieces_1 : decode cX4_ofPieces 1 = .ok (.ldc2_w 81, 3) := by decide +kernel
theorem dX4_ofPieces_4 : decode cX4_ofPieces 4 = .ok (.land, 1) := by decide +kernel
theorem dX4_ofPieces_5 : decode cX4_ofPieces 5 = .ok (.lstore 4, 2) := by decide +kernel
theorem dX4_ofPieces_7 : decode cX4_ofPieces 7 = .ok (.lload_n 1, 1) := by decide +kernel
theorem dX4_ofPieces_8 : decode cX4_ofPieces 8 = .ok (.l2i, 1) := by decide +kernel
theorem dX4_ofPieces_9 : decode cX4_ofPieces 9 = .ok (.sipush 511, 3) := by decide +kernel
theorem dX4_ofPieces_12 : decode cX4_ofPieces 12 = .ok (.iand, 1) := by decide +kernel
theorem dX4_ofPieces_13 : decode cX4_ofPieces 13 = .ok (.istore 6, 2) := by decide +kernel
theorem dX4_ofPieces_15 : decode cX4_ofPieces 15 = .ok (.iconst 0, 1) := by decide +kernel
theorem dX4_ofPieces_16 : decode cX4_ofPieces 16 = .ok (.istore 7, 2) := by decide +kernel
theorem dX4_ofPieces_18 : decode cX4_ofPieces 18 = .ok (.iconst 0, 1) := by decide +kernel
theorem dX4_ofPieces_19 : decode cX4_ofPieces 19 = .ok (.istore 8, 2) := by decide +kernel
theorem dX4_ofPieces_21 : decode cX4_ofPieces 21 = .ok (.iload 8, 2) := by decide +kernel
theorem dX4_ofPieces_23 : decode cX4_ofPieces 23 = .ok (.bipush 9, 2) := by decide +kernel
theorem dX4_ofPieces_25 : decode cX4_ofPieces 25 = .ok (.if_icmp .ge 64, 3) := by decide +kernel
theorem dX4_ofPieces_28 : decode cX4_ofPieces 28 = .ok (.iload 6, 2) := by decide +kernel
theorem dX4_ofPieces_30 : decode cX4_ofPieces 30 = .ok (.ifCond .eq 59, 3) := by decide +kernel
theorem dX4_ofPieces_33 : decode cX4_ofPieces 33 = .ok (.aload_n 0, 1) := by decide +kernel
theorem dX4_ofPieces_34 : decode cX4_ofPieces 34 = .ok (.getfield 14, 3) := by decide +kernel
theorem dX4_ofPieces_37 : decode cX4_ofPieces 37 = .ok (.iload 6, 2) := by decide +kernel
theorem dX4_ofPieces_39 : decode cX4_ofPieces 39 = .ok (.iload 6, 2) := by decide +kernel
theorem dX4_ofPieces_41 : decode cX4_ofPieces 41 = .ok (.ineg, 1) := by decide +kernel
theorem dX4_ofPieces_42 : decode cX4_ofPieces 42 = .ok (.iand, 1) := by decide +kernel
theorem dX4_ofPieces_43 : decode cX4_ofPieces 43 = .ok (.iload 6, 2) := by decide +kernel
theorem dX4_ofPieces_45 : decode cX4_ofPieces 45 = .ok (.invokevirtual 27, 3) := by decide +kernel
theorem dX4_ofPieces_48 : decode cX4_ofPieces 48 = .ok (.istore 9, 2) := by decide +kernel
theorem dX4_ofPieces_50 : decode cX4_ofPieces 50 = .ok (.iload 7, 2) := by decide +kernel
theorem dX4_ofPieces_52 : decode cX4_ofPieces 52 = .ok (.aload_n 0, 1) := by decide +kernel
theorem dX4_ofPieces_53 : decode cX4_ofPieces 53 = .ok (.lload 4, 2) := by decide +kernel
theorem dX4_ofPieces_55 : decode cX4_ofPieces 55 = .ok (.lload_n 1, 1) := by decide +kernel
theorem dX4_ofPieces_56 : decode cX4_ofPieces 56 = .ok (.ldc2_w 60, 3) := by decide +kernel
theorem dX4_ofPieces_59 : decode cX4_ofPieces 59 = .ok (.iload 9, 2) := by decide +kernel
theorem dX4_ofPieces_61 : decode cX4_ofPieces 61 = .ok (.i2l, 1) := by decide +kernel
theorem dX4_ofPieces_62 : decode cX4_ofPieces 62 = .ok (.lmul, 1) := by decide +kernel
theorem dX4_ofPieces_63 : decode cX4_ofPieces 63 = .ok (.land, 1) := by decide +kernel
theorem dX4_ofPieces_64 : decode cX4_ofPieces 64 = .ok (.lor, 1) := by decide +kernel
theorem dX4_ofPieces_65 : decode cX4_ofPieces 65 = .ok (.iload_n 3, 1) := by decide +kernel
theorem dX4_ofPieces_66 : decode cX4_ofPieces 66 = .ok (.invokevirtual 35, 3) := by decide +kernel
theorem dX4_ofPieces_69 : decode cX4_ofPieces 69 = .ok (.invokestatic 39, 3) := by decide +kernel
theorem dX4_ofPieces_72 : decode cX4_ofPieces 72 = .ok (.istore 7, 2) := by decide +kernel
theorem dX4_ofPieces_74 : decode cX4_ofPieces 74 = .ok (.iload 6, 2) := by decide +kernel
theorem dX4_ofPieces_76 : decode cX4_ofPieces 76 = .ok (.iload 9, 2) := by decide +kernel
theorem dX4_ofPieces_78 : decode cX4_ofPieces 78 = .ok (.iconst (-1), 1) := by decide +kernel
theorem dX4_ofPieces_79 : decode cX4_ofPieces 79 = .ok (.ixor, 1) := by decide +kernel
theorem dX4_ofPieces_80 : decode cX4_ofPieces 80 = .ok (.iand, 1) := by decide +kernel
theorem dX4_ofPieces_81 : decode cX4_ofPieces 81 = .ok (.istore 6, 2) := by decide +kernel
theorem dX4_ofPieces_83 : decode cX4_ofPieces 83 = .ok (.iinc 8 1, 3) := by decide +kernel
theorem dX4_ofPieces_86 : decode cX4_ofPieces 86 = .ok (.goto (-65), 3) := by decide +kernel
theorem dX4_ofPieces_89 : decode cX4_ofPieces 89 = .ok (.iload 7, 2) := by decide +kernel
theorem dX4_ofPieces_91 : decode cX4_ofPieces 91 = .ok (.ireturn, 1) := by decide +kernel
theorem dX4_ofPlace_0 : decode cX4_ofPlace 0 = .ok (.lload_n 1, 1) := by decide +kernel
theorem dX4_ofPlace_1 : decode cX4_ofPlace 1 = .ok (.ldc2_w 83, 3) := by decide +kernel
theorem dX4_ofPlace_4 : decode cX4_ofPlace 4 = .ok (.lmul, 1) := by decide +kernel
theorem dX4_ofPlace_5 : decode cX4_ofPlace 5 = .ok (.bipush 49, 2) := by decide +kernel
theorem dX4_ofPlace_7 : decode cX4_ofPlace 7 = .ok (.lushr, 1) := by decide +kernel
theorem dX4_ofPlace_8 : decode cX4_ofPlace 8 = .ok (.l2i, 1) := by decide +kernel
theorem dX4_ofPlace_9 : decode cX4_ofPlace 9 = .ok (.istore 4, 2) := by decide +kernel
theorem dX4_ofPlace_11 : decode cX4_ofPlace 11 = .ok (.iload 4, 2) := by decide +kernel
theorem dX4_ofPlace_13 : decode cX4_ofPlace 13 = .ok (.ifCond .lt 23, 3) := by decide +kernel
theorem dX4_ofPlace_16 : decode cX4_ofPlace 16 = .ok (.iload 4, 2) := by decide +kernel
theorem dX4_ofPlace_18 : decode cX4_ofPlace 18 = .ok (.aload_n 0, 1) := by decide +kernel
theorem dX4_ofPlace_19 : decode cX4_ofPlace 19 = .ok (.getfield 19, 3) := by decide +kernel
theorem dX4_ofPlace_22 : decode cX4_ofPlace 22 = .ok (.arraylength, 1) := by decide +kernel
theorem dX4_ofPlace_23 : decode cX4_ofPlace 23 = .ok (.if_icmp .ge 13, 3) := by decide +kernel
theorem dX4_ofPlace_26 : decode cX4_ofPlace 26 = .ok (.iload 4, 2) := by decide +kernel
theorem dX4_ofPlace_28 : decode cX4_ofPlace 28 = .ok (.aload_n 0, 1) := by decide +kernel
theorem dX4_ofPlace_29 : decode cX4_ofPlace 29 = .ok (.getfield 23, 3) := by decide +kernel
theorem dX4_ofPlace_32 : decode cX4_ofPlace 32 = .ok (.arraylength, 1) := by decide +kernel
theorem dX4_ofPlace_33 : decode cX4_ofPlace 33 = .ok (.if_icmp .lt 5, 3) := by decide +kernel
theorem dX4_ofPlace_36 : decode cX4_ofPlace 36 = .ok (.iconst 0, 1) := by decide +kernel
theorem dX4_ofPlace_37 : decode cX4_ofPlace 37 = .ok (.ireturn, 1) := by decide +kernel
theorem dX4_ofPlace_38 : decode cX4_ofPlace 38 = .ok (.aload_n 0, 1) := by decide +kernel
theorem dX4_ofPlace_39 : decode cX4_ofPlace 39 = .ok (.getfield 19, 3) := by decide +kernel
theorem dX4_ofPlace_42 : decode cX4_ofPlace 42 = .ok (.iload 4, 2) := by decide +kernel
theorem dX4_ofPlace_44 : decode cX4_ofPlace 44 = .ok (.laload, 1) := by decide +kernel
theorem dX4_ofPlace_45 : decode cX4_ofPlace 45 = .ok (.lload_n 1, 1) := by decide +kernel
theorem dX4_ofPlace_46 : decode cX4_ofPlace 46 = .ok (.lcmp, 1) := by decide +kernel
theorem dX4_ofPlace_47 : decode cX4_ofPlace 47 = .ok (.ifCond .eq 28, 3) := by decide +kernel
theorem dX4_ofPlace_50 : decode cX4_ofPlace 50 = .ok (.aload_n 0, 1) := by decide +kernel
theorem dX4_ofPlace_51 : decode cX4_ofPlace 51 = .ok (.lload_n 1, 1) := by decide +kernel
theorem dX4_ofPlace_52 : decode cX4_ofPlace 52 = .ok (.iload_n 3, 1) := by decide +kernel
theorem dX4_ofPlace_53 : decode cX4_ofPlace 53 = .ok (.invokevirtual 85, 3) := by decide +kernel
theorem dX4_ofPlace_56 : decode cX4_ofPlace 56 = .ok (.istore 5, 2) := by decide +kernel
theorem dX4_ofPlace_58 : decode cX4_ofPlace 58 = .ok (.aload_n 0, 1) := by decide +kernel
theorem dX4_ofPlace_59 : decode cX4_ofPlace 59 = .ok (.getfield 19, 3) := by decide +kernel
theorem dX4_ofPlace_62 : decode cX4_ofPlace 62 = .ok (.iload 4, 2) := by decide +kernel
theorem dX4_ofPlace_64 : decode cX4_ofPlace 64 = .ok (.lload_n 1, 1) := by decide +kernel
theorem dX4_ofPlace_65 : decode cX4_ofPlace 65 = .ok (.lastore, 1) := by decide +kernel
theorem dX4_ofPlace_66 : decode cX4_ofPlace 66 = .ok (.aload_n 0, 1) := by decide +kernel
theorem dX4_ofPlace_67 : decode cX4_ofPlace 67 = .ok (.getfield 23, 3) := by decide +kernel
theorem dX4_ofPlace_70 : decode cX4_ofPlace 70 = .ok (.iload 4, 2) := by decide +kernel
theorem dX4_ofPlace_72 : decode cX4_ofPlace 72 = .ok (.iload 5, 2) := by decide +kernel
theorem dX4_ofPlace_74 : decode cX4_ofPlace 74 = .ok (.iastore, 1) := by decide +kernel
theorem dX4_ofPlace_75 : decode cX4_ofPlace 75 = .ok (.aload_n 0, 1) := by decide +kernel
theorem dX4_ofPlace_76 : decode cX4_ofPlace 76 = .ok (.getfield 23, 3) := by decide +kernel
theorem dX4_ofPlace_79 : decode cX4_ofPlace 79 = .ok (.iload 4, 2) := by decide +kernel
theorem dX4_ofPlace_81 : decode cX4_ofPlace 81 = .ok (.iaload, 1) := by decide +kernel
theorem dX4_ofPlace_82 : decode cX4_ofPlace 82 = .ok (.ireturn, 1) := by decide +kernel
theorem dX4_workOut_0 : decode cX4_workOut 0 = .ok (.iload_n 3, 1) := by decide +kernel
theorem dX4_workOut_1 : decode cX4_workOut 1 = .ok (.bipush 9, 2) := by decide +kernel
theorem dX4_workOut_3 : decode cX4_workOut 3 = .ok (.if_icmp .le 5, 3) := by decide +kernel
theorem dX4_workOut_6 : decode cX4_workOut 6 = .ok (.iconst 0, 1) := by decide +kernel
theorem dX4_workOut_7 : decode cX4_workOut 7 = .ok (.ireturn, 1) := by decide +kernel
theorem dX4_workOut_8 : decode cX4_workOut 8 = .ok (.lload_n 1, 1) := by decide +kernel
theorem dX4_workOut_9 : decode cX4_workOut 9 = .ok (.l2i, 1) := by decide +kernel
theorem dX4_workOut_10 : decode cX4_workOut 10 = .ok (.sipush 511, 3) := by decide +kernel
theorem dX4_workOut_13 : decode cX4_workOut 13 = .ok (.iand, 1) := by decide +kernel
theorem dX4_workOut_14 : decode cX4_workOut 14 = .ok (.istore 4, 2) := by decide +kernel
theorem dX4_workOut_16 : decode cX4_workOut 16 = .ok (.iload 4, 2) := by decide +kernel
theorem dX4_workOut_18 : decode cX4_workOut 18 = .ok (.iload 4, 2) := by decide +kernel
theorem dX4_workOut_20 : decode cX4_workOut 20 = .ok (.iconst 1, 1) := by decide +kernel
theorem dX4_workOut_21 : decode cX4_workOut 21 = .ok (.isub, 1) := by decide +kernel
theorem dX4_workOut_22 : decode cX4_workOut 22 = .ok (.iand, 1) := by decide +kernel
theorem dX4_workOut_23 : decode cX4_workOut 23 = .ok (.ifCond .ne 7, 3) := by decide +kernel
theorem dX4_workOut_26 : decode cX4_workOut 26 = .ok (.iconst 1, 1) := by decide +kernel
theorem dX4_workOut_27 : decode cX4_workOut 27 = .ok (.goto 4, 3) := by decide +kernel
theorem dX4_workOut_30 : decode cX4_workOut 30 = .ok (.iconst 0, 1) := by decide +kernel
theorem dX4_workOut_31 : decode cX4_workOut 31 = .ok (.istore 5, 2) := by decide +kernel
theorem dX4_workOut_33 : decode cX4_workOut 33 = .ok (.lload_n 1, 1) := by decide +kernel
theorem dX4_workOut_34 : decode cX4_workOut 34 = .ok (.bipush 36, 2) := by decide +kernel
theorem dX4_workOut_36 : decode cX4_workOut 36 = .ok (.lushr, 1) := by decide +kernel
theorem dX4_workOut_37 : decode cX4_workOut 37 = .ok (.ldc2_w 88, 3) := by decide +kernel
theorem dX4_workOut_40 : decode cX4_workOut 40 = .ok (.land, 1) := by decide +kernel
theorem dX4_workOut_41 : decode cX4_workOut 41 = .ok (.l2i, 1) := by decide +kernel
theorem dX4_workOut_42 : decode cX4_workOut 42 = .ok (.iconst 1, 1) := by decide +kernel
theorem dX4_workOut_43 : decode cX4_workOut 43 = .ok (.isub, 1) := by decide +kernel
theorem dX4_workOut_44 : decode cX4_workOut 44 = .ok (.istore 6, 2) := by decide +kernel
theorem dX4_workOut_46 : decode cX4_workOut 46 = .ok (.iconst 0, 1) := by decide +kernel
theorem dX4_workOut_47 : decode cX4_workOut 47 = .ok (.istore 7, 2) := by decide +kernel
theorem dX4_workOut_49 : decode cX4_workOut 49 = .ok (.iconst 0, 1) := by decide +kernel
theorem dX4_workOut_50 : decode cX4_workOut 50 = .ok (.istore 8, 2) := by decide +kernel
theorem dX4_workOut_52 : decode cX4_workOut 52 = .ok (.bipush 10, 2) := by decide +kernel
theorem dX4_workOut_54 : decode cX4_workOut 54 = .ok (.istore 9, 2) := by decide +kernel
theorem dX4_workOut_56 : decode cX4_workOut 56 = .ok (.iconst 0, 1) := by decide +kernel
theorem dX4_workOut_57 : decode cX4_workOut 57 = .ok (.istore 10, 2) := by decide +kernel
theorem dX4_workOut_59 : decode cX4_workOut 59 = .ok (.iload 10, 2) := by decide +kernel
theorem dX4_workOut_61 : decode cX4_workOut 61 = .ok (.iconst 3, 1) := by decide +kernel
theorem dX4_workOut_62 : decode cX4_workOut 62 = .ok (.if_icmp .ge 123, 3) := by decide +kernel
theorem dX4_workOut_65 : decode cX4_workOut 65 = .ok (.iload 10, 2) := by decide +kernel
theorem dX4_workOut_67 : decode cX4_workOut 67 = .ok (.iload 6, 2) := by decide +kernel
theorem dX4_workOut_69 : decode cX4_workOut 69 = .ok (.if_icmp .ne 12, 3) := by decide +kernel
theorem dX4_workOut_72 : decode cX4_workOut 72 = .ok (.iload 5, 2) := by decide +kernel
theorem dX4_workOut_74 : decode cX4_workOut 74 = .ok (.ifCond .ne 7, 3) := by decide +kernel
theorem dX4_workOut_77 : decode cX4_workOut 77 = .ok (.iconst 0, 1) := by decide +kernel
theorem dX4_workOut_78 : decode cX4_workOut 78 = .ok (.goto 15, 3) := by decide +kernel
theorem dX4_workOut_81 : decode cX4_workOut 81 = .ok (.lload_n 1, 1) := by decide +kernel
theorem dX4_workOut_82 : decode cX4_workOut 82 = .ok (.iload 10, 2) := by decide +kernel
theorem dX4_workOut_84 : decode cX4_workOut 84 = .ok (.invokestatic 73, 3) := by decide +kernel
theorem dX4_workOut_87 : decode cX4_workOut 87 = .ok (.lushr, 1) := by decide +kernel
theorem dX4_workOut_88 : decode cX4_workOut 88 = .ok (.l2i, 1) := by decide +kernel
theorem dX4_workOut_89 : decode cX4_workOut 89 = .ok (.sipush 511, 3) := by decide +kernel
theorem dX4_workOut_92 : decode cX4_workOut 92 = .ok (.iand, 1) := by decide +kernel
theorem dX4_workOut_93 : decode cX4_workOut 93 = .ok (.istore 11, 2) := by decide +kernel
theorem dX4_workOut_95 : decode cX4_workOut 95 = .ok (.iconst 0, 1) := by decide +kernel
theorem dX4_workOut_96 : decode cX4_workOut 96 = .ok (.istore 12, 2) := by decide +kernel
theorem dX4_workOut_98 : decode cX4_workOut 98 = .ok (.iload 12, 2) := by decide +kernel
theorem dX4_workOut_100 : decode cX4_workOut 100 = .ok (.bipush 9, 2) := by decide +kernel
theorem dX4_workOut_102 : decode cX4_workOut 102 = .ok (.if_icmp .ge 77, 3) := by decide +kernel
theorem dX4_workOut_105 : decode cX4_workOut 105 = .ok (.iload 11, 2) := by decide +kernel
theorem dX4_workOut_107 : decode cX4_workOut 107 = .ok (.iload 12, 2) := by decide +kernel
theorem dX4_workOut_109 : decode cX4_workOut 109 = .ok (.invokestatic 90, 3) := by decide +kernel
theorem dX4_workOut_112 : decode cX4_workOut 112 = .ok (.ifCond .eq 61, 3) := by decide +kernel
theorem dX4_workOut_115 : decode cX4_workOut 115 = .ok (.aload_n 0, 1) := by decide +kernel
theorem dX4_workOut_116 : decode cX4_workOut 116 = .ok (.aload_n 0, 1) := by decide +kernel
theorem dX4_workOut_117 : decode cX4_workOut 117 = .ok (.lload_n 1, 1) := by decide +kernel
theorem dX4_workOut_118 : decode cX4_workOut 118 = .ok (.iload 12, 2) := by decide +kernel
theorem dX4_workOut_120 : decode cX4_workOut 120 = .ok (.iload 10, 2) := by decide +kernel
theorem dX4_workOut_122 : decode cX4_workOut 122 = .ok (.invokevirtual 46, 3) := by decide +kernel
theorem dX4_workOut_125 : decode cX4_workOut 125 = .ok (.iload_n 3, 1) := by decide +kernel
theorem dX4_workOut_126 : decode cX4_workOut 126 = .ok (.iconst 1, 1) := by decide +kernel
theorem dX4_workOut_127 : decode cX4_workOut 127 = .ok (.iadd, 1) := by decide +kernel
theorem dX4_workOut_128 : decode cX4_workOut 128 = .ok (.invokevirtual 57, 3) := by decide +kernel
theorem dX4_workOut_131 : decode cX4_workOut 131 = .ok (.istore 13, 2) := by decide +kernel
theorem dX4_workOut_133 : decode cX4_workOut 133 = .ok (.iload 7, 2) := by decide +kernel
theorem dX4_workOut_135 : decode cX4_workOut 135 = .ok (.iconst 1, 1) := by decide +kernel
theorem dX4_workOut_136 : decode cX4_workOut 136 = .ok (.iload 13, 2) := by decide +kernel
theorem dX4_workOut_138 : decode cX4_workOut 138 = .ok (.invokestatic 94, 3) := by decide +kernel
theorem dX4_workOut_141 : decode cX4_workOut 141 = .ok (.ishl, 1) := by decide +kernel
theorem dX4_workOut_142 : decode cX4_workOut 142 = .ok (.ior, 1) := by decide +kernel
theorem dX4_workOut_143 : decode cX4_workOut 143 = .ok (.istore 7, 2) := by decide +kernel
theorem dX4_workOut_145 : decode cX4_workOut 145 = .ok (.iload 8, 2) := by decide +kernel
theorem dX4_workOut_147 : decode cX4_workOut 147 = .ok (.iload 13, 2) := by decide +kernel
theorem dX4_workOut_149 : decode cX4_workOut 149 = .ok (.invokestatic 97, 3) := by decide +kernel
theorem dX4_workOut_152 : decode cX4_workOut 152 = .ok (.iconst 1, 1) := by decide +kernel
theorem dX4_workOut_153 : decode cX4_workOut 153 = .ok (.iadd, 1) := by decide +kernel
theorem dX4_workOut_154 : decode cX4_workOut 154 = .ok (.invokestatic 100, 3) := by decide +kernel
theorem dX4_workOut_157 : decode cX4_workOut 157 = .ok (.istore 8, 2) := by decide +kernel
theorem dX4_workOut_159 : decode cX4_workOut 159 = .ok (.iload 9, 2) := by decide +kernel
theorem dX4_workOut_161 : decode cX4_workOut 161 = .ok (.iload 13, 2) := by decide +kernel
theorem dX4_workOut_163 : decode cX4_workOut 163 = .ok (.invokestatic 105, 3) := by decide +kernel
theorem dX4_workOut_166 : decode cX4_workOut 166 = .ok (.iconst 1, 1) := by decide +kernel
theorem dX4_workOut_167 : decode cX4_workOut 167 = .ok (.iadd, 1) := by decide +kernel
theorem dX4_workOut_168 : decode cX4_workOut 168 = .ok (.invokestatic 108, 3) := by decide +kernel
theorem dX4_workOut_171 : decode cX4_workOut 171 = .ok (.istore 9, 2) := by decide +kernel
theorem dX4_workOut_173 : decode cX4_workOut 173 = .ok (.iinc 12 1, 3) := by decide +kernel
theorem dX4_workOut_176 : decode cX4_workOut 176 = .ok (.goto (-78), 3) := by decide +kernel
theorem dX4_workOut_179 : decode cX4_workOut 179 = .ok (.iinc 10 1, 3) := by decide +kernel
theorem dX4_workOut_182 : decode cX4_workOut 182 = .ok (.goto (-123), 3) := by decide +kernel
theorem dX4_workOut_185 : decode cX4_workOut 185 = .ok (.iload 7, 2) := by decide +kernel
theorem dX4_workOut_187 : decode cX4_workOut 187 = .ok (.ifCond .ne 7, 3) := by decide +kernel
theorem dX4_workOut_190 : decode cX4_workOut 190 = .ok (.iconst 0, 1) := by decide +kernel
theorem dX4_workOut_191 : decode cX4_workOut 191 = .ok (.goto 17, 3) := by decide +kernel
theorem dX4_workOut_194 : decode cX4_workOut 194 = .ok (.iload 7, 2) := by decide +kernel
theorem dX4_workOut_196 : decode cX4_workOut 196 = .ok (.iconst (-1), 1) := by decide +kernel
theorem dX4_workOut_197 : decode cX4_workOut 197 = .ok (.ixor, 1) := by decide +kernel
theorem dX4_workOut_198 : decode cX4_workOut 198 = .ok (.invokestatic 111, 3) := by decide +kernel
theorem dX4_workOut_201 : decode cX4_workOut 201 = .ok (.iload 8, 2) := by decide +kernel
theorem dX4_workOut_203 : decode cX4_workOut 203 = .ok (.iload 9, 2) := by decide +kernel
theorem dX4_workOut_205 : decode cX4_workOut 205 = .ok (.invokestatic 114, 3) := by decide +kernel
theorem dX4_workOut_208 : decode cX4_workOut 208 = .ok (.ireturn, 1) := by decide +kernel
theorem dX5_init_0 : decode cX5_init 0 = .ok (.aload_n 0, 1) := by decide +kernel
theorem dX5_init_1 : decode cX5_init 1 = .ok (.invokespecial 1, 3) := by decide +kernel
theorem dX5_init_4 : decode cX5_init 4 = .ok (.aload_n 0, 1) := by decide +kernel
theorem dX5_init_5 : decode cX5_init 5 = .ok (.new 7, 3) := by decide +kernel
theorem dX5_init_8 : decode cX5_init 8 = .ok (.dup, 1) := by decide +kernel
theorem dX5_init_9 : decode cX5_init 9 = .ok (.invokespecial 9, 3) := by decide +kernel
theorem dX5_init_12 : decode cX5_init 12 = .ok (.putfield 10, 3) := by decide +kernel
theorem dX5_init_15 : decode cX5_init 15 = .ok (.aload_n 0, 1) := by decide +kernel
theorem dX5_init_16 : decode cX5_init 16 = .ok (.aload_n 0, 1) := by decide +kernel
theorem dX5_init_17 : decode cX5_init 17 = .ok (.getfield 10, 3) := by decide +kernel
theorem dX5_init_20 : decode cX5_init 20 = .ok (.getfield 16, 3) := by decide +kernel
theorem dX5_init_23 : decode cX5_init 23 = .ok (.putfield 20, 3) := by decide +kernel
theorem dX5_init_26 : decode cX5_init 26 = .ok (.aload_n 0, 1) := by decide +kernel
theorem dX5_init_27 : decode cX5_init 27 = .ok (.new 21, 3) := by decide +kernel
theorem dX5_init_30 : decode cX5_init 30 = .ok (.dup, 1) := by decide +kernel
theorem dX5_init_31 : decode cX5_init 31 = .ok (.invokespecial 23, 3) := by decide +kernel
theorem dX5_init_34 : decode cX5_init 34 = .ok (.putfield 24, 3) := by decide +kernel
theorem dX5_init_37 : decode cX5_init 37 = .ok (.aload_n 0, 1) := by decide +kernel
theorem dX5_init_38 : decode cX5_init 38 = .ok (.new 28, 3) := by decide +kernel
theorem dX5_init_41 : decode cX5_init 41 = .ok (.dup, 1) := by decide +kernel
theorem dX5_init_42 : decode cX5_init 42 = .ok (.invokespecial 30, 3) := by decide +kernel
theorem dX5_init_45 : decode cX5_init 45 = .ok (.putfield 31, 3) := by decide +kernel
theorem dX5_init_48 : decode cX5_init 48 = .ok (.aload_n 0, 1) := by decide +kernel
theorem dX5_init_49 : decode cX5_init 49 = .ok (.iconst 2, 1) := by decide +kernel
theorem dX5_init_50 : decode cX5_init 50 = .ok (.anewarray 35, 3) := by decide +kernel
theorem dX5_init_53 : decode cX5_init 53 = .ok (.putfield 37, 3) := by decide +kernel
theorem dX5_init_56 : decode cX5_init 56 = .ok (.aload_n 0, 1) := by decide +kernel
theorem dX5_init_57 : decode cX5_init 57 = .ok (.bipush 13, 2) := by decide +kernel
theorem dX5_init_59 : decode cX5_init 59 = .ok (.newarray .byte, 2) := by decide +kernel
theorem dX5_init_61 : decode cX5_init 61 = .ok (.putfield 41, 3) := by decide +kernel
theorem dX5_init_64 : decode cX5_init 64 = .ok (.return_, 1) := by decide +kernel
theorem dX5_append_0 : decode cX5_append 0 = .ok (.aload_n 0, 1) := by decide +kernel
theorem dX5_append_1 : decode cX5_append 1 = .ok (.getfield 24, 3) := by decide +kernel
theorem dX5_append_4 : decode cX5_append 4 = .ok (.getfield 45, 3) := by decide +kernel
theorem dX5_append_7 : decode cX5_append 7 = .ok (.bipush 20, 2) := by decide +kernel
theorem dX5_append_9 : decode cX5_append 9 = .ok (.iadd, 1) := by decide +kernel
theorem dX5_append_10 : decode cX5_append 10 = .ok (.sipush 500, 3) := by decide +kernel
theorem dX5_append_13 : decode cX5_append 13 = .ok (.if_icmp .le 13, 3) := by decide +kernel
theorem dX5_append_16 : decode cX5_append 16 = .ok (.new 49, 3) := by decide +kernel
theorem dX5_append_19 : decode cX5_append 19 = .ok (.dup, 1) := by decide +kernel
theorem dX5_append_20 : decode cX5_append 20 = .ok (.ldc 51, 2) := by decide +kernel
theorem dX5_append_22 : decode cX5_append 22 = .ok (.invokespecial 53, 3) := by decide +kernel
theorem dX5_append_25 : decode cX5_append 25 = .ok (.athrow, 1) := by decide +kernel
theorem dX5_append_26 : decode cX5_append 26 = .ok (.aload_n 0, 1) := by decide +kernel
theorem dX5_append_27 : decode cX5_append 27 = .ok (.getfield 24, 3) := by decide +kernel
theorem dX5_append_30 : decode cX5_append 30 = .ok (.iload_n 1, 1) := by decide +kernel
theorem dX5_append_31 : decode cX5_append 31 = .ok (.invokevirtual 56, 3) := by decide +kernel
theorem dX5_append_34 : decode cX5_append 34 = .ok (.aload_n 0, 1) := by decide +kernel
theorem dX5_append_35 : decode cX5_append 35 = .ok (.getfield 24, 3) := by decide +kernel
theorem dX5_append_38 : decode cX5_append 38 = .ok (.iload_n 2, 1) := by decide +kernel
theorem dX5_append_39 : decode cX5_append 39 = .ok (.invokevirtual 56, 3) := by decide +kernel
theorem dX5_append_42 : decode cX5_append 42 = .ok (.aload_n 0, 1) := by decide +kernel
theorem dX5_append_43 : decode cX5_append 43 = .ok (.getfield 24, 3) := by decide +kernel
theorem dX5_append_46 : decode cX5_append 46 = .ok (.iload_n 3, 1) := by decide +kernel
theorem dX5_append_47 : decode cX5_append 47 = .ok (.invokevirtual 56, 3) := by decide +kernel
theorem dX5_append_50 : decode cX5_append 50 = .ok (.aload_n 0, 1) := by decide +kernel
theorem dX5_append_51 : decode cX5_append 51 = .ok (.getfield 24, 3) := by decide +kernel
theorem dX5_append_54 : decode cX5_append 54 = .ok (.iload 4, 2) := by decide +kernel
theorem dX5_append_56 : decode cX5_append 56 = .ok (.invokevirtual 56, 3) := by decide +kernel
theorem dX5_append_59 : decode cX5_append 59 = .ok (.aload_n 0, 1) := by decide +kernel
theorem dX5_append_60 : decode cX5_append 60 = .ok (.getfield 24, 3) := by decide +kernel
theorem dX5_append_63 : decode cX5_append 63 = .ok (.iload 5, 2) := by decide +kernel
theorem dX5_append_65 : decode cX5_append 65 = .ok (.invokevirtual 56, 3) := by decide +kernel
theorem dX5_append_68 : decode cX5_append 68 = .ok (.aload_n 0, 1) := by decide +kernel
theorem dX5_append_69 : decode cX5_append 69 = .ok (.getfield 24, 3) := by decide +kernel
theorem dX5_append_72 : decode cX5_append 72 = .ok (.getfield 45, 3) := by decide +kernel
theorem dX5_append_75 : decode cX5_append 75 = .ok (.ireturn, 1) := by decide +kernel
theorem dX5_load_0 : decode cX5_load 0 = .ok (.iload_n 1, 1) := by decide +kernel
theorem dX5_load_1 : decode cX5_load 1 = .ok (.ifCond .lt 14, 3) := by decide +kernel
theorem dX5_load_4 : decode cX5_load 4 = .ok (.iload_n 1, 1) := by decide +kernel
theorem dX5_load_5 : decode cX5_load 5 = .ok (.aload_n 0, 1) := by decide +kernel
theorem dX5_load_6 : decode cX5_load 6 = .ok (.getfield 24, 3) := by decide +kernel
theorem dX5_load_9 : decode cX5_load 9 = .ok (.getfield 45, 3) := by decide +kernel
theorem dX5_load_12 : decode cX5_load 12 = .ok (.if_icmp .le 13, 3) := by decide +kernel
theorem dX5_load_15 : decode cX5_load 15 = .ok (.new 60, 3) := by decide +kernel
theorem dX5_load_18 : decode cX5_load 18 = .ok (.dup, 1) := by decide +kernel
theorem dX5_load_19 : decode cX5_load 19 = .ok (.ldc 62, 2) := by decide +kernel
theorem dX5_load_21 : decode cX5_load 21 = .ok (.invokespecial 64, 3) := by decide +kernel
theorem dX5_load_24 : decode cX5_load 24 = .ok (.athrow, 1) := by decide +kernel
theorem dX5_load_25 : decode cX5_load 25 = .ok (.aload_n 0, 1) := by decide +kernel
theorem dX5_load_26 : decode cX5_load 26 = .ok (.getfield 24, 3) := by decide +kernel
theorem dX5_load_29 : decode cX5_load 29 = .ok (.iload_n 1, 1) := by decide +kernel
theorem dX5_load_30 : decode cX5_load 30 = .ok (.invokevirtual 65, 3) := by decide +kernel
theorem dX5_load_33 : decode cX5_load 33 = .ok (.istore_n 2, 1) := by decide +kernel
theorem dX5_load_34 : decode cX5_load 34 = .ok (.iload_n 2, 1) := by decide +kernel
theorem dX5_load_35 : decode cX5_load 35 = .ok (.ifCond .eq 5, 3) := by decide +kernel
theorem dX5_load_38 : decode cX5_load 38 = .ok (.iload_n 2, 1) := by decide +kernel
theorem dX5_load_39 : decode cX5_load 39 = .ok (.ireturn, 1) := by decide +kernel
theorem dX5_load_40 : decode cX5_load 40 = .ok (.aload_n 0, 1) := by decide +kernel
theorem dX5_load_41 : decode cX5_load 41 = .ok (.getfield 31, 3) := by decide +kernel
theorem dX5_load_44 : decode cX5_load 44 = .ok (.aload_n 0, 1) := by decide +kernel
theorem dX5_load_45 : decode cX5_load 45 = .ok (.getfield 20, 3) := by decide +kernel
theorem dX5_load_48 : decode cX5_load 48 = .ok (.invokevirtual 69, 3) := by decide +kernel
theorem dX5_load_51 : decode cX5_load 51 = .ok (.aload_n 0, 1) := by decide +kernel
theorem dX5_load_52 : decode cX5_load 52 = .ok (.dup, 1) := by decide +kernel
theorem dX5_load_53 : decode cX5_load 53 = .ok (.getfield 73, 3) := by decide +kernel
theorem dX5_load_56 : decode cX5_load 56 = .ok (.iconst 1, 1) := by decide +kernel
theorem dX5_load_57 : decode cX5_load 57 = .ok (.iadd, 1) := by decide +kernel
theorem dX5_load_58 : decode cX5_load 58 = .ok (.putfield 73, 3) := by decide +kernel
theorem dX5_load_61 : decode cX5_load 61 = .ok (.aload_n 0, 1) := by decide +kernel
theorem dX5_load_62 : decode cX5_load 62 = .ok (.getfield 20, 3) := by decide +kernel
theorem dX5_load_65 : decode cX5_load 65 = .ok (.aload_n 0, 1) := by decide +kernel
theorem dX5_load_66 : decode cX5_load 66 = .ok (.getfield 24, 3) := by decide +kernel
theorem dX5_load_69 : decode cX5_load 69 = .ok (.getfield 76, 3) := by decide +kernel
theorem dX5_load_72 : decode cX5_load 72 = .ok (.invokevirtual 79, 3) := by decide +kernel
theorem dX5_load_75 : decode cX5_load 75 = .ok (.aload_n 0, 1) := by decide +kernel
theorem dX5_load_76 : decode cX5_load 76 = .ok (.getfield 20, 3) := by decide +kernel
theorem dX5_load_79 : decode cX5_load 79 = .ok (.aload_n 0, 1) := by decide +kernel
theorem dX5_load_80 : decode cX5_load 80 = .ok (.getfield 73, 3) := by decide +kernel
theorem dX5_load_83 : decode cX5_load 83 = .ok (.putfield 82, 3) := by decide +kernel
theorem dX5_load_86 : decode cX5_load 86 = .ok (.aload_n 0, 1) := by decide +kernel
theorem dX5_load_87 : decode cX5_load 87 = .ok (.getfield 20, 3) := by decide +kernel
theorem dX5_load_90 : decode cX5_load 90 = .ok (.getfield 85, 3) := by decide +kernel
theorem dX5_load_93 : decode cX5_load 93 = .ok (.ireturn, 1) := by decide +kernel
theorem dX5_errorPosition_0 : decode cX5_errorPosition 0 = .ok (.aload_n 0, 1) := by decide +kernel
theorem dX5_errorPosition_1 : decode cX5_errorPosition 1 = .ok (.getfield 24, 3) := by decide +kernel
theorem dX5_errorPosition_4 : decode cX5_errorPosition 4 = .ok (.getfield 88, 3) := by decide +kernel
theorem dX5_errorPosition_7 : decode cX5_errorPosition 7 = .ok (.ireturn, 1) := by decide +kernel
theorem dX5_count_0 : decode cX5_count 0 = .ok (.iload_n 1, 1) := by decide +kernel
theorem dX5_count_1 : decode cX5_count 1 = .ok (.tableswitch 219 0 12 #[67, 75, 90, 98, 106, 117, 132, 140, 148, 164, 188, 203, 211], 67) := by decide +kernel
theorem dX5_count_68 : decode cX5_count 68 = .ok (.aload_n 0, 1) := by decide +kernel
theorem dX5_count_69 : decode cX5_count 69 = .ok (.getfield 20, 3) := by decide +kernel
theorem dX5_count_72 : decode cX5_count 72 = .ok (.getfield 85, 3) := by decide +kernel
theorem dX5_count_75 : decode cX5_count 75 = .ok (.ireturn, 1) := by decide +kernel
theorem dX5_count_76 : decode cX5_count 76 = .ok (.aload_n 0, 1) := by decide +kernel
theorem dX5_count_77 : decode cX5_count 77 = .ok (.getfield 20, 3) := by decide +kernel
theorem dX5_count_80 : decode cX5_count 80 = .ok (.aload_n 0, 1) := by decide +kernel
theorem dX5_count_81 : decode cX5_count 81 = .ok (.getfield 20, 3) := by decide +kernel
theorem dX5_count_84 : decode cX5_count 84 = .ok (.invokevirtual 91, 3) := by decide +kernel
theorem dX5_count_87 : decode cX5_count 87 = .ok (.invokevirtual 95, 3) := by decide +kernel
theorem dX5_count_90 : decode cX5_count 90 = .ok (.ireturn, 1) := by decide +kernel
theorem dX5_count_91 : decode cX5_count 91 = .ok (.aload_n 0, 1) := by decide +kernel
theorem dX5_count_92 : decode cX5_count 92 = .ok (.getfield 20, 3) := by decide +kernel
theorem dX5_count_95 : decode cX5_count 95 = .ok (.getfield 98, 3) := by decide +kernel
theorem dX5_count_98 : decode cX5_count 98 = .ok (.ireturn, 1) := by decide +kernel
theorem dX5_count_99 : decode cX5_count 99 = .ok (.aload_n 0, 1) := by decide +kernel
theorem dX5_count_100 : decode cX5_count 100 = .ok (.getfield 20, 3) := by decide +kernel
theorem dX5_count_103 : decode cX5_count 103 = .ok (.getfield 101, 3) := by decide +kernel
theorem dX5_count_106 : decode cX5_count 106 = .ok (.ireturn, 1) := by decide +kernel
theorem dX5_count_107 : decode cX5_count 107 = .ok (.aload_n 0, 1) := by decide +kernel
theorem dX5_count_108 : decode cX5_count 108 = .ok (.getfield 20, 3) := by decide +kernel
theorem dX5_count_111 : decode cX5_count 111 = .ok (.getfield 104, 3) := by decide +kernel
theorem dX5_count_114 : decode cX5_count 114 = .ok (.invokestatic 107, 3) := by decide +kernel
theorem dX5_count_117 : decode cX5_count 117 = .ok (.ireturn, 1) := by decide +kernel
theorem dX5_count_118 : decode cX5_count 118 = .ok (.aload_n 0, 1) := by decide +kernel
theorem dX5_count_119 : decode cX5_count 119 = .ok (.getfield 20, 3) := by decide +kernel
theorem dX5_count_122 : decode cX5_count 122 = .ok (.aload_n 0, 1) := by decide +kernel
theorem dX5_count_123 : decode cX5_count 123 = .ok (.getfield 20, 3) := by decide +kernel
theorem dX5_count_126 : decode cX5_count 126 = .ok (.getfield 104, 3) := by decide +kernel
theorem dX5_count_129 : decode cX5_count 129 = .ok (.invokevirtual 112, 3) := by decide +kernel
theorem dX5_count_132 : decode cX5_count 132 = .ok (.ireturn, 1) := by decide +kernel
theorem dX5_count_133 : decode cX5_count 133 = .ok (.aload_n 0, 1) := by decide +kernel
theorem dX5_count_134 : decode cX5_count 134 = .ok (.getfield 20, 3) := by decide +kernel
theorem dX5_count_137 : decode cX5_count 137 = .ok (.invokevirtual 115, 3) := by decide +kernel
theorem dX5_count_140 : decode cX5_count 140 = .ok (.ireturn, 1) := by decide +kernel
theorem dX5_count_141 : decode cX5_count 141 = .ok (.aload_n 0, 1) := by decide +kernel
theorem dX5_count_142 : decode cX5_count 142 = .ok (.getfield 20, 3) := by decide +kernel
theorem dX5_count_145 : decode cX5_count 145 = .ok (.getfield 118, 3) := by decide +kernel
theorem dX5_count_148 : decode cX5_count 148 = .ok (.ireturn, 1) := by decide +kernel
theorem dX5_count_149 : decode cX5_count 149 = .ok (.aload_n 0, 1) := by decide +kernel
theorem dX5_count_150 : decode cX5_count 150 = .ok (.getfield 20, 3) := by decide +kernel
theorem dX5_count_153 : decode cX5_count 153 = .ok (.invokevirtual 121, 3) := by decide +kernel
theorem dX5_count_156 : decode cX5_count 156 = .ok (.ifCond .eq 7, 3) := by decide +kernel
theorem dX5_count_159 : decode cX5_count 159 = .ok (.iconst 1, 1) := by decide +kernel
theorem dX5_count_160 : decode cX5_count 160 = .ok (.goto 4, 3) := by decide +kernel
theorem dX5_count_163 : decode cX5_count 163 = .ok (.iconst 0, 1) := by decide +kernel
theorem dX5_count_164 : decode cX5_count 164 = .ok (.ireturn, 1) := by decide +kernel
theorem dX5_count_165 : decode cX5_count 165 = .ok (.aload_n 0, 1) := by decide +kernel
theorem dX5_count_166 : decode cX5_count 166 = .ok (.getfield 20, 3) := by decide +kernel
theorem dX5_count_169 : decode cX5_count 169 = .ok (.invokevirtual 121, 3) := by decide +kernel
theorem dX5_count_172 : decode cX5_count 172 = .ok (.ifCond .eq 15, 3) := by decide +kernel
theorem dX5_count_175 : decode cX5_count 175 = .ok (.iconst 1, 1) := by decide +kernel
theorem dX5_count_176 : decode cX5_count 176 = .ok (.aload_n 0, 1) := by decide +kernel
theorem dX5_count_177 : decode cX5_count 177 = .ok (.getfield 20, 3) := by decide +kernel
theorem dX5_count_180 : decode cX5_count 180 = .ok (.invokevirtual 115, 3) := by decide +kernel
theorem dX5_count_183 : decode cX5_count 183 = .ok (.isub, 1) := by decide +kernel
theorem dX5_count_184 : decode cX5_count 184 = .ok (.goto 4, 3) := by decide +kernel
theorem dX5_count_187 : decode cX5_count 187 = .ok (.iconst (-1), 1) := by decide +kernel
theorem dX5_count_188 : decode cX5_count 188 = .ok (.ireturn, 1) := by decide +kernel
theorem dX5_count_189 : decode cX5_count 189 = .ok (.aload_n 0, 1) := by decide +kernel
theorem dX5_count_190 : decode cX5_count 190 = .ok (.getfield 20, 3) := by decide +kernel
theorem dX5_count_193 : decode cX5_count 193 = .ok (.aload_n 0, 1) := by decide +kernel
theorem dX5_count_194 : decode cX5_count 194 = .ok (.getfield 20, 3) := by decide +kernel
theorem dX5_count_197 : decode cX5_count 197 = .ok (.getfield 104, 3) := by decide +kernel
theorem dX5_count_200 : decode cX5_count 200 = .ok (.invokevirtual 125, 3) := by decide +kernel
theorem dX5_count_203 : decode cX5_count 203 = .ok (.ireturn, 1) := by decide +kernel
theorem dX5_count_204 : decode cX5_count 204 = .ok (.aload_n 0, 1) := by decide +kernel
theorem dX5_count_205 : decode cX5_count 205 = .ok (.getfield 20, 3) := by decide +kernel
theorem dX5_count_208 : decode cX5_count 208 = .ok (.invokevirtual 128, 3) := by decide +kernel
theorem dX5_count_211 : decode cX5_count 211 = .ok (.ireturn, 1) := by decide +kernel
theorem dX5_count_212 : decode cX5_count 212 = .ok (.aload_n 0, 1) := by decide +kernel
theorem dX5_count_213 : decode cX5_count 213 = .ok (.getfield 20, 3) := by decide +kernel
theorem dX5_count_216 : decode cX5_count 216 = .ok (.invokevirtual 131, 3) := by decide +kernel
theorem dX5_count_219 : decode cX5_count 219 = .ok (.ireturn, 1) := by decide +kernel
theorem dX5_count_220 : decode cX5_count 220 = .ok (.new 60, 3) := by decide +kernel
theorem dX5_count_223 : decode cX5_count 223 = .ok (.dup, 1) := by decide +kernel
theorem dX5_count_224 : decode cX5_count 224 = .ok (.ldc 134, 2) := by decide +kernel
theorem dX5_count_226 : decode cX5_count 226 = .ok (.invokespecial 64, 3) := by decide +kernel
theorem dX5_count_229 : decode cX5_count 229 = .ok (.athrow, 1) := by decide +kernel
theorem dX5_vertex_0 : decode cX5_vertex 0 = .ok (.aload_n 0, 1) := by decide +kernel
theorem dX5_vertex_1 : decode cX5_vertex 1 = .ok (.getfield 20, 3) := by decide +kernel
theorem dX5_vertex_4 : decode cX5_vertex 4 = .ok (.iload_n 1, 1) := by decide +kernel
theorem dX5_vertex_5 : decode cX5_vertex 5 = .ok (.invokevirtual 136, 3) := by decide +kernel
theorem dX5_vertex_8 : decode cX5_vertex 8 = .ok (.ifCond .ne 13, 3) := by decide +kernel
theorem dX5_vertex_11 : decode cX5_vertex 11 = .ok (.new 140, 3) := by decide +kernel
theorem dX5_vertex_14 : decode cX5_vertex 14 = .ok (.dup, 1) := by decide +kernel
theorem dX5_vertex_15 : decode cX5_vertex 15 = .ok (.ldc 142, 2) := by decide +kernel
theorem dX5_vertex_17 : decode cX5_vertex 17 = .ok (.invokespecial 144, 3) := by decide +kernel
theorem dX5_vertex_20 : decode cX5_vertex 20 = .ok (.athrow, 1) := by decide +kernel
theorem dX5_vertex_21 : decode cX5_vertex 21 = .ok (.iload_n 2, 1) := by decide +kernel
theorem dX5_vertex_22 : decode cX5_vertex 22 = .ok (.tableswitch 121 0 5 #[38, 47, 56, 65, 77, 101], 38) := by decide +kernel
theorem dX5_vertex_60 : decode cX5_vertex 60 = .ok (.aload_n 0, 1) := by decide +kernel
theorem dX5_vertex_61 : decode cX5_vertex 61 = .ok (.getfield 20, 3) := by decide +kernel
theorem dX5_vertex_64 : decode cX5_vertex 64 = .ok (.iload_n 1, 1) := by decide +kernel
theorem dX5_vertex_65 : decode cX5_vertex 65 = .ok (.invokevirtual 145, 3) := by decide +kernel
theorem dX5_vertex_68 : decode cX5_vertex 68 = .ok (.ireturn, 1) := by decide +kernel
theorem dX5_vertex_69 : decode cX5_vertex 69 = .ok (.aload_n 0, 1) := by decide +kernel
theorem dX5_vertex_70 : decode cX5_vertex 70 = .ok (.getfield 20, 3) := by decide +kernel
theorem dX5_vertex_73 : decode cX5_vertex 73 = .ok (.iload_n 1, 1) := by decide +kernel
theorem dX5_vertex_74 : decode cX5_vertex 74 = .ok (.invokevirtual 148, 3) := by decide +kernel
theorem dX5_vertex_77 : decode cX5_vertex 77 = .ok (.ireturn, 1) := by decide +kernel
theorem dX5_vertex_78 : decode cX5_vertex 78 = .ok (.aload_n 0, 1) := by decide +kernel
theorem dX5_vertex_79 : decode cX5_vertex 79 = .ok (.getfield 20, 3) := by decide +kernel
theorem dX5_vertex_82 : decode cX5_vertex 82 = .ok (.iload_n 1, 1) := by decide +kernel
theorem dX5_vertex_83 : decode cX5_vertex 83 = .ok (.invokevirtual 151, 3) := by decide +kernel
theorem dX5_vertex_86 : decode cX5_vertex 86 = .ok (.ireturn, 1) := by decide +kernel
theorem dX5_vertex_87 : decode cX5_vertex 87 = .ok (.aload_n 0, 1) := by decide +kernel
theorem dX5_vertex_88 : decode cX5_vertex 88 = .ok (.getfield 20, 3) := by decide +kernel
theorem dX5_vertex_91 : decode cX5_vertex 91 = .ok (.iload_n 1, 1) := by decide +kernel
theorem dX5_vertex_92 : decode cX5_vertex 92 = .ok (.invokevirtual 154, 3) := by decide +kernel
theorem dX5_vertex_95 : decode cX5_vertex 95 = .ok (.invokestatic 107, 3) := by decide +kernel
theorem dX5_vertex_98 : decode cX5_vertex 98 = .ok (.ireturn, 1) := by decide +kernel
theorem dX5_vertex_99 : decode cX5_vertex 99 = .ok (.aload_n 0, 1) := by decide +kernel
theorem dX5_vertex_100 : decode cX5_vertex 100 = .ok (.getfield 20, 3) := by decide +kernel
theorem dX5_vertex_103 : decode cX5_vertex 103 = .ok (.iload_n 1, 1) := by decide +kernel
theorem dX5_vertex_104 : decode cX5_vertex 104 = .ok (.invokevirtual 157, 3) := by decide +kernel
theorem dX5_vertex_107 : decode cX5_vertex 107 = .ok (.ifCond .eq 14, 3) := by decide +kernel
theorem dX5_vertex_110 : decode cX5_vertex 110 = .ok (.aload_n 0, 1) := by decide +kernel
theorem dX5_vertex_111 : decode cX5_vertex 111 = .ok (.getfield 20, 3) := by decide +kernel
theorem dX5_vertex_114 : decode cX5_vertex 114 = .ok (.iload_n 1, 1) := by decide +kernel
theorem dX5_vertex_115 : decode cX5_vertex 115 = .ok (.invokevirtual 160, 3) := by decide +kernel
theorem dX5_vertex_118 : decode cX5_vertex 118 = .ok (.goto 4, 3) := by decide +kernel
theorem dX5_vertex_121 : decode cX5_vertex 121 = .ok (.iconst (-1), 1) := by decide +kernel
theorem dX5_vertex_122 : decode cX5_vertex 122 = .ok (.ireturn, 1) := by decide +kernel
theorem dX5_vertex_123 : decode cX5_vertex 123 = .ok (.aload_n 0, 1) := by decide +kernel
theorem dX5_vertex_124 : decode cX5_vertex 124 = .ok (.getfield 20, 3) := by decide +kernel
theorem dX5_vertex_127 : decode cX5_vertex 127 = .ok (.iload_n 1, 1) := by decide +kernel
theorem dX5_vertex_128 : decode cX5_vertex 128 = .ok (.invokevirtual 154, 3) := by decide +kernel
theorem dX5_vertex_131 : decode cX5_vertex 131 = .ok (.aload_n 0, 1) := by decide +kernel
theorem dX5_vertex_132 : decode cX5_vertex 132 = .ok (.getfield 20, 3) := by decide +kernel
theorem dX5_vertex_135 : decode cX5_vertex 135 = .ok (.getfield 104, 3) := by decide +kernel
theorem dX5_vertex_138 : decode cX5_vertex 138 = .ok (.iand, 1) := by decide +kernel
theorem dX5_vertex_139 : decode cX5_vertex 139 = .ok (.invokestatic 107, 3) := by decide +kernel
theorem dX5_vertex_142 : decode cX5_vertex 142 = .ok (.ireturn, 1) := by decide +kernel
theorem dX5_vertex_143 : decode cX5_vertex 143 = .ok (.new 60, 3) := by decide +kernel
theorem dX5_vertex_146 : decode cX5_vertex 146 = .ok (.dup, 1) := by decide +kernel
theorem dX5_vertex_147 : decode cX5_vertex 147 = .ok (.ldc 163, 2) := by decide +kernel
theorem dX5_vertex_149 : decode cX5_vertex 149 = .ok (.invokespecial 64, 3) := by decide +kernel
theorem dX5_vertex_152 : decode cX5_vertex 152 = .ok (.athrow, 1) := by decide +kernel
theorem dX5_reason_0 : decode cX5_reason 0 = .ok (.aload_n 0, 1) := by decide +kernel
theorem dX5_reason_1 : decode cX5_reason 1 = .ok (.getfield 20, 3) := by decide +kernel
theorem dX5_reason_4 : decode cX5_reason 4 = .ok (.iload_n 1, 1) := by decide +kernel
theorem dX5_reason_5 : decode cX5_reason 5 = .ok (.iload_n 2, 1) := by decide +kernel
theorem dX5_reason_6 : decode cX5_reason 6 = .ok (.invokevirtual 165, 3) := by decide +kernel
theorem dX5_reason_9 : decode cX5_reason 9 = .ok (.ifCond .ne 13, 3) := by decide +kernel
theorem dX5_reason_12 : decode cX5_reason 12 = .ok (.new 140, 3) := by decide +kernel
theorem dX5_reason_15 : decode cX5_reason 15 = .ok (.dup, 1) := by decide +kernel
theorem dX5_reason_16 : decode cX5_reason 16 = .ok (.ldc 169, 2) := by decide +kernel
theorem dX5_reason_18 : decode cX5_reason 18 = .ok (.invokespecial 144, 3) := by decide +kernel
theorem dX5_reason_21 : decode cX5_reason 21 = .ok (.athrow, 1) := by decide +kernel
theorem dX5_reason_22 : decode cX5_reason 22 = .ok (.aload_n 0, 1) := by decide +kernel
theorem dX5_reason_23 : decode cX5_reason 23 = .ok (.getfield 20, 3) := by decide +kernel
theorem dX5_reason_26 : decode cX5_reason 26 = .ok (.iload_n 1, 1) := by decide +kernel
theorem dX5_reason_27 : decode cX5_reason 27 = .ok (.iload_n 2, 1) := by decide +kernel
theorem dX5_reason_28 : decode cX5_reason 28 = .ok (.invokevirtual 171, 3) := by decide +kernel
theorem dX5_reason_31 : decode cX5_reason 31 = .ok (.ireturn, 1) := by decide +kernel
theorem dX5_part_0 : decode cX5_part 0 = .ok (.aload_n 0, 1) := by decide +kernel
theorem dX5_part_1 : decode cX5_part 1 = .ok (.getfield 20, 3) := by decide +kernel
theorem dX5_part_4 : decode cX5_part 4 = .ok (.iload_n 1, 1) := by decide +kernel
theorem dX5_part_5 : decode cX5_part 5 = .ok (.invokevirtual 175, 3) := by decide +kernel
theorem dX5_part_8 : decode cX5_part 8 = .ok (.istore_n 3, 1) := by decide +kernel
theorem dX5_part_9 : decode cX5_part 9 = .ok (.iload_n 3, 1) := by decide +kernel
theorem dX5_part_10 : decode cX5_part 10 = .ok (.ifCond .ne 13, 3) := by decide +kernel
theorem dX5_part_13 : decode cX5_part 13 = .ok (.new 140, 3) := by decide +kernel
theorem dX5_part_16 : decode cX5_part 16 = .ok (.dup, 1) := by decide +kernel
theorem dX5_part_17 : decode cX5_part 17 = .ok (.ldc 178, 2) := by decide +kernel
theorem dX5_part_19 : decode cX5_part 19 = .ok (.invokespecial 144, 3) := by decide +kernel
theorem dX5_part_22 : decode cX5_part 22 = .ok (.athrow, 1) := by decide +kernel
theorem dX5_part_23 : decode cX5_part 23 = .ok (.iload_n 2, 1) := by decide +kernel
theorem dX5_part_24 : decode cX5_part 24 = .ok (.tableswitch 121 0 7 #[48, 53, 58, 67, 76, 85, 97, 109], 48) := by decide +kernel
theorem dX5_part_72 : decode cX5_part 72 = .ok (.iload_n 3, 1) := by decide +kernel
theorem dX5_part_73 : decode cX5_part 73 = .ok (.invokestatic 107, 3) := by decide +kernel
theorem dX5_part_76 : decode cX5_part 76 = .ok (.ireturn, 1) := by decide +kernel
theorem dX5_part_77 : decode cX5_part 77 = .ok (.iload_n 3, 1) := by decide +kernel
theorem dX5_part_78 : decode cX5_part 78 = .ok (.invokestatic 180, 3) := by decide +kernel
theorem dX5_part_81 : decode cX5_part 81 = .ok (.ireturn, 1) := by decide +kernel
theorem dX5_part_82 : decode cX5_part 82 = .ok (.aload_n 0, 1) := by decide +kernel
theorem dX5_part_83 : decode cX5_part 83 = .ok (.getfield 20, 3) := by decide +kernel
theorem dX5_part_86 : decode cX5_part 86 = .ok (.iload_n 3, 1) := by decide +kernel
theorem dX5_part_87 : decode cX5_part 87 = .ok (.invokevirtual 183, 3) := by decide +kernel
theorem dX5_part_90 : decode cX5_part 90 = .ok (.ireturn, 1) := by decide +kernel
theorem dX5_part_91 : decode cX5_part 91 = .ok (.aload_n 0, 1) := by decide +kernel
theorem dX5_part_92 : decode cX5_part 92 = .ok (.getfield 20, 3) := by decide +kernel
theorem dX5_part_95 : decode cX5_part 95 = .ok (.iload_n 3, 1) := by decide +kernel
theorem dX5_part_96 : decode cX5_part 96 = .ok (.invokevirtual 95, 3) := by decide +kernel
theorem dX5_part_99 : decode cX5_part 99 = .ok (.ireturn, 1) := by decide +kernel
theorem dX5_part_100 : decode cX5_part 100 = .ok (.aload_n 0, 1) := by decide +kernel
theorem dX5_part_101 : decode cX5_part 101 = .ok (.getfield 20, 3) := by decide +kernel
theorem dX5_part_104 : decode cX5_part 104 = .ok (.iload_n 3, 1) := by decide +kernel
theorem dX5_part_105 : decode cX5_part 105 = .ok (.invokevirtual 125, 3) := by decide +kernel
theorem dX5_part_108 : decode cX5_part 108 = .ok (.ireturn, 1) := by decide +kernel
theorem dX5_part_109 : decode cX5_part 109 = .ok (.aload_n 0, 1) := by decide +kernel
theorem dX5_part_110 : decode cX5_part 110 = .ok (.getfield 10, 3) := by decide +kernel
theorem dX5_part_113 : decode cX5_part 113 = .ok (.iload_n 3, 1) := by decide +kernel
theorem dX5_part_114 : decode cX5_part 114 = .ok (.invokevirtual 186, 3) := by decide +kernel
theorem dX5_part_117 : decode cX5_part 117 = .ok (.invokestatic 189, 3) := by decide +kernel
theorem dX5_part_120 : decode cX5_part 120 = .ok (.ireturn, 1) := by decide +kernel
theorem dX5_part_121 : decode cX5_part 121 = .ok (.aload_n 0, 1) := by decide +kernel
theorem dX5_part_122 : decode cX5_part 122 = .ok (.getfield 10, 3) := by decide +kernel
theorem dX5_part_125 : decode cX5_part 125 = .ok (.iload_n 3, 1) := by decide +kernel
theorem dX5_part_126 : decode cX5_part 126 = .ok (.invokevirtual 186, 3) := by decide +kernel
theorem dX5_part_129 : decode cX5_part 129 = .ok (.invokestatic 192, 3) := by decide +kernel
theorem dX5_part_132 : decode cX5_part 132 = .ok (.ireturn, 1) := by decide +kernel
theorem dX5_part_133 : decode cX5_part 133 = .ok (.aload_n 0, 1) := by decide +kernel
theorem dX5_part_134 : decode cX5_part 134 = .ok (.getfield 10, 3) := by decide +kernel
theorem dX5_part_137 : decode cX5_part 137 = .ok (.iload_n 3, 1) := by decide +kernel
theorem dX5_part_138 : decode cX5_part 138 = .ok (.invokevirtual 186, 3) := by decide +kernel
theorem dX5_part_141 : decode cX5_part 141 = .ok (.invokestatic 195, 3) := by decide +kernel
theorem dX5_part_144 : decode cX5_part 144 = .ok (.ireturn, 1) := by decide +kernel
theorem dX5_part_145 : decode cX5_part 145 = .ok (.new 60, 3) := by decide +kernel
theorem dX5_part_148 : decode cX5_part 148 = .ok (.dup, 1) := by decide +kernel
theorem dX5_part_149 : decode cX5_part 149 = .ok (.ldc 198, 2) := by decide +kernel
theorem dX5_part_151 : decode cX5_part 151 = .ok (.invokespecial 64, 3) := by decide +kernel
theorem dX5_part_154 : decode cX5_part 154 = .ok (.athrow, 1) := by decide +kernel
theorem dX5_value_0 : decode cX5_value 0 = .ok (.aload_n 0, 1) := by decide +kernel
theorem dX5_value_1 : decode cX5_value 1 = .ok (.getfield 10, 3) := by decide +kernel
theorem dX5_value_4 : decode cX5_value 4 = .ok (.aload_n 0, 1) := by decide +kernel
theorem dX5_value_5 : decode cX5_value 5 = .ok (.getfield 20, 3) := by decide +kernel
theorem dX5_value_8 : decode cX5_value 8 = .ok (.getfield 104, 3) := by decide +kernel
theorem dX5_value_11 : decode cX5_value 11 = .ok (.invokevirtual 186, 3) := by decide +kernel
theorem dX5_value_14 : decode cX5_value 14 = .ok (.invokestatic 189, 3) := by decide +kernel
theorem dX5_value_17 : decode cX5_value 17 = .ok (.aload_n 0, 1) := by decide +kernel
theorem dX5_value_18 : decode cX5_value 18 = .ok (.getfield 20, 3) := by decide +kernel
theorem dX5_value_21 : decode cX5_value 21 = .ok (.invokevirtual 131, 3) := by decide +kernel
theorem dX5_value_24 : decode cX5_value 24 = .ok (.ixor, 1) := by decide +kernel
theorem dX5_value_25 : decode cX5_value 25 = .ok (.ireturn, 1) := by decide +kernel
theorem dX5_valueIf_0 : decode cX5_valueIf 0 = .ok (.aload_n 0, 1) := by decide +kernel
theorem dX5_valueIf_1 : decode cX5_valueIf 1 = .ok (.getfield 20, 3) := by decide +kernel
theorem dX5_valueIf_4 : decode cX5_valueIf 4 = .ok (.iload_n 1, 1) := by decide +kernel
theorem dX5_valueIf_5 : decode cX5_valueIf 5 = .ok (.iload_n 2, 1) := by decide +kernel
theorem dX5_valueIf_6 : decode cX5_valueIf 6 = .ok (.invokevirtual 165, 3) := by decide +kernel
theorem dX5_valueIf_9 : decode cX5_valueIf 9 = .ok (.ifCond .ne 13, 3) := by decide +kernel
theorem dX5_valueIf_12 : decode cX5_valueIf 12 = .ok (.new 140, 3) := by decide +kernel
theorem dX5_valueIf_15 : decode cX5_valueIf 15 = .ok (.dup, 1) := by decide +kernel
theorem dX5_valueIf_16 : decode cX5_valueIf 16 = .ok (.ldc 169, 2) := by decide +kernel
theorem dX5_valueIf_18 : decode cX5_valueIf 18 = .ok (.invokespecial 144, 3) := by decide +kernel
theorem dX5_valueIf_21 : decode cX5_valueIf 21 = .ok (.athrow, 1) := by decide +kernel
theorem dX5_valueIf_22 : decode cX5_valueIf 22 = .ok (.aload_n 0, 1) := by decide +kernel
theorem dX5_valueIf_23 : decode cX5_valueIf 23 = .ok (.getfield 20, 3) := by decide +kernel
theorem dX5_valueIf_26 : decode cX5_valueIf 26 = .ok (.iload_n 1, 1) := by decide +kernel
theorem dX5_valueIf_27 : decode cX5_valueIf 27 = .ok (.iload_n 2, 1) := by decide +kernel
theorem dX5_valueIf_28 : decode cX5_valueIf 28 = .ok (.invokevirtual 171, 3) := by decide +kernel
theorem dX5_valueIf_31 : decode cX5_valueIf 31 = .ok (.ifCond .eq 13, 3) := by decide +kernel
theorem dX5_valueIf_34 : decode cX5_valueIf 34 = .ok (.new 200, 3) := by decide +kernel
theorem dX5_valueIf_37 : decode cX5_valueIf 37 = .ok (.dup, 1) := by decide +kernel
theorem dX5_valueIf_38 : decode cX5_valueIf 38 = .ok (.ldc 202, 2) := by decide +kernel
theorem dX5_valueIf_40 : decode cX5_valueIf 40 = .ok (.invokespecial 204, 3) := by decide +kernel
theorem dX5_valueIf_43 : decode cX5_valueIf 43 = .ok (.athrow, 1) := by decide +kernel
theorem dX5_valueIf_44 : decode cX5_valueIf 44 = .ok (.aload_n 0, 1) := by decide +kernel
theorem dX5_valueIf_45 : decode cX5_valueIf 45 = .ok (.getfield 10, 3) := by decide +kernel
theorem dX5_valueIf_48 : decode cX5_valueIf 48 = .ok (.iload_n 1, 1) := by decide +kernel
theorem dX5_valueIf_49 : decode cX5_valueIf 49 = .ok (.iload_n 2, 1) := by decide +kernel
theorem dX5_valueIf_50 : decode cX5_valueIf 50 = .ok (.invokevirtual 205, 3) := by decide +kernel
theorem dX5_valueIf_53 : decode cX5_valueIf 53 = .ok (.invokestatic 189, 3) := by decide +kernel
theorem dX5_valueIf_56 : decode cX5_valueIf 56 = .ok (.aload_n 0, 1) := by decide +kernel
theorem dX5_valueIf_57 : decode cX5_valueIf 57 = .ok (.getfield 20, 3) := by decide +kernel
theorem dX5_valueIf_60 : decode cX5_valueIf 60 = .ok (.invokevirtual 131, 3) := by decide +kernel
theorem dX5_valueIf_63 : decode cX5_valueIf 63 = .ok (.ixor, 1) := by decide +kernel
theorem dX5_valueIf_64 : decode cX5_valueIf 64 = .ok (.ireturn, 1) := by decide +kernel
theorem dX5_winningMoves_0 : decode cX5_winningMoves 0 = .ok (.aload_n 0, 1) := by decide +kernel
theorem dX5_winningMoves_1 : decode cX5_winningMoves 1 = .ok (.invokevirtual 208, 3) := by decide +kernel
theorem dX5_winningMoves_4 : decode cX5_winningMoves 4 = .ok (.ifCond .eq 7, 3) := by decide +kernel
theorem dX5_winningMoves_7 : decode cX5_winningMoves 7 = .ok (.iconst 1, 1) := by decide +kernel
theorem dX5_winningMoves_8 : decode cX5_winningMoves 8 = .ok (.goto 4, 3) := by decide +kernel
theorem dX5_winningMoves_11 : decode cX5_winningMoves 11 = .ok (.iconst 0, 1) := by decide +kernel
theorem dX5_winningMoves_12 : decode cX5_winningMoves 12 = .ok (.istore_n 1, 1) := by decide +kernel
theorem dX5_winningMoves_13 : decode cX5_winningMoves 13 = .ok (.iconst 0, 1) := by decide +kernel
theorem dX5_winningMoves_14 : decode cX5_winningMoves 14 = .ok (.istore_n 2, 1) := by decide +kernel
theorem dX5_winningMoves_15 : decode cX5_winningMoves 15 = .ok (.iload_n 2, 1) := by decide +kernel
theorem dX5_winningMoves_16 : decode cX5_winningMoves 16 = .ok (.aload_n 0, 1) := by decide +kernel
theorem dX5_winningMoves_17 : decode cX5_winningMoves 17 = .ok (.getfield 20, 3) := by decide +kernel
theorem dX5_winningMoves_20 : decode cX5_winningMoves 20 = .ok (.getfield 85, 3) := by decide +kernel
theorem dX5_winningMoves_23 : decode cX5_winningMoves 23 = .ok (.if_icmp .ge 20, 3) := by decide +kernel
theorem dX5_winningMoves_26 : decode cX5_winningMoves 26 = .ok (.iload_n 1, 1) := by decide +kernel
theorem dX5_winningMoves_27 : decode cX5_winningMoves 27 = .ok (.aload_n 0, 1) := by decide +kernel
theorem dX5_winningMoves_28 : decode cX5_winningMoves 28 = .ok (.iload_n 2, 1) := by decide +kernel
theorem dX5_winningMoves_29 : decode cX5_winningMoves 29 = .ok (.invokevirtual 211, 3) := by decide +kernel
theorem dX5_winningMoves_32 : decode cX5_winningMoves 32 = .ok (.invokestatic 107, 3) := by decide +kernel
theorem dX5_winningMoves_35 : decode cX5_winningMoves 35 = .ok (.iadd, 1) := by decide +kernel
theorem dX5_winningMoves_36 : decode cX5_winningMoves 36 = .ok (.istore_n 1, 1) := by decide +kernel
theorem dX5_winningMoves_37 : decode cX5_winningMoves 37 = .ok (.iinc 2 1, 3) := by decide +kernel
theorem dX5_winningMoves_40 : decode cX5_winningMoves 40 = .ok (.goto (-25), 3) := by decide +kernel
theorem dX5_winningMoves_43 : decode cX5_winningMoves 43 = .ok (.iload_n 1, 1) := by decide +kernel
theorem dX5_winningMoves_44 : decode cX5_winningMoves 44 = .ok (.ireturn, 1) := by decide +kernel
theorem dX5_bestMove_0 : decode cX5_bestMove 0 = .ok (.aload_n 0, 1) := by decide +kernel
theorem dX5_bestMove_1 : decode cX5_bestMove 1 = .ok (.getfield 20, 3) := by decide +kernel
theorem dX5_bestMove_4 : decode cX5_bestMove 4 = .ok (.invokevirtual 121, 3) := by decide +kernel
theorem dX5_bestMove_7 : decode cX5_bestMove 7 = .ok (.ifCond .eq 13, 3) := by decide +kernel
theorem dX5_bestMove_10 : decode cX5_bestMove 10 = .ok (.new 200, 3) := by decide +kernel
theorem dX5_bestMove_13 : decode cX5_bestMove 13 = .ok (.dup, 1) := by decide +kernel
theorem dX5_bestMove_14 : decode cX5_bestMove 14 = .ok (.ldc 214, 2) := by decide +kernel
theorem dX5_bestMove_16 : decode cX5_bestMove 16 = .ok (.invokespecial 204, 3) := by decide +kernel
theorem dX5_bestMove_19 : decode cX5_bestMove 19 = .ok (.athrow, 1) := by decide +kernel
theorem dX5_bestMove_20 : decode cX5_bestMove 20 = .ok (.aload_n 0, 1) := by decide +kernel
theorem dX5_bestMove_21 : decode cX5_bestMove 21 = .ok (.invokevirtual 216, 3) := by decide +kernel
theorem dX5_bestMove_24 : decode cX5_bestMove 24 = .ok (.ireturn, 1) := by decide +kernel
theorem dX5_longest_0 : decode cX5_longest 0 = .ok (.aload_n 0, 1) := by decide +kernel
theorem dX5_longest_1 : decode cX5_longest 1 = .ok (.getfield 10, 3) := by decide +kernel
theorem dX5_longest_4 : decode cX5_longest 4 = .ok (.aload_n 0, 1) := by decide +kernel
theorem dX5_longest_5 : decode cX5_longest 5 = .ok (.getfield 20, 3) := by decide +kernel
theorem dX5_longest_8 : decode cX5_longest 8 = .ok (.getfield 104, 3) := by decide +kernel
theorem dX5_longest_11 : decode cX5_longest 11 = .ok (.invokevirtual 186, 3) := by decide +kernel
theorem dX5_longest_14 : decode cX5_longest 14 = .ok (.invokestatic 192, 3) := by decide +kernel
theorem dX5_longest_17 : decode cX5_longest 17 = .ok (.aload_n 0, 1) := by decide +kernel
theorem dX5_longest_18 : decode cX5_longest 18 = .ok (.getfield 20, 3) := by decide +kernel
theorem dX5_longest_21 : decode cX5_longest 21 = .ok (.getfield 101, 3) := by decide +kernel
theorem dX5_longest_24 : decode cX5_longest 24 = .ok (.iadd, 1) := by decide +kernel
theorem dX5_longest_25 : decode cX5_longest 25 = .ok (.ireturn, 1) := by decide +kernel
theorem dX5_shortest_0 : decode cX5_shortest 0 = .ok (.aload_n 0, 1) := by decide +kernel
theorem dX5_shortest_1 : decode cX5_shortest 1 = .ok (.getfield 10, 3) := by decide +kernel
theorem dX5_shortest_4 : decode cX5_shortest 4 = .ok (.aload_n 0, 1) := by decide +kernel
theorem dX5_shortest_5 : decode cX5_shortest 5 = .ok (.getfield 20, 3) := by decide +kernel
theorem dX5_shortest_8 : decode cX5_shortest 8 = .ok (.getfield 104, 3) := by decide +kernel
theorem dX5_shortest_11 : decode cX5_shortest 11 = .ok (.invokevirtual 186, 3) := by decide +kernel
theorem dX5_shortest_14 : decode cX5_shortest 14 = .ok (.invokestatic 195, 3) := by decide +kernel
theorem dX5_shortest_17 : decode cX5_shortest 17 = .ok (.aload_n 0, 1) := by decide +kernel
theorem dX5_shortest_18 : decode cX5_shortest 18 = .ok (.getfield 20, 3) := by decide +kernel
theorem dX5_shortest_21 : decode cX5_shortest 21 = .ok (.getfield 101, 3) := by decide +kernel
theorem dX5_shortest_24 : decode cX5_shortest 24 = .ok (.iadd, 1) := by decide +kernel
theorem dX5_shortest_25 : decode cX5_shortest 25 = .ok (.ireturn, 1) := by decide +kernel
theorem dX5_meanValue_0 : decode cX5_meanValue 0 = .ok (.aload_n 0, 1) := by decide +kernel
theorem dX5_meanValue_1 : decode cX5_meanValue 1 = .ok (.getfield 20, 3) := by decide +kernel
theorem dX5_meanValue_4 : decode cX5_meanValue 4 = .ok (.aload_n 0, 1) := by decide +kernel
theorem dX5_meanValue_5 : decode cX5_meanValue 5 = .ok (.getfield 20, 3) := by decide +kernel
theorem dX5_meanValue_8 : decode cX5_meanValue 8 = .ok (.getfield 104, 3) := by decide +kernel
theorem dX5_meanValue_11 : decode cX5_meanValue 11 = .ok (.invokevirtual 112, 3) := by decide +kernel
theorem dX5_meanValue_14 : decode cX5_meanValue 14 = .ok (.istore_n 1, 1) := by decide +kernel
theorem dX5_meanValue_15 : decode cX5_meanValue 15 = .ok (.iload_n 1, 1) := by decide +kernel
theorem dX5_meanValue_16 : decode cX5_meanValue 16 = .ok (.ifCond .ne 5, 3) := by decide +kernel
theorem dX5_meanValue_19 : decode cX5_meanValue 19 = .ok (.fconst 0, 1) := by decide +kernel
theorem dX5_meanValue_20 : decode cX5_meanValue 20 = .ok (.freturn, 1) := by decide +kernel
theorem dX5_meanValue_21 : decode cX5_meanValue 21 = .ok (.iconst 0, 1) := by decide +kernel
theorem dX5_meanValue_22 : decode cX5_meanValue 22 = .ok (.istore_n 2, 1) := by decide +kernel
theorem dX5_meanValue_23 : decode cX5_meanValue 23 = .ok (.iconst 0, 1) := by decide +kernel
theorem dX5_meanValue_24 : decode cX5_meanValue 24 = .ok (.istore_n 3, 1) := by decide +kernel
theorem dX5_meanValue_25 : decode cX5_meanValue 25 = .ok (.iload_n 3, 1) := by decide +kernel
theorem dX5_meanValue_26 : decode cX5_meanValue 26 = .ok (.iload_n 1, 1) := by decide +kernel
theorem dX5_meanValue_27 : decode cX5_meanValue 27 = .ok (.if_icmp .ge 30, 3) := by decide +kernel
theorem dX5_meanValue_30 : decode cX5_meanValue 30 = .ok (.iload_n 2, 1) := by decide +kernel
theorem dX5_meanValue_31 : decode cX5_meanValue 31 = .ok (.aload_n 0, 1) := by decide +kernel
theorem dX5_meanValue_32 : decode cX5_meanValue 32 = .ok (.getfield 10, 3) := by decide +kernel
theorem dX5_meanValue_35 : decode cX5_meanValue 35 = .ok (.aload_n 0, 1) := by decide +kernel
theorem dX5_meanValue_36 : decode cX5_meanValue 36 = .ok (.getfield 20, 3) := by decide +kernel
theorem dX5_meanValue_39 : decode cX5_meanValue 39 = .ok (.iload_n 3, 1) := by decide +kernel
theorem dX5_meanValue_40 : decode cX5_meanValue 40 = .ok (.invokevirtual 175, 3) := by decide +kernel
theorem dX5_meanValue_43 : decode cX5_meanValue 43 = .ok (.invokevirtual 186, 3) := by decide +kernel
theorem dX5_meanValue_46 : decode cX5_meanValue 46 = .ok (.invokestatic 189, 3) := by decide +kernel
theorem dX5_meanValue_49 : decode cX5_meanValue 49 = .ok (.iadd, 1) := by decide +kernel
theorem dX5_meanValue_50 : decode cX5_meanValue 50 = .ok (.istore_n 2, 1) := by decide +kernel
theorem dX5_meanValue_51 : decode cX5_meanValue 51 = .ok (.iinc 3 1, 3) := by decide +kernel
theorem dX5_meanValue_54 : decode cX5_meanValue 54 = .ok (.goto (-29), 3) := by decide +kernel
theorem dX5_meanValue_57 : decode cX5_meanValue 57 = .ok (.iload_n 2, 1) := by decide +kernel
theorem dX5_meanValue_58 : decode cX5_meanValue 58 = .ok (.i2f, 1) := by decide +kernel
theorem dX5_meanValue_59 : decode cX5_meanValue 59 = .ok (.iload_n 1, 1) := by decide +kernel
theorem dX5_meanValue_60 : decode cX5_meanValue 60 = .ok (.i2f, 1) := by decide +kernel
theorem dX5_meanValue_61 : decode cX5_meanValue 61 = .ok (.fdiv, 1) := by decide +kernel
theorem dX5_meanValue_62 : decode cX5_meanValue 62 = .ok (.freturn, 1) := by decide +kernel
theorem dX5_winningColours_0 : decode cX5_winningColours 0 = .ok (.aload_n 0, 1) := by decide +kernel
theorem dX5_winningColours_1 : decode cX5_winningColours 1 = .ok (.getfield 20, 3) := by decide +kernel
theorem dX5_winningColours_4 : decode cX5_winningColours 4 = .ok (.iload_n 1, 1) := by decide +kernel
theorem dX5_winningColours_5 : decode cX5_winningColours 5 = .ok (.invokevirtual 136, 3) := by decide +kernel
theorem dX5_winningColours_8 : decode cX5_winningColours 8 = .ok (.ifCond .ne 13, 3) := by decide +kernel
theorem dX5_winningColours_11 : decode cX5_winningColours 11 = .ok (.new 140, 3) := by decide +kernel
theorem dX5_winningColours_14 : decode cX5_winningColours 14 = .ok (.dup, 1) := by decide +kernel
theorem dX5_winningColours_15 : decode cX5_winningColours 15 = .ok (.ldc 142, 2) := by decide +kernel
theorem dX5_winningColours_17 : decode cX5_winningColours 17 = .ok (.invokespecial 144, 3) := by decide +kernel
theorem dX5_winningColours_20 : decode cX5_winningColours 20 = .ok (.athrow, 1) := by decide +kernel
theorem dX5_winningColours_21 : decode cX5_winningColours 21 = .ok (.aload_n 0, 1) := by decide +kernel
theorem dX5_winningColours_22 : decode cX5_winningColours 22 = .ok (.iload_n 1, 1) := by decide +kernel
theorem dX5_winningColours_23 : decode cX5_winningColours 23 = .ok (.invokevirtual 211, 3) := by decide +kernel
theorem dX5_winningColours_26 : decode cX5_winningColours 26 = .ok (.ireturn, 1) := by decide +kernel
theorem dX5_falls_0 : decode cX5_falls 0 = .ok (.aload_n 0, 1) := by decide +kernel
theorem dX5_falls_1 : decode cX5_falls 1 = .ok (.getfield 20, 3) := by decide +kernel
theorem dX5_falls_4 : decode cX5_falls 4 = .ok (.iload_n 1, 1) := by decide +kernel
theorem dX5_falls_5 : decode cX5_falls 5 = .ok (.invokevirtual 136, 3) := by decide +kernel
theorem dX5_falls_8 : decode cX5_falls 8 = .ok (.ifCond .ne 13, 3) := by decide +kernel
theorem dX5_falls_11 : decode cX5_falls 11 = .ok (.new 140, 3) := by decide +kernel
theorem dX5_falls_14 : decode cX5_falls 14 = .ok (.dup, 1) := by decide +kernel
theorem dX5_falls_15 : decode cX5_falls 15 = .ok (.ldc 142, 2) := by decide +kernel
theorem dX5_falls_17 : decode cX5_falls 17 = .ok (.invokespecial 144, 3) := by decide +kernel
theorem dX5_falls_20 : decode cX5_falls 20 = .ok (.athrow, 1) := by decide +kernel
theorem dX5_falls_21 : decode cX5_falls 21 = .ok (.aload_n 0, 1) := by decide +kernel
theorem dX5_falls_22 : decode cX5_falls 22 = .ok (.getfield 20, 3) := by decide +kernel
theorem dX5_falls_25 : decode cX5_falls 25 = .ok (.iload_n 1, 1) := by decide +kernel
theorem dX5_falls_26 : decode cX5_falls 26 = .ok (.invokevirtual 157, 3) := by decide +kernel
theorem dX5_falls_29 : decode cX5_falls 29 = .ok (.ifCond .ne 13, 3) := by decide +kernel
theorem dX5_falls_32 : decode cX5_falls 32 = .ok (.new 200, 3) := by decide +kernel
theorem dX5_falls_35 : decode cX5_falls 35 = .ok (.dup, 1) := by decide +kernel
theorem dX5_falls_36 : decode cX5_falls 36 = .ok (.ldc 219, 2) := by decide +kernel
theorem dX5_falls_38 : decode cX5_falls 38 = .ok (.invokespecial 204, 3) := by decide +kernel
theorem dX5_falls_41 : decode cX5_falls 41 = .ok (.athrow, 1) := by decide +kernel
theorem dX5_falls_42 : decode cX5_falls 42 = .ok (.aload_n 0, 1) := by decide +kernel
theorem dX5_falls_43 : decode cX5_falls 43 = .ok (.getfield 20, 3) := by decide +kernel
theorem dX5_falls_46 : decode cX5_falls 46 = .ok (.aload_n 0, 1) := by decide +kernel
theorem dX5_falls_47 : decode cX5_falls 47 = .ok (.getfield 20, 3) := by decide +kernel
theorem dX5_falls_50 : decode cX5_falls 50 = .ok (.iload_n 1, 1) := by decide +kernel
theorem dX5_falls_51 : decode cX5_falls 51 = .ok (.invokevirtual 221, 3) := by decide +kernel
theorem dX5_falls_54 : decode cX5_falls 54 = .ok (.iconst 1, 1) := by decide +kernel
theorem dX5_falls_55 : decode cX5_falls 55 = .ok (.iload_n 1, 1) := by decide +kernel
theorem dX5_falls_56 : decode cX5_falls 56 = .ok (.ishl, 1) := by decide +kernel
theorem dX5_falls_57 : decode cX5_falls 57 = .ok (.iconst (-1), 1) := by decide +kernel
theorem dX5_falls_58 : decode cX5_falls 58 = .ok (.ixor, 1) := by decide +kernel
theorem dX5_falls_59 : decode cX5_falls 59 = .ok (.iand, 1) := by decide +kernel
theorem dX5_falls_60 : decode cX5_falls 60 = .ok (.invokevirtual 112, 3) := by decide +kernel
theorem dX5_falls_63 : decode cX5_falls 63 = .ok (.ireturn, 1) := by decide +kernel
theorem dX5_valueWithout_0 : decode cX5_valueWithout 0 = .ok (.aload_n 0, 1) := by decide +kernel
theorem dX5_valueWithout_1 : decode cX5_valueWithout 1 = .ok (.getfield 20, 3) := by decide +kernel
theorem dX5_valueWithout_4 : decode cX5_valueWithout 4 = .ok (.iload_n 1, 1) := by decide +kernel
theorem dX5_valueWithout_5 : decode cX5_valueWithout 5 = .ok (.invokevirtual 136, 3) := by decide +kernel
theorem dX5_valueWithout_8 : decode cX5_valueWithout 8 = .ok (.ifCond .ne 13, 3) := by decide +kernel
theorem dX5_valueWithout_11 : decode cX5_valueWithout 11 = .ok (.new 140, 3) := by decide +kernel
theorem dX5_valueWithout_14 : decode cX5_valueWithout 14 = .ok (.dup, 1) := by decide +kernel
theorem dX5_valueWithout_15 : decode cX5_valueWithout 15 = .ok (.ldc 142, 2) := by decide +kernel
theorem dX5_valueWithout_17 : decode cX5_valueWithout 17 = .ok (.invokespecial 144, 3) := by decide +kernel
theorem dX5_valueWithout_20 : decode cX5_valueWithout 20 = .ok (.athrow, 1) := by decide +kernel
theorem dX5_valueWithout_21 : decode cX5_valueWithout 21 = .ok (.aload_n 0, 1) := by decide +kernel
theorem dX5_valueWithout_22 : decode cX5_valueWithout 22 = .ok (.getfield 20, 3) := by decide +kernel
theorem dX5_valueWithout_25 : decode cX5_valueWithout 25 = .ok (.iload_n 1, 1) := by decide +kernel
theorem dX5_valueWithout_26 : decode cX5_valueWithout 26 = .ok (.invokevirtual 157, 3) := by decide +kernel
theorem dX5_valueWithout_29 : decode cX5_valueWithout 29 = .ok (.ifCond .ne 13, 3) := by decide +kernel
theorem dX5_valueWithout_32 : decode cX5_valueWithout 32 = .ok (.new 200, 3) := by decide +kernel
theorem dX5_valueWithout_35 : decode cX5_valueWithout 35 = .ok (.dup, 1) := by decide +kernel
theorem dX5_valueWithout_36 : decode cX5_valueWithout 36 = .ok (.ldc 219, 2) := by decide +kernel
theorem dX5_valueWithout_38 : decode cX5_valueWithout 38 = .ok (.invokespecial 204, 3) := by decide +kernel
theorem dX5_valueWithout_41 : decode cX5_valueWithout 41 = .ok (.athrow, 1) := by decide +kernel
theorem dX5_valueWithout_42 : decode cX5_valueWithout 42 = .ok (.aload_n 0, 1) := by decide +kernel
theorem dX5_valueWithout_43 : decode cX5_valueWithout 43 = .ok (.getfield 10, 3) := by decide +kernel
theorem dX5_valueWithout_46 : decode cX5_valueWithout 46 = .ok (.iload_n 1, 1) := by decide +kernel
theorem dX5_valueWithout_47 : decode cX5_valueWithout 47 = .ok (.invokevirtual 224, 3) := by decide +kernel
theorem dX5_valueWithout_50 : decode cX5_valueWithout 50 = .ok (.invokestatic 189, 3) := by decide +kernel
theorem dX5_valueWithout_53 : decode cX5_valueWithout 53 = .ok (.aload_n 0, 1) := by decide +kernel
