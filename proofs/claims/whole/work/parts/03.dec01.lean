theorem dX1_keep_20 : decode cX1_keep 20 = .ok (.getfield 11, 3) := by decide +kernel
theorem dX1_keep_23 : decode cX1_keep 23 = .ok (.arraylength, 1) := by decide +kernel
theorem dX1_keep_24 : decode cX1_keep 24 = .ok (.if_icmp .ge 12, 3) := by decide +kernel
theorem dX1_keep_27 : decode cX1_keep 27 = .ok (.aload_n 0, 1) := by decide +kernel
theorem dX1_keep_28 : decode cX1_keep 28 = .ok (.getfield 17, 3) := by decide +kernel
theorem dX1_keep_31 : decode cX1_keep 31 = .ok (.iconst 1, 1) := by decide +kernel
theorem dX1_keep_32 : decode cX1_keep 32 = .ok (.iadd, 1) := by decide +kernel
theorem dX1_keep_33 : decode cX1_keep 33 = .ok (.goto 4, 3) := by decide +kernel
theorem dX1_keep_36 : decode cX1_keep 36 = .ok (.iconst 0, 1) := by decide +kernel
theorem dX1_keep_37 : decode cX1_keep 37 = .ok (.putfield 17, 3) := by decide +kernel
theorem dX1_keep_40 : decode cX1_keep 40 = .ok (.aload_n 0, 1) := by decide +kernel
theorem dX1_keep_41 : decode cX1_keep 41 = .ok (.aload_n 0, 1) := by decide +kernel
theorem dX1_keep_42 : decode cX1_keep 42 = .ok (.getfield 25, 3) := by decide +kernel
theorem dX1_keep_45 : decode cX1_keep 45 = .ok (.iconst 1, 1) := by decide +kernel
theorem dX1_keep_46 : decode cX1_keep 46 = .ok (.iadd, 1) := by decide +kernel
theorem dX1_keep_47 : decode cX1_keep 47 = .ok (.aload_n 0, 1) := by decide +kernel
theorem dX1_keep_48 : decode cX1_keep 48 = .ok (.getfield 11, 3) := by decide +kernel
theorem dX1_keep_51 : decode cX1_keep 51 = .ok (.arraylength, 1) := by decide +kernel
theorem dX1_keep_52 : decode cX1_keep 52 = .ok (.invokestatic 28, 3) := by decide +kernel
theorem dX1_keep_55 : decode cX1_keep 55 = .ok (.putfield 25, 3) := by decide +kernel
theorem dX1_keep_58 : decode cX1_keep 58 = .ok (.return_, 1) := by decide +kernel
theorem dX1_bringBack_0 : decode cX1_bringBack 0 = .ok (.aload_n 0, 1) := by decide +kernel
theorem dX1_bringBack_1 : decode cX1_bringBack 1 = .ok (.getfield 17, 3) := by decide +kernel
theorem dX1_bringBack_4 : decode cX1_bringBack 4 = .ok (.ifCond .le 12, 3) := by decide +kernel
theorem dX1_bringBack_7 : decode cX1_bringBack 7 = .ok (.aload_n 0, 1) := by decide +kernel
theorem dX1_bringBack_8 : decode cX1_bringBack 8 = .ok (.getfield 17, 3) := by decide +kernel
theorem dX1_bringBack_11 : decode cX1_bringBack 11 = .ok (.iconst 1, 1) := by decide +kernel
theorem dX1_bringBack_12 : decode cX1_bringBack 12 = .ok (.isub, 1) := by decide +kernel
theorem dX1_bringBack_13 : decode cX1_bringBack 13 = .ok (.goto 10, 3) := by decide +kernel
theorem dX1_bringBack_16 : decode cX1_bringBack 16 = .ok (.aload_n 0, 1) := by decide +kernel
theorem dX1_bringBack_17 : decode cX1_bringBack 17 = .ok (.getfield 11, 3) := by decide +kernel
theorem dX1_bringBack_20 : decode cX1_bringBack 20 = .ok (.arraylength, 1) := by decide +kernel
theorem dX1_bringBack_21 : decode cX1_bringBack 21 = .ok (.iconst 1, 1) := by decide +kernel
theorem dX1_bringBack_22 : decode cX1_bringBack 22 = .ok (.isub, 1) := by decide +kernel
theorem dX1_bringBack_23 : decode cX1_bringBack 23 = .ok (.istore_n 2, 1) := by decide +kernel
theorem dX1_bringBack_24 : decode cX1_bringBack 24 = .ok (.iload_n 2, 1) := by decide +kernel
theorem dX1_bringBack_25 : decode cX1_bringBack 25 = .ok (.ifCond .lt 16, 3) := by decide +kernel
theorem dX1_bringBack_28 : decode cX1_bringBack 28 = .ok (.iload_n 2, 1) := by decide +kernel
theorem dX1_bringBack_29 : decode cX1_bringBack 29 = .ok (.aload_n 0, 1) := by decide +kernel
theorem dX1_bringBack_30 : decode cX1_bringBack 30 = .ok (.getfield 11, 3) := by decide +kernel
theorem dX1_bringBack_33 : decode cX1_bringBack 33 = .ok (.arraylength, 1) := by decide +kernel
theorem dX1_bringBack_34 : decode cX1_bringBack 34 = .ok (.if_icmp .ge 7, 3) := by decide +kernel
theorem dX1_bringBack_37 : decode cX1_bringBack 37 = .ok (.iconst 1, 1) := by decide +kernel
theorem dX1_bringBack_38 : decode cX1_bringBack 38 = .ok (.goto 4, 3) := by decide +kernel
theorem dX1_bringBack_41 : decode cX1_bringBack 41 = .ok (.iconst 0, 1) := by decide +kernel
theorem dX1_bringBack_42 : decode cX1_bringBack 42 = .ok (.istore_n 3, 1) := by decide +kernel
theorem dX1_bringBack_43 : decode cX1_bringBack 43 = .ok (.aload_n 0, 1) := by decide +kernel
theorem dX1_bringBack_44 : decode cX1_bringBack 44 = .ok (.getfield 25, 3) := by decide +kernel
theorem dX1_bringBack_47 : decode cX1_bringBack 47 = .ok (.ifCond .le 41, 3) := by decide +kernel
theorem dX1_bringBack_50 : decode cX1_bringBack 50 = .ok (.iload_n 3, 1) := by decide +kernel
theorem dX1_bringBack_51 : decode cX1_bringBack 51 = .ok (.ifCond .eq 37, 3) := by decide +kernel
theorem dX1_bringBack_54 : decode cX1_bringBack 54 = .ok (.aload_n 0, 1) := by decide +kernel
theorem dX1_bringBack_55 : decode cX1_bringBack 55 = .ok (.getfield 11, 3) := by decide +kernel
theorem dX1_bringBack_58 : decode cX1_bringBack 58 = .ok (.iload_n 2, 1) := by decide +kernel
theorem dX1_bringBack_59 : decode cX1_bringBack 59 = .ok (.aaload, 1) := by decide +kernel
theorem dX1_bringBack_60 : decode cX1_bringBack 60 = .ok (.ifnull 28, 3) := by decide +kernel
theorem dX1_bringBack_63 : decode cX1_bringBack 63 = .ok (.aload_n 1, 1) := by decide +kernel
theorem dX1_bringBack_64 : decode cX1_bringBack 64 = .ok (.aload_n 0, 1) := by decide +kernel
theorem dX1_bringBack_65 : decode cX1_bringBack 65 = .ok (.getfield 11, 3) := by decide +kernel
theorem dX1_bringBack_68 : decode cX1_bringBack 68 = .ok (.iload_n 2, 1) := by decide +kernel
theorem dX1_bringBack_69 : decode cX1_bringBack 69 = .ok (.aaload, 1) := by decide +kernel
theorem dX1_bringBack_70 : decode cX1_bringBack 70 = .ok (.invokevirtual 34, 3) := by decide +kernel
theorem dX1_bringBack_73 : decode cX1_bringBack 73 = .ok (.aload_n 0, 1) := by decide +kernel
theorem dX1_bringBack_74 : decode cX1_bringBack 74 = .ok (.iload_n 2, 1) := by decide +kernel
theorem dX1_bringBack_75 : decode cX1_bringBack 75 = .ok (.putfield 17, 3) := by decide +kernel
theorem dX1_bringBack_78 : decode cX1_bringBack 78 = .ok (.aload_n 0, 1) := by decide +kernel
theorem dX1_bringBack_79 : decode cX1_bringBack 79 = .ok (.dup, 1) := by decide +kernel
theorem dX1_bringBack_80 : decode cX1_bringBack 80 = .ok (.getfield 25, 3) := by decide +kernel
theorem dX1_bringBack_83 : decode cX1_bringBack 83 = .ok (.iconst 1, 1) := by decide +kernel
theorem dX1_bringBack_84 : decode cX1_bringBack 84 = .ok (.isub, 1) := by decide +kernel
theorem dX1_bringBack_85 : decode cX1_bringBack 85 = .ok (.putfield 25, 3) := by decide +kernel
theorem dX1_bringBack_88 : decode cX1_bringBack 88 = .ok (.return_, 1) := by decide +kernel
theorem dX2_init_0 : decode cX2_init 0 = .ok (.aload_n 0, 1) := by decide +kernel
theorem dX2_init_1 : decode cX2_init 1 = .ok (.invokespecial 3, 3) := by decide +kernel
theorem dX2_init_4 : decode cX2_init 4 = .ok (.aload_n 0, 1) := by decide +kernel
theorem dX2_init_5 : decode cX2_init 5 = .ok (.aload_n 1, 1) := by decide +kernel
theorem dX2_init_6 : decode cX2_init 6 = .ok (.putfield 9, 3) := by decide +kernel
theorem dX2_init_9 : decode cX2_init 9 = .ok (.aload_n 0, 1) := by decide +kernel
theorem dX2_init_10 : decode cX2_init 10 = .ok (.iload_n 2, 1) := by decide +kernel
theorem dX2_init_11 : decode cX2_init 11 = .ok (.putfield 15, 3) := by decide +kernel
theorem dX2_init_14 : decode cX2_init 14 = .ok (.aload_n 0, 1) := by decide +kernel
theorem dX2_init_15 : decode cX2_init 15 = .ok (.iload_n 3, 1) := by decide +kernel
theorem dX2_init_16 : decode cX2_init 16 = .ok (.putfield 19, 3) := by decide +kernel
theorem dX2_init_19 : decode cX2_init 19 = .ok (.aload_n 0, 1) := by decide +kernel
theorem dX2_init_20 : decode cX2_init 20 = .ok (.iload 4, 2) := by decide +kernel
theorem dX2_init_22 : decode cX2_init 22 = .ok (.putfield 22, 3) := by decide +kernel
theorem dX2_init_25 : decode cX2_init 25 = .ok (.aload_n 0, 1) := by decide +kernel
theorem dX2_init_26 : decode cX2_init 26 = .ok (.iload 5, 2) := by decide +kernel
theorem dX2_init_28 : decode cX2_init 28 = .ok (.putfield 25, 3) := by decide +kernel
theorem dX2_init_31 : decode cX2_init 31 = .ok (.return_, 1) := by decide +kernel
theorem dX2_countsAs_0 : decode cX2_countsAs 0 = .ok (.iload_n 1, 1) := by decide +kernel
theorem dX2_countsAs_1 : decode cX2_countsAs 1 = .ok (.tableswitch 102 0 3 #[31, 45, 59, 81], 31) := by decide +kernel
theorem dX2_countsAs_32 : decode cX2_countsAs 32 = .ok (.aload_n 0, 1) := by decide +kernel
theorem dX2_countsAs_33 : decode cX2_countsAs 33 = .ok (.getfield 15, 3) := by decide +kernel
theorem dX2_countsAs_36 : decode cX2_countsAs 36 = .ok (.iconst (-1), 1) := by decide +kernel
theorem dX2_countsAs_37 : decode cX2_countsAs 37 = .ok (.if_icmp .eq 7, 3) := by decide +kernel
theorem dX2_countsAs_40 : decode cX2_countsAs 40 = .ok (.iconst 1, 1) := by decide +kernel
theorem dX2_countsAs_41 : decode cX2_countsAs 41 = .ok (.goto 4, 3) := by decide +kernel
theorem dX2_countsAs_44 : decode cX2_countsAs 44 = .ok (.iconst 0, 1) := by decide +kernel
theorem dX2_countsAs_45 : decode cX2_countsAs 45 = .ok (.ireturn, 1) := by decide +kernel
theorem dX2_countsAs_46 : decode cX2_countsAs 46 = .ok (.aload_n 0, 1) := by decide +kernel
theorem dX2_countsAs_47 : decode cX2_countsAs 47 = .ok (.getfield 15, 3) := by decide +kernel
theorem dX2_countsAs_50 : decode cX2_countsAs 50 = .ok (.iconst (-1), 1) := by decide +kernel
theorem dX2_countsAs_51 : decode cX2_countsAs 51 = .ok (.if_icmp .ne 7, 3) := by decide +kernel
theorem dX2_countsAs_54 : decode cX2_countsAs 54 = .ok (.iconst 1, 1) := by decide +kernel
theorem dX2_countsAs_55 : decode cX2_countsAs 55 = .ok (.goto 4, 3) := by decide +kernel
theorem dX2_countsAs_58 : decode cX2_countsAs 58 = .ok (.iconst 0, 1) := by decide +kernel
theorem dX2_countsAs_59 : decode cX2_countsAs 59 = .ok (.ireturn, 1) := by decide +kernel
theorem dX2_countsAs_60 : decode cX2_countsAs 60 = .ok (.aload_n 0, 1) := by decide +kernel
theorem dX2_countsAs_61 : decode cX2_countsAs 61 = .ok (.getfield 15, 3) := by decide +kernel
theorem dX2_countsAs_64 : decode cX2_countsAs 64 = .ok (.iconst (-1), 1) := by decide +kernel
theorem dX2_countsAs_65 : decode cX2_countsAs 65 = .ok (.if_icmp .eq 15, 3) := by decide +kernel
theorem dX2_countsAs_68 : decode cX2_countsAs 68 = .ok (.aload_n 0, 1) := by decide +kernel
theorem dX2_countsAs_69 : decode cX2_countsAs 69 = .ok (.getfield 25, 3) := by decide +kernel
theorem dX2_countsAs_72 : decode cX2_countsAs 72 = .ok (.iconst 2, 1) := by decide +kernel
theorem dX2_countsAs_73 : decode cX2_countsAs 73 = .ok (.if_icmp .lt 7, 3) := by decide +kernel
theorem dX2_countsAs_76 : decode cX2_countsAs 76 = .ok (.iconst 1, 1) := by decide +kernel
theorem dX2_countsAs_77 : decode cX2_countsAs 77 = .ok (.goto 4, 3) := by decide +kernel
theorem dX2_countsAs_80 : decode cX2_countsAs 80 = .ok (.iconst 0, 1) := by decide +kernel
theorem dX2_countsAs_81 : decode cX2_countsAs 81 = .ok (.ireturn, 1) := by decide +kernel
theorem dX2_countsAs_82 : decode cX2_countsAs 82 = .ok (.aload_n 0, 1) := by decide +kernel
theorem dX2_countsAs_83 : decode cX2_countsAs 83 = .ok (.getfield 15, 3) := by decide +kernel
theorem dX2_countsAs_86 : decode cX2_countsAs 86 = .ok (.iconst (-1), 1) := by decide +kernel
theorem dX2_countsAs_87 : decode cX2_countsAs 87 = .ok (.if_icmp .eq 14, 3) := by decide +kernel
theorem dX2_countsAs_90 : decode cX2_countsAs 90 = .ok (.aload_n 0, 1) := by decide +kernel
theorem dX2_countsAs_91 : decode cX2_countsAs 91 = .ok (.getfield 25, 3) := by decide +kernel
theorem dX2_countsAs_94 : decode cX2_countsAs 94 = .ok (.ifCond .ne 7, 3) := by decide +kernel
theorem dX2_countsAs_97 : decode cX2_countsAs 97 = .ok (.iconst 1, 1) := by decide +kernel
theorem dX2_countsAs_98 : decode cX2_countsAs 98 = .ok (.goto 4, 3) := by decide +kernel
theorem dX2_countsAs_101 : decode cX2_countsAs 101 = .ok (.iconst 0, 1) := by decide +kernel
theorem dX2_countsAs_102 : decode cX2_countsAs 102 = .ok (.ireturn, 1) := by decide +kernel
theorem dX2_countsAs_103 : decode cX2_countsAs 103 = .ok (.iconst 0, 1) := by decide +kernel
theorem dX2_countsAs_104 : decode cX2_countsAs 104 = .ok (.ireturn, 1) := by decide +kernel
theorem dX3_init_0 : decode cX3_init 0 = .ok (.aload_n 0, 1) := by decide +kernel
theorem dX3_init_1 : decode cX3_init 1 = .ok (.invokespecial 3, 3) := by decide +kernel
theorem dX3_init_4 : decode cX3_init 4 = .ok (.aload_n 0, 1) := by decide +kernel
theorem dX3_init_5 : decode cX3_init 5 = .ok (.new 9, 3) := by decide +kernel
theorem dX3_init_8 : decode cX3_init 8 = .ok (.dup, 1) := by decide +kernel
theorem dX3_init_9 : decode cX3_init 9 = .ok (.invokespecial 11, 3) := by decide +kernel
theorem dX3_init_12 : decode cX3_init 12 = .ok (.putfield 12, 3) := by decide +kernel
theorem dX3_init_15 : decode cX3_init 15 = .ok (.aload_n 0, 1) := by decide +kernel
theorem dX3_init_16 : decode cX3_init 16 = .ok (.iconst (-1), 1) := by decide +kernel
theorem dX3_init_17 : decode cX3_init 17 = .ok (.putfield 18, 3) := by decide +kernel
theorem dX3_init_20 : decode cX3_init 20 = .ok (.aload_n 0, 1) := by decide +kernel
theorem dX3_init_21 : decode cX3_init 21 = .ok (.sipush 500, 3) := by decide +kernel
theorem dX3_init_24 : decode cX3_init 24 = .ok (.newarray .byte, 2) := by decide +kernel
theorem dX3_init_26 : decode cX3_init 26 = .ok (.putfield 22, 3) := by decide +kernel
theorem dX3_init_29 : decode cX3_init 29 = .ok (.return_, 1) := by decide +kernel
theorem dX3_addFour_0 : decode cX3_addFour 0 = .ok (.bipush 24, 2) := by decide +kernel
theorem dX3_addFour_2 : decode cX3_addFour 2 = .ok (.istore_n 2, 1) := by decide +kernel
theorem dX3_addFour_3 : decode cX3_addFour 3 = .ok (.iload_n 2, 1) := by decide +kernel
theorem dX3_addFour_4 : decode cX3_addFour 4 = .ok (.ifCond .lt 51, 3) := by decide +kernel
theorem dX3_addFour_7 : decode cX3_addFour 7 = .ok (.aload_n 0, 1) := by decide +kernel
theorem dX3_addFour_8 : decode cX3_addFour 8 = .ok (.getfield 26, 3) := by decide +kernel
theorem dX3_addFour_11 : decode cX3_addFour 11 = .ok (.ifCond .lt 38, 3) := by decide +kernel
theorem dX3_addFour_14 : decode cX3_addFour 14 = .ok (.aload_n 0, 1) := by decide +kernel
theorem dX3_addFour_15 : decode cX3_addFour 15 = .ok (.getfield 26, 3) := by decide +kernel
theorem dX3_addFour_18 : decode cX3_addFour 18 = .ok (.aload_n 0, 1) := by decide +kernel
theorem dX3_addFour_19 : decode cX3_addFour 19 = .ok (.getfield 22, 3) := by decide +kernel
theorem dX3_addFour_22 : decode cX3_addFour 22 = .ok (.arraylength, 1) := by decide +kernel
theorem dX3_addFour_23 : decode cX3_addFour 23 = .ok (.if_icmp .ge 26, 3) := by decide +kernel
theorem dX3_addFour_26 : decode cX3_addFour 26 = .ok (.aload_n 0, 1) := by decide +kernel
theorem dX3_addFour_27 : decode cX3_addFour 27 = .ok (.getfield 22, 3) := by decide +kernel
theorem dX3_addFour_30 : decode cX3_addFour 30 = .ok (.aload_n 0, 1) := by decide +kernel
theorem dX3_addFour_31 : decode cX3_addFour 31 = .ok (.getfield 26, 3) := by decide +kernel
theorem dX3_addFour_34 : decode cX3_addFour 34 = .ok (.iload_n 1, 1) := by decide +kernel
theorem dX3_addFour_35 : decode cX3_addFour 35 = .ok (.iload_n 2, 1) := by decide +kernel
theorem dX3_addFour_36 : decode cX3_addFour 36 = .ok (.iushr, 1) := by decide +kernel
theorem dX3_addFour_37 : decode cX3_addFour 37 = .ok (.i2b, 1) := by decide +kernel
theorem dX3_addFour_38 : decode cX3_addFour 38 = .ok (.bastore, 1) := by decide +kernel
theorem dX3_addFour_39 : decode cX3_addFour 39 = .ok (.aload_n 0, 1) := by decide +kernel
theorem dX3_addFour_40 : decode cX3_addFour 40 = .ok (.dup, 1) := by decide +kernel
theorem dX3_addFour_41 : decode cX3_addFour 41 = .ok (.getfield 26, 3) := by decide +kernel
theorem dX3_addFour_44 : decode cX3_addFour 44 = .ok (.iconst 1, 1) := by decide +kernel
theorem dX3_addFour_45 : decode cX3_addFour 45 = .ok (.iadd, 1) := by decide +kernel
theorem dX3_addFour_46 : decode cX3_addFour 46 = .ok (.putfield 26, 3) := by decide +kernel
theorem dX3_addFour_49 : decode cX3_addFour 49 = .ok (.iinc 2 (-8), 3) := by decide +kernel
theorem dX3_addFour_52 : decode cX3_addFour 52 = .ok (.goto (-49), 3) := by decide +kernel
theorem dX3_addFour_55 : decode cX3_addFour 55 = .ok (.return_, 1) := by decide +kernel
theorem dX3_readText_0 : decode cX3_readText 0 = .ok (.aload_n 0, 1) := by decide +kernel
theorem dX3_readText_1 : decode cX3_readText 1 = .ok (.iload_n 1, 1) := by decide +kernel
theorem dX3_readText_2 : decode cX3_readText 2 = .ok (.putfield 29, 3) := by decide +kernel
theorem dX3_readText_5 : decode cX3_readText 5 = .ok (.aload_n 0, 1) := by decide +kernel
theorem dX3_readText_6 : decode cX3_readText 6 = .ok (.iconst (-1), 1) := by decide +kernel
theorem dX3_readText_7 : decode cX3_readText 7 = .ok (.putfield 18, 3) := by decide +kernel
theorem dX3_readText_10 : decode cX3_readText 10 = .ok (.aload_n 0, 1) := by decide +kernel
theorem dX3_readText_11 : decode cX3_readText 11 = .ok (.iconst 0, 1) := by decide +kernel
theorem dX3_readText_12 : decode cX3_readText 12 = .ok (.putfield 32, 3) := by decide +kernel
theorem dX3_readText_15 : decode cX3_readText 15 = .ok (.aload_n 0, 1) := by decide +kernel
theorem dX3_readText_16 : decode cX3_readText 16 = .ok (.invokevirtual 35, 3) := by decide +kernel
theorem dX3_readText_19 : decode cX3_readText 19 = .ok (.aload_n 0, 1) := by decide +kernel
theorem dX3_readText_20 : decode cX3_readText 20 = .ok (.invokevirtual 38, 3) := by decide +kernel
theorem dX3_readText_23 : decode cX3_readText 23 = .ok (.ifCond .eq 35, 3) := by decide +kernel
theorem dX3_readText_26 : decode cX3_readText 26 = .ok (.aload_n 0, 1) := by decide +kernel
theorem dX3_readText_27 : decode cX3_readText 27 = .ok (.invokevirtual 42, 3) := by decide +kernel
theorem dX3_readText_30 : decode cX3_readText 30 = .ok (.ifCond .eq 28, 3) := by decide +kernel
theorem dX3_readText_33 : decode cX3_readText 33 = .ok (.aload_n 0, 1) := by decide +kernel
theorem dX3_readText_34 : decode cX3_readText 34 = .ok (.invokevirtual 45, 3) := by decide +kernel
theorem dX3_readText_37 : decode cX3_readText 37 = .ok (.ifCond .eq 21, 3) := by decide +kernel
theorem dX3_readText_40 : decode cX3_readText 40 = .ok (.aload_n 0, 1) := by decide +kernel
theorem dX3_readText_41 : decode cX3_readText 41 = .ok (.invokevirtual 48, 3) := by decide +kernel
theorem dX3_readText_44 : decode cX3_readText 44 = .ok (.ifCond .eq 14, 3) := by decide +kernel
theorem dX3_readText_47 : decode cX3_readText 47 = .ok (.aload_n 0, 1) := by decide +kernel
theorem dX3_readText_48 : decode cX3_readText 48 = .ok (.invokevirtual 51, 3) := by decide +kernel
theorem dX3_readText_51 : decode cX3_readText 51 = .ok (.ifCond .eq 7, 3) := by decide +kernel
theorem dX3_readText_54 : decode cX3_readText 54 = .ok (.iconst 1, 1) := by decide +kernel
theorem dX3_readText_55 : decode cX3_readText 55 = .ok (.goto 4, 3) := by decide +kernel
theorem dX3_readText_58 : decode cX3_readText 58 = .ok (.iconst 0, 1) := by decide +kernel
theorem dX3_readText_59 : decode cX3_readText 59 = .ok (.istore_n 2, 1) := by decide +kernel
theorem dX3_readText_60 : decode cX3_readText 60 = .ok (.aload_n 0, 1) := by decide +kernel
theorem dX3_readText_61 : decode cX3_readText 61 = .ok (.iconst 0, 1) := by decide +kernel
theorem dX3_readText_62 : decode cX3_readText 62 = .ok (.putfield 26, 3) := by decide +kernel
theorem dX3_readText_65 : decode cX3_readText 65 = .ok (.iload_n 2, 1) := by decide +kernel
theorem dX3_readText_66 : decode cX3_readText 66 = .ok (.ifCond .eq 7, 3) := by decide +kernel
theorem dX3_readText_69 : decode cX3_readText 69 = .ok (.iconst 0, 1) := by decide +kernel
theorem dX3_readText_70 : decode cX3_readText 70 = .ok (.goto 7, 3) := by decide +kernel
theorem dX3_readText_73 : decode cX3_readText 73 = .ok (.aload_n 0, 1) := by decide +kernel
theorem dX3_readText_74 : decode cX3_readText 74 = .ok (.getfield 54, 3) := by decide +kernel
theorem dX3_readText_77 : decode cX3_readText 77 = .ok (.ireturn, 1) := by decide +kernel
theorem dX3_readHead_0 : decode cX3_readHead 0 = .ok (.aload_n 0, 1) := by decide +kernel
theorem dX3_readHead_1 : decode cX3_readHead 1 = .ok (.ldc 57, 2) := by decide +kernel
theorem dX3_readHead_3 : decode cX3_readHead 3 = .ok (.invokevirtual 59, 3) := by decide +kernel
theorem dX3_readHead_6 : decode cX3_readHead 6 = .ok (.ifCond .ne 5, 3) := by decide +kernel
theorem dX3_readHead_9 : decode cX3_readHead 9 = .ok (.iconst 0, 1) := by decide +kernel
theorem dX3_readHead_10 : decode cX3_readHead 10 = .ok (.ireturn, 1) := by decide +kernel
theorem dX3_readHead_11 : decode cX3_readHead 11 = .ok (.aload_n 0, 1) := by decide +kernel
theorem dX3_readHead_12 : decode cX3_readHead 12 = .ok (.iconst 1, 1) := by decide +kernel
theorem dX3_readHead_13 : decode cX3_readHead 13 = .ok (.iconst 3, 1) := by decide +kernel
theorem dX3_readHead_14 : decode cX3_readHead 14 = .ok (.invokevirtual 63, 3) := by decide +kernel
theorem dX3_readHead_17 : decode cX3_readHead 17 = .ok (.istore_n 1, 1) := by decide +kernel
theorem dX3_readHead_18 : decode cX3_readHead 18 = .ok (.iload_n 1, 1) := by decide +kernel
theorem dX3_readHead_19 : decode cX3_readHead 19 = .ok (.iconst (-1), 1) := by decide +kernel
theorem dX3_readHead_20 : decode cX3_readHead 20 = .ok (.if_icmp .ne 5, 3) := by decide +kernel
theorem dX3_readHead_23 : decode cX3_readHead 23 = .ok (.iconst 0, 1) := by decide +kernel
theorem dX3_readHead_24 : decode cX3_readHead 24 = .ok (.ireturn, 1) := by decide +kernel
theorem dX3_readHead_25 : decode cX3_readHead 25 = .ok (.aload_n 0, 1) := by decide +kernel
theorem dX3_readHead_26 : decode cX3_readHead 26 = .ok (.getfield 12, 3) := by decide +kernel
theorem dX3_readHead_29 : decode cX3_readHead 29 = .ok (.iload_n 1, 1) := by decide +kernel
theorem dX3_readHead_30 : decode cX3_readHead 30 = .ok (.invokevirtual 67, 3) := by decide +kernel
theorem dX3_readHead_33 : decode cX3_readHead 33 = .ok (.aload_n 0, 1) := by decide +kernel
theorem dX3_readHead_34 : decode cX3_readHead 34 = .ok (.ldc 71, 2) := by decide +kernel
theorem dX3_readHead_36 : decode cX3_readHead 36 = .ok (.invokevirtual 73, 3) := by decide +kernel
theorem dX3_readHead_39 : decode cX3_readHead 39 = .ok (.ifCond .eq 30, 3) := by decide +kernel
theorem dX3_readHead_42 : decode cX3_readHead 42 = .ok (.aload_n 0, 1) := by decide +kernel
theorem dX3_readHead_43 : decode cX3_readHead 43 = .ok (.invokevirtual 35, 3) := by decide +kernel
theorem dX3_readHead_46 : decode cX3_readHead 46 = .ok (.aload_n 0, 1) := by decide +kernel
theorem dX3_readHead_47 : decode cX3_readHead 47 = .ok (.iconst 0, 1) := by decide +kernel
theorem dX3_readHead_48 : decode cX3_readHead 48 = .ok (.bipush 9, 2) := by decide +kernel
theorem dX3_readHead_50 : decode cX3_readHead 50 = .ok (.invokevirtual 63, 3) := by decide +kernel
theorem dX3_readHead_53 : decode cX3_readHead 53 = .ok (.istore_n 2, 1) := by decide +kernel
theorem dX3_readHead_54 : decode cX3_readHead 54 = .ok (.iload_n 2, 1) := by decide +kernel
theorem dX3_readHead_55 : decode cX3_readHead 55 = .ok (.iconst (-1), 1) := by decide +kernel
theorem dX3_readHead_56 : decode cX3_readHead 56 = .ok (.if_icmp .ne 5, 3) := by decide +kernel
theorem dX3_readHead_59 : decode cX3_readHead 59 = .ok (.iconst 0, 1) := by decide +kernel
theorem dX3_readHead_60 : decode cX3_readHead 60 = .ok (.ireturn, 1) := by decide +kernel
theorem dX3_readHead_61 : decode cX3_readHead 61 = .ok (.aload_n 0, 1) := by decide +kernel
theorem dX3_readHead_62 : decode cX3_readHead 62 = .ok (.getfield 12, 3) := by decide +kernel
theorem dX3_readHead_65 : decode cX3_readHead 65 = .ok (.iload_n 2, 1) := by decide +kernel
theorem dX3_readHead_66 : decode cX3_readHead 66 = .ok (.putfield 76, 3) := by decide +kernel
theorem dX3_readHead_69 : decode cX3_readHead 69 = .ok (.aload_n 0, 1) := by decide +kernel
theorem dX3_readHead_70 : decode cX3_readHead 70 = .ok (.invokevirtual 78, 3) := by decide +kernel
theorem dX3_readHead_73 : decode cX3_readHead 73 = .ok (.ireturn, 1) := by decide +kernel
theorem dX3_readVertices_0 : decode cX3_readVertices 0 = .ok (.aload_n 0, 1) := by decide +kernel
theorem dX3_readVertices_1 : decode cX3_readVertices 1 = .ok (.invokevirtual 81, 3) := by decide +kernel
theorem dX3_readVertices_4 : decode cX3_readVertices 4 = .ok (.istore_n 1, 1) := by decide +kernel
theorem dX3_readVertices_5 : decode cX3_readVertices 5 = .ok (.iconst 0, 1) := by decide +kernel
theorem dX3_readVertices_6 : decode cX3_readVertices 6 = .ok (.istore_n 2, 1) := by decide +kernel
theorem dX3_readVertices_7 : decode cX3_readVertices 7 = .ok (.iload_n 2, 1) := by decide +kernel
theorem dX3_readVertices_8 : decode cX3_readVertices 8 = .ok (.bipush 9, 2) := by decide +kernel
theorem dX3_readVertices_10 : decode cX3_readVertices 10 = .ok (.if_icmp .ge 27, 3) := by decide +kernel
theorem dX3_readVertices_13 : decode cX3_readVertices 13 = .ok (.iload_n 1, 1) := by decide +kernel
theorem dX3_readVertices_14 : decode cX3_readVertices 14 = .ok (.ifCond .eq 23, 3) := by decide +kernel
theorem dX3_readVertices_17 : decode cX3_readVertices 17 = .ok (.aload_n 0, 1) := by decide +kernel
theorem dX3_readVertices_18 : decode cX3_readVertices 18 = .ok (.ldc 84, 2) := by decide +kernel
theorem dX3_readVertices_20 : decode cX3_readVertices 20 = .ok (.invokevirtual 73, 3) := by decide +kernel
theorem dX3_readVertices_23 : decode cX3_readVertices 23 = .ok (.ifCond .eq 14, 3) := by decide +kernel
theorem dX3_readVertices_26 : decode cX3_readVertices 26 = .ok (.aload_n 0, 1) := by decide +kernel
theorem dX3_readVertices_27 : decode cX3_readVertices 27 = .ok (.invokevirtual 81, 3) := by decide +kernel
theorem dX3_readVertices_30 : decode cX3_readVertices 30 = .ok (.istore_n 1, 1) := by decide +kernel
theorem dX3_readVertices_31 : decode cX3_readVertices 31 = .ok (.iinc 2 1, 3) := by decide +kernel
theorem dX3_readVertices_34 : decode cX3_readVertices 34 = .ok (.goto (-27), 3) := by decide +kernel
theorem dX3_readVertices_37 : decode cX3_readVertices 37 = .ok (.iload_n 1, 1) := by decide +kernel
theorem dX3_readVertices_38 : decode cX3_readVertices 38 = .ok (.ireturn, 1) := by decide +kernel
theorem dX3_readVertex_0 : decode cX3_readVertex 0 = .ok (.aload_n 0, 1) := by decide +kernel
theorem dX3_readVertex_1 : decode cX3_readVertex 1 = .ok (.ldc 84, 2) := by decide +kernel
theorem dX3_readVertex_3 : decode cX3_readVertex 3 = .ok (.invokevirtual 73, 3) := by decide +kernel
theorem dX3_readVertex_6 : decode cX3_readVertex 6 = .ok (.ifCond .eq 20, 3) := by decide +kernel
theorem dX3_readVertex_9 : decode cX3_readVertex 9 = .ok (.aload_n 0, 1) := by decide +kernel
theorem dX3_readVertex_10 : decode cX3_readVertex 10 = .ok (.getfield 12, 3) := by decide +kernel
theorem dX3_readVertex_13 : decode cX3_readVertex 13 = .ok (.invokevirtual 86, 3) := by decide +kernel
theorem dX3_readVertex_16 : decode cX3_readVertex 16 = .ok (.ifCond .eq 10, 3) := by decide +kernel
theorem dX3_readVertex_19 : decode cX3_readVertex 19 = .ok (.aload_n 0, 1) := by decide +kernel
theorem dX3_readVertex_20 : decode cX3_readVertex 20 = .ok (.bipush (-6), 2) := by decide +kernel
theorem dX3_readVertex_22 : decode cX3_readVertex 22 = .ok (.invokevirtual 89, 3) := by decide +kernel
theorem dX3_readVertex_25 : decode cX3_readVertex 25 = .ok (.ireturn, 1) := by decide +kernel
theorem dX3_readVertex_26 : decode cX3_readVertex 26 = .ok (.aload_n 0, 1) := by decide +kernel
theorem dX3_readVertex_27 : decode cX3_readVertex 27 = .ok (.ldc 84, 2) := by decide +kernel
theorem dX3_readVertex_29 : decode cX3_readVertex 29 = .ok (.invokevirtual 59, 3) := by decide +kernel
theorem dX3_readVertex_32 : decode cX3_readVertex 32 = .ok (.ifCond .ne 5, 3) := by decide +kernel
theorem dX3_readVertex_35 : decode cX3_readVertex 35 = .ok (.iconst 0, 1) := by decide +kernel
theorem dX3_readVertex_36 : decode cX3_readVertex 36 = .ok (.ireturn, 1) := by decide +kernel
theorem dX3_readVertex_37 : decode cX3_readVertex 37 = .ok (.aload_n 0, 1) := by decide +kernel
theorem dX3_readVertex_38 : decode cX3_readVertex 38 = .ok (.getfield 12, 3) := by decide +kernel
theorem dX3_readVertex_41 : decode cX3_readVertex 41 = .ok (.invokevirtual 93, 3) := by decide +kernel
theorem dX3_readVertex_44 : decode cX3_readVertex 44 = .ok (.istore_n 1, 1) := by decide +kernel
theorem dX3_readVertex_45 : decode cX3_readVertex 45 = .ok (.aload_n 0, 1) := by decide +kernel
theorem dX3_readVertex_46 : decode cX3_readVertex 46 = .ok (.getfield 97, 3) := by decide +kernel
theorem dX3_readVertex_49 : decode cX3_readVertex 49 = .ok (.iconst 1, 1) := by decide +kernel
theorem dX3_readVertex_50 : decode cX3_readVertex 50 = .ok (.if_icmp .ne 23, 3) := by decide +kernel
theorem dX3_readVertex_53 : decode cX3_readVertex 53 = .ok (.aload_n 0, 1) := by decide +kernel
theorem dX3_readVertex_54 : decode cX3_readVertex 54 = .ok (.invokevirtual 100, 3) := by decide +kernel
theorem dX3_readVertex_57 : decode cX3_readVertex 57 = .ok (.istore_n 1, 1) := by decide +kernel
theorem dX3_readVertex_58 : decode cX3_readVertex 58 = .ok (.iload_n 1, 1) := by decide +kernel
theorem dX3_readVertex_59 : decode cX3_readVertex 59 = .ok (.ifCond .ne 10, 3) := by decide +kernel
theorem dX3_readVertex_62 : decode cX3_readVertex 62 = .ok (.aload_n 0, 1) := by decide +kernel
theorem dX3_readVertex_63 : decode cX3_readVertex 63 = .ok (.bipush (-3), 2) := by decide +kernel
theorem dX3_readVertex_65 : decode cX3_readVertex 65 = .ok (.invokevirtual 89, 3) := by decide +kernel
theorem dX3_readVertex_68 : decode cX3_readVertex 68 = .ok (.ireturn, 1) := by decide +kernel
theorem dX3_readVertex_69 : decode cX3_readVertex 69 = .ok (.aload_n 0, 1) := by decide +kernel
theorem dX3_readVertex_70 : decode cX3_readVertex 70 = .ok (.invokevirtual 35, 3) := by decide +kernel
theorem dX3_readVertex_73 : decode cX3_readVertex 73 = .ok (.aload_n 0, 1) := by decide +kernel
theorem dX3_readVertex_74 : decode cX3_readVertex 74 = .ok (.getfield 12, 3) := by decide +kernel
theorem dX3_readVertex_77 : decode cX3_readVertex 77 = .ok (.iload_n 1, 1) := by decide +kernel
theorem dX3_readVertex_78 : decode cX3_readVertex 78 = .ok (.invokevirtual 103, 3) := by decide +kernel
theorem dX3_readVertex_81 : decode cX3_readVertex 81 = .ok (.aload_n 0, 1) := by decide +kernel
theorem dX3_readVertex_82 : decode cX3_readVertex 82 = .ok (.invokevirtual 78, 3) := by decide +kernel
theorem dX3_readVertex_85 : decode cX3_readVertex 85 = .ok (.ireturn, 1) := by decide +kernel
theorem dX3_readEdges_0 : decode cX3_readEdges 0 = .ok (.iconst 1, 1) := by decide +kernel
theorem dX3_readEdges_1 : decode cX3_readEdges 1 = .ok (.istore_n 1, 1) := by decide +kernel
theorem dX3_readEdges_2 : decode cX3_readEdges 2 = .ok (.iconst 0, 1) := by decide +kernel
theorem dX3_readEdges_3 : decode cX3_readEdges 3 = .ok (.istore_n 2, 1) := by decide +kernel
theorem dX3_readEdges_4 : decode cX3_readEdges 4 = .ok (.iload_n 2, 1) := by decide +kernel
theorem dX3_readEdges_5 : decode cX3_readEdges 5 = .ok (.aload_n 0, 1) := by decide +kernel
theorem dX3_readEdges_6 : decode cX3_readEdges 6 = .ok (.getfield 29, 3) := by decide +kernel
theorem dX3_readEdges_9 : decode cX3_readEdges 9 = .ok (.if_icmp .ge 27, 3) := by decide +kernel
theorem dX3_readEdges_12 : decode cX3_readEdges 12 = .ok (.iload_n 1, 1) := by decide +kernel
theorem dX3_readEdges_13 : decode cX3_readEdges 13 = .ok (.ifCond .eq 23, 3) := by decide +kernel
theorem dX3_readEdges_16 : decode cX3_readEdges 16 = .ok (.aload_n 0, 1) := by decide +kernel
theorem dX3_readEdges_17 : decode cX3_readEdges 17 = .ok (.ldc 106, 2) := by decide +kernel
theorem dX3_readEdges_19 : decode cX3_readEdges 19 = .ok (.invokevirtual 73, 3) := by decide +kernel
theorem dX3_readEdges_22 : decode cX3_readEdges 22 = .ok (.ifCond .eq 14, 3) := by decide +kernel
theorem dX3_readEdges_25 : decode cX3_readEdges 25 = .ok (.aload_n 0, 1) := by decide +kernel
theorem dX3_readEdges_26 : decode cX3_readEdges 26 = .ok (.invokevirtual 108, 3) := by decide +kernel
theorem dX3_readEdges_29 : decode cX3_readEdges 29 = .ok (.istore_n 1, 1) := by decide +kernel
theorem dX3_readEdges_30 : decode cX3_readEdges 30 = .ok (.iinc 2 1, 3) := by decide +kernel
theorem dX3_readEdges_33 : decode cX3_readEdges 33 = .ok (.goto (-29), 3) := by decide +kernel
theorem dX3_readEdges_36 : decode cX3_readEdges 36 = .ok (.iload_n 1, 1) := by decide +kernel
theorem dX3_readEdges_37 : decode cX3_readEdges 37 = .ok (.ireturn, 1) := by decide +kernel
theorem dX3_readEdge_0 : decode cX3_readEdge 0 = .ok (.aload_n 0, 1) := by decide +kernel
theorem dX3_readEdge_1 : decode cX3_readEdge 1 = .ok (.ldc 106, 2) := by decide +kernel
theorem dX3_readEdge_3 : decode cX3_readEdge 3 = .ok (.invokevirtual 59, 3) := by decide +kernel
theorem dX3_readEdge_6 : decode cX3_readEdge 6 = .ok (.ifCond .ne 5, 3) := by decide +kernel
theorem dX3_readEdge_9 : decode cX3_readEdge 9 = .ok (.iconst 0, 1) := by decide +kernel
theorem dX3_readEdge_10 : decode cX3_readEdge 10 = .ok (.ireturn, 1) := by decide +kernel
theorem dX3_readEdge_11 : decode cX3_readEdge 11 = .ok (.aload_n 0, 1) := by decide +kernel
theorem dX3_readEdge_12 : decode cX3_readEdge 12 = .ok (.iconst 0, 1) := by decide +kernel
theorem dX3_readEdge_13 : decode cX3_readEdge 13 = .ok (.aload_n 0, 1) := by decide +kernel
theorem dX3_readEdge_14 : decode cX3_readEdge 14 = .ok (.getfield 12, 3) := by decide +kernel
theorem dX3_readEdge_17 : decode cX3_readEdge 17 = .ok (.getfield 111, 3) := by decide +kernel
theorem dX3_readEdge_20 : decode cX3_readEdge 20 = .ok (.iconst 1, 1) := by decide +kernel
theorem dX3_readEdge_21 : decode cX3_readEdge 21 = .ok (.isub, 1) := by decide +kernel
theorem dX3_readEdge_22 : decode cX3_readEdge 22 = .ok (.invokevirtual 63, 3) := by decide +kernel
theorem dX3_readEdge_25 : decode cX3_readEdge 25 = .ok (.istore_n 1, 1) := by decide +kernel
theorem dX3_readEdge_26 : decode cX3_readEdge 26 = .ok (.iload_n 1, 1) := by decide +kernel
theorem dX3_readEdge_27 : decode cX3_readEdge 27 = .ok (.iconst (-1), 1) := by decide +kernel
theorem dX3_readEdge_28 : decode cX3_readEdge 28 = .ok (.if_icmp .ne 5, 3) := by decide +kernel
theorem dX3_readEdge_31 : decode cX3_readEdge 31 = .ok (.iconst 0, 1) := by decide +kernel
theorem dX3_readEdge_32 : decode cX3_readEdge 32 = .ok (.ireturn, 1) := by decide +kernel
theorem dX3_readEdge_33 : decode cX3_readEdge 33 = .ok (.aload_n 0, 1) := by decide +kernel
theorem dX3_readEdge_34 : decode cX3_readEdge 34 = .ok (.getfield 97, 3) := by decide +kernel
theorem dX3_readEdge_37 : decode cX3_readEdge 37 = .ok (.iconst 2, 1) := by decide +kernel
theorem dX3_readEdge_38 : decode cX3_readEdge 38 = .ok (.if_icmp .ne 18, 3) := by decide +kernel
theorem dX3_readEdge_41 : decode cX3_readEdge 41 = .ok (.aload_n 0, 1) := by decide +kernel
theorem dX3_readEdge_42 : decode cX3_readEdge 42 = .ok (.getfield 114, 3) := by decide +kernel
theorem dX3_readEdge_45 : decode cX3_readEdge 45 = .ok (.iload_n 1, 1) := by decide +kernel
theorem dX3_readEdge_46 : decode cX3_readEdge 46 = .ok (.if_icmp .ne 10, 3) := by decide +kernel
theorem dX3_readEdge_49 : decode cX3_readEdge 49 = .ok (.aload_n 0, 1) := by decide +kernel
theorem dX3_readEdge_50 : decode cX3_readEdge 50 = .ok (.bipush (-3), 2) := by decide +kernel
theorem dX3_readEdge_52 : decode cX3_readEdge 52 = .ok (.invokevirtual 89, 3) := by decide +kernel
theorem dX3_readEdge_55 : decode cX3_readEdge 55 = .ok (.ireturn, 1) := by decide +kernel
theorem dX3_readEdge_56 : decode cX3_readEdge 56 = .ok (.aload_n 0, 1) := by decide +kernel
theorem dX3_readEdge_57 : decode cX3_readEdge 57 = .ok (.getfield 97, 3) := by decide +kernel
theorem dX3_readEdge_60 : decode cX3_readEdge 60 = .ok (.iconst 2, 1) := by decide +kernel
theorem dX3_readEdge_61 : decode cX3_readEdge 61 = .ok (.if_icmp .ne 28, 3) := by decide +kernel
theorem dX3_readEdge_64 : decode cX3_readEdge 64 = .ok (.aload_n 0, 1) := by decide +kernel
theorem dX3_readEdge_65 : decode cX3_readEdge 65 = .ok (.getfield 12, 3) := by decide +kernel
theorem dX3_readEdge_68 : decode cX3_readEdge 68 = .ok (.iload_n 1, 1) := by decide +kernel
theorem dX3_readEdge_69 : decode cX3_readEdge 69 = .ok (.invokevirtual 117, 3) := by decide +kernel
theorem dX3_readEdge_72 : decode cX3_readEdge 72 = .ok (.aload_n 0, 1) := by decide +kernel
theorem dX3_readEdge_73 : decode cX3_readEdge 73 = .ok (.getfield 114, 3) := by decide +kernel
theorem dX3_readEdge_76 : decode cX3_readEdge 76 = .ok (.invokestatic 121, 3) := by decide +kernel
theorem dX3_readEdge_79 : decode cX3_readEdge 79 = .ok (.ifCond .eq 10, 3) := by decide +kernel
theorem dX3_readEdge_82 : decode cX3_readEdge 82 = .ok (.aload_n 0, 1) := by decide +kernel
theorem dX3_readEdge_83 : decode cX3_readEdge 83 = .ok (.bipush (-4), 2) := by decide +kernel
theorem dX3_readEdge_85 : decode cX3_readEdge 85 = .ok (.invokevirtual 89, 3) := by decide +kernel
theorem dX3_readEdge_88 : decode cX3_readEdge 88 = .ok (.ireturn, 1) := by decide +kernel
theorem dX3_readEdge_89 : decode cX3_readEdge 89 = .ok (.aload_n 0, 1) := by decide +kernel
theorem dX3_readEdge_90 : decode cX3_readEdge 90 = .ok (.iconst 0, 1) := by decide +kernel
theorem dX3_readEdge_91 : decode cX3_readEdge 91 = .ok (.aload_n 0, 1) := by decide +kernel
theorem dX3_readEdge_92 : decode cX3_readEdge 92 = .ok (.getfield 12, 3) := by decide +kernel
theorem dX3_readEdge_95 : decode cX3_readEdge 95 = .ok (.getfield 111, 3) := by decide +kernel
theorem dX3_readEdge_98 : decode cX3_readEdge 98 = .ok (.iconst 1, 1) := by decide +kernel
theorem dX3_readEdge_99 : decode cX3_readEdge 99 = .ok (.isub, 1) := by decide +kernel
theorem dX3_readEdge_100 : decode cX3_readEdge 100 = .ok (.invokevirtual 63, 3) := by decide +kernel
theorem dX3_readEdge_103 : decode cX3_readEdge 103 = .ok (.istore_n 2, 1) := by decide +kernel
theorem dX3_readEdge_104 : decode cX3_readEdge 104 = .ok (.iload_n 2, 1) := by decide +kernel
theorem dX3_readEdge_105 : decode cX3_readEdge 105 = .ok (.iconst (-1), 1) := by decide +kernel
theorem dX3_readEdge_106 : decode cX3_readEdge 106 = .ok (.if_icmp .ne 5, 3) := by decide +kernel
theorem dX3_readEdge_109 : decode cX3_readEdge 109 = .ok (.iconst 0, 1) := by decide +kernel
theorem dX3_readEdge_110 : decode cX3_readEdge 110 = .ok (.ireturn, 1) := by decide +kernel
theorem dX3_readEdge_111 : decode cX3_readEdge 111 = .ok (.aload_n 0, 1) := by decide +kernel
theorem dX3_readEdge_112 : decode cX3_readEdge 112 = .ok (.getfield 12, 3) := by decide +kernel
theorem dX3_readEdge_115 : decode cX3_readEdge 115 = .ok (.iload_n 1, 1) := by decide +kernel
theorem dX3_readEdge_116 : decode cX3_readEdge 116 = .ok (.iload_n 2, 1) := by decide +kernel
theorem dX3_readEdge_117 : decode cX3_readEdge 117 = .ok (.invokevirtual 125, 3) := by decide +kernel
theorem dX3_readEdge_120 : decode cX3_readEdge 120 = .ok (.aload_n 0, 1) := by decide +kernel
theorem dX3_readEdge_121 : decode cX3_readEdge 121 = .ok (.invokevirtual 78, 3) := by decide +kernel
theorem dX3_readEdge_124 : decode cX3_readEdge 124 = .ok (.ireturn, 1) := by decide +kernel
theorem dX3_readMoves_0 : decode cX3_readMoves 0 = .ok (.iconst 1, 1) := by decide +kernel
theorem dX3_readMoves_1 : decode cX3_readMoves 1 = .ok (.istore_n 1, 1) := by decide +kernel
theorem dX3_readMoves_2 : decode cX3_readMoves 2 = .ok (.iconst 0, 1) := by decide +kernel
theorem dX3_readMoves_3 : decode cX3_readMoves 3 = .ok (.istore_n 2, 1) := by decide +kernel
theorem dX3_readMoves_4 : decode cX3_readMoves 4 = .ok (.iload_n 2, 1) := by decide +kernel
theorem dX3_readMoves_5 : decode cX3_readMoves 5 = .ok (.aload_n 0, 1) := by decide +kernel
theorem dX3_readMoves_6 : decode cX3_readMoves 6 = .ok (.getfield 29, 3) := by decide +kernel
theorem dX3_readMoves_9 : decode cX3_readMoves 9 = .ok (.if_icmp .ge 70, 3) := by decide +kernel
theorem dX3_readMoves_12 : decode cX3_readMoves 12 = .ok (.iload_n 1, 1) := by decide +kernel
theorem dX3_readMoves_13 : decode cX3_readMoves 13 = .ok (.ifCond .eq 66, 3) := by decide +kernel
theorem dX3_readMoves_16 : decode cX3_readMoves 16 = .ok (.aload_n 0, 1) := by decide +kernel
theorem dX3_readMoves_17 : decode cX3_readMoves 17 = .ok (.ldc 129, 2) := by decide +kernel
theorem dX3_readMoves_19 : decode cX3_readMoves 19 = .ok (.invokevirtual 73, 3) := by decide +kernel
theorem dX3_readMoves_22 : decode cX3_readMoves 22 = .ok (.ifCond .ne 12, 3) := by decide +kernel
theorem dX3_readMoves_25 : decode cX3_readMoves 25 = .ok (.aload_n 0, 1) := by decide +kernel
theorem dX3_readMoves_26 : decode cX3_readMoves 26 = .ok (.ldc 131, 2) := by decide +kernel
theorem dX3_readMoves_28 : decode cX3_readMoves 28 = .ok (.invokevirtual 73, 3) := by decide +kernel
theorem dX3_readMoves_31 : decode cX3_readMoves 31 = .ok (.ifCond .eq 48, 3) := by decide +kernel
theorem dX3_readMoves_34 : decode cX3_readMoves 34 = .ok (.aload_n 0, 1) := by decide +kernel
theorem dX3_readMoves_35 : decode cX3_readMoves 35 = .ok (.ldc 129, 2) := by decide +kernel
theorem dX3_readMoves_37 : decode cX3_readMoves 37 = .ok (.invokevirtual 73, 3) := by decide +kernel
theorem dX3_readMoves_40 : decode cX3_readMoves 40 = .ok (.ifCond .eq 13, 3) := by decide +kernel
theorem dX3_readMoves_43 : decode cX3_readMoves 43 = .ok (.aload_n 0, 1) := by decide +kernel
theorem dX3_readMoves_44 : decode cX3_readMoves 44 = .ok (.invokevirtual 133, 3) := by decide +kernel
theorem dX3_readMoves_47 : decode cX3_readMoves 47 = .ok (.ifCond .eq 24, 3) := by decide +kernel
theorem dX3_readMoves_50 : decode cX3_readMoves 50 = .ok (.goto 10, 3) := by decide +kernel
theorem dX3_readMoves_53 : decode cX3_readMoves 53 = .ok (.aload_n 0, 1) := by decide +kernel
theorem dX3_readMoves_54 : decode cX3_readMoves 54 = .ok (.invokevirtual 136, 3) := by decide +kernel
theorem dX3_readMoves_57 : decode cX3_readMoves 57 = .ok (.ifCond .eq 14, 3) := by decide +kernel
theorem dX3_readMoves_60 : decode cX3_readMoves 60 = .ok (.aload_n 0, 1) := by decide +kernel
theorem dX3_readMoves_61 : decode cX3_readMoves 61 = .ok (.invokevirtual 78, 3) := by decide +kernel
theorem dX3_readMoves_64 : decode cX3_readMoves 64 = .ok (.ifCond .eq 7, 3) := by decide +kernel
theorem dX3_readMoves_67 : decode cX3_readMoves 67 = .ok (.iconst 1, 1) := by decide +kernel
theorem dX3_readMoves_68 : decode cX3_readMoves 68 = .ok (.goto 4, 3) := by decide +kernel
theorem dX3_readMoves_71 : decode cX3_readMoves 71 = .ok (.iconst 0, 1) := by decide +kernel
theorem dX3_readMoves_72 : decode cX3_readMoves 72 = .ok (.istore_n 1, 1) := by decide +kernel
theorem dX3_readMoves_73 : decode cX3_readMoves 73 = .ok (.iinc 2 1, 3) := by decide +kernel
theorem dX3_readMoves_76 : decode cX3_readMoves 76 = .ok (.goto (-72), 3) := by decide +kernel
theorem dX3_readMoves_79 : decode cX3_readMoves 79 = .ok (.iload_n 1, 1) := by decide +kernel
theorem dX3_readMoves_80 : decode cX3_readMoves 80 = .ok (.ireturn, 1) := by decide +kernel
theorem dX3_readLay_0 : decode cX3_readLay 0 = .ok (.aload_n 0, 1) := by decide +kernel
theorem dX3_readLay_1 : decode cX3_readLay 1 = .ok (.ldc 129, 2) := by decide +kernel
theorem dX3_readLay_3 : decode cX3_readLay 3 = .ok (.invokevirtual 59, 3) := by decide +kernel
theorem dX3_readLay_6 : decode cX3_readLay 6 = .ok (.ifCond .ne 5, 3) := by decide +kernel
theorem dX3_readLay_9 : decode cX3_readLay 9 = .ok (.iconst 0, 1) := by decide +kernel
theorem dX3_readLay_10 : decode cX3_readLay 10 = .ok (.ireturn, 1) := by decide +kernel
theorem dX3_readLay_11 : decode cX3_readLay 11 = .ok (.aload_n 0, 1) := by decide +kernel
theorem dX3_readLay_12 : decode cX3_readLay 12 = .ok (.iconst 0, 1) := by decide +kernel
theorem dX3_readLay_13 : decode cX3_readLay 13 = .ok (.aload_n 0, 1) := by decide +kernel
theorem dX3_readLay_14 : decode cX3_readLay 14 = .ok (.getfield 12, 3) := by decide +kernel
theorem dX3_readLay_17 : decode cX3_readLay 17 = .ok (.getfield 111, 3) := by decide +kernel
theorem dX3_readLay_20 : decode cX3_readLay 20 = .ok (.iconst 1, 1) := by decide +kernel
theorem dX3_readLay_21 : decode cX3_readLay 21 = .ok (.isub, 1) := by decide +kernel
theorem dX3_readLay_22 : decode cX3_readLay 22 = .ok (.invokevirtual 63, 3) := by decide +kernel
theorem dX3_readLay_25 : decode cX3_readLay 25 = .ok (.istore_n 1, 1) := by decide +kernel
theorem dX3_readLay_26 : decode cX3_readLay 26 = .ok (.iload_n 1, 1) := by decide +kernel
theorem dX3_readLay_27 : decode cX3_readLay 27 = .ok (.iconst (-1), 1) := by decide +kernel
theorem dX3_readLay_28 : decode cX3_readLay 28 = .ok (.if_icmp .ne 5, 3) := by decide +kernel
theorem dX3_readLay_31 : decode cX3_readLay 31 = .ok (.iconst 0, 1) := by decide +kernel
theorem dX3_readLay_32 : decode cX3_readLay 32 = .ok (.ireturn, 1) := by decide +kernel
theorem dX3_readLay_33 : decode cX3_readLay 33 = .ok (.aload_n 0, 1) := by decide +kernel
theorem dX3_readLay_34 : decode cX3_readLay 34 = .ok (.getfield 97, 3) := by decide +kernel
theorem dX3_readLay_37 : decode cX3_readLay 37 = .ok (.iconst 1, 1) := by decide +kernel
theorem dX3_readLay_38 : decode cX3_readLay 38 = .ok (.if_icmp .eq 10, 3) := by decide +kernel
theorem dX3_readLay_41 : decode cX3_readLay 41 = .ok (.aload_n 0, 1) := by decide +kernel
theorem dX3_readLay_42 : decode cX3_readLay 42 = .ok (.bipush (-2), 2) := by decide +kernel
theorem dX3_readLay_44 : decode cX3_readLay 44 = .ok (.invokevirtual 89, 3) := by decide +kernel
theorem dX3_readLay_47 : decode cX3_readLay 47 = .ok (.ireturn, 1) := by decide +kernel
theorem dX3_readLay_48 : decode cX3_readLay 48 = .ok (.aload_n 0, 1) := by decide +kernel
theorem dX3_readLay_49 : decode cX3_readLay 49 = .ok (.invokevirtual 100, 3) := by decide +kernel
theorem dX3_readLay_52 : decode cX3_readLay 52 = .ok (.istore_n 2, 1) := by decide +kernel
theorem dX3_readLay_53 : decode cX3_readLay 53 = .ok (.iload_n 2, 1) := by decide +kernel
theorem dX3_readLay_54 : decode cX3_readLay 54 = .ok (.invokestatic 139, 3) := by decide +kernel
theorem dX3_readLay_57 : decode cX3_readLay 57 = .ok (.iconst 1, 1) := by decide +kernel
theorem dX3_readLay_58 : decode cX3_readLay 58 = .ok (.if_icmp .eq 10, 3) := by decide +kernel
theorem dX3_readLay_61 : decode cX3_readLay 61 = .ok (.aload_n 0, 1) := by decide +kernel
theorem dX3_readLay_62 : decode cX3_readLay 62 = .ok (.bipush (-3), 2) := by decide +kernel
theorem dX3_readLay_64 : decode cX3_readLay 64 = .ok (.invokevirtual 89, 3) := by decide +kernel
theorem dX3_readLay_67 : decode cX3_readLay 67 = .ok (.ireturn, 1) := by decide +kernel
theorem dX3_readLay_68 : decode cX3_readLay 68 = .ok (.iload_n 2, 1) := by decide +kernel
theorem dX3_readLay_69 : decode cX3_readLay 69 = .ok (.invokestatic 144, 3) := by decide +kernel
theorem dX3_readLay_72 : decode cX3_readLay 72 = .ok (.istore_n 3, 1) := by decide +kernel
theorem dX3_readLay_73 : decode cX3_readLay 73 = .ok (.aload_n 0, 1) := by decide +kernel
theorem dX3_readLay_74 : decode cX3_readLay 74 = .ok (.getfield 12, 3) := by decide +kernel
theorem dX3_readLay_77 : decode cX3_readLay 77 = .ok (.iload_n 1, 1) := by decide +kernel
theorem dX3_readLay_78 : decode cX3_readLay 78 = .ok (.iload_n 3, 1) := by decide +kernel
theorem dX3_readLay_79 : decode cX3_readLay 79 = .ok (.invokevirtual 147, 3) := by decide +kernel
theorem dX3_readLay_82 : decode cX3_readLay 82 = .ok (.ifCond .eq 10, 3) := by decide +kernel
theorem dX3_readLay_85 : decode cX3_readLay 85 = .ok (.aload_n 0, 1) := by decide +kernel
theorem dX3_readLay_86 : decode cX3_readLay 86 = .ok (.bipush (-5), 2) := by decide +kernel
theorem dX3_readLay_88 : decode cX3_readLay 88 = .ok (.invokevirtual 89, 3) := by decide +kernel
theorem dX3_readLay_91 : decode cX3_readLay 91 = .ok (.ireturn, 1) := by decide +kernel
theorem dX3_readLay_92 : decode cX3_readLay 92 = .ok (.aload_n 0, 1) := by decide +kernel
theorem dX3_readLay_93 : decode cX3_readLay 93 = .ok (.getfield 12, 3) := by decide +kernel
theorem dX3_readLay_96 : decode cX3_readLay 96 = .ok (.iload_n 1, 1) := by decide +kernel
theorem dX3_readLay_97 : decode cX3_readLay 97 = .ok (.iload_n 3, 1) := by decide +kernel
theorem dX3_readLay_98 : decode cX3_readLay 98 = .ok (.invokevirtual 150, 3) := by decide +kernel
theorem dX3_readLay_101 : decode cX3_readLay 101 = .ok (.aload_n 0, 1) := by decide +kernel
theorem dX3_readLay_102 : decode cX3_readLay 102 = .ok (.invokevirtual 35, 3) := by decide +kernel
theorem dX3_readLay_105 : decode cX3_readLay 105 = .ok (.iconst 1, 1) := by decide +kernel
theorem dX3_readLay_106 : decode cX3_readLay 106 = .ok (.ireturn, 1) := by decide +kernel
theorem dX3_readPass_0 : decode cX3_readPass 0 = .ok (.aload_n 0, 1) := by decide +kernel
theorem dX3_readPass_1 : decode cX3_readPass 1 = .ok (.getfield 12, 3) := by decide +kernel
theorem dX3_readPass_4 : decode cX3_readPass 4 = .ok (.getfield 76, 3) := by decide +kernel
theorem dX3_readPass_7 : decode cX3_readPass 7 = .ok (.ifCond .ne 10, 3) := by decide +kernel
theorem dX3_readPass_10 : decode cX3_readPass 10 = .ok (.aload_n 0, 1) := by decide +kernel
theorem dX3_readPass_11 : decode cX3_readPass 11 = .ok (.bipush (-5), 2) := by decide +kernel
theorem dX3_readPass_13 : decode cX3_readPass 13 = .ok (.invokevirtual 89, 3) := by decide +kernel
theorem dX3_readPass_16 : decode cX3_readPass 16 = .ok (.ireturn, 1) := by decide +kernel
theorem dX3_readPass_17 : decode cX3_readPass 17 = .ok (.aload_n 0, 1) := by decide +kernel
theorem dX3_readPass_18 : decode cX3_readPass 18 = .ok (.getfield 12, 3) := by decide +kernel
theorem dX3_readPass_21 : decode cX3_readPass 21 = .ok (.invokevirtual 153, 3) := by decide +kernel
theorem dX3_readPass_24 : decode cX3_readPass 24 = .ok (.aload_n 0, 1) := by decide +kernel
theorem dX3_readPass_25 : decode cX3_readPass 25 = .ok (.ldc 131, 2) := by decide +kernel
theorem dX3_readPass_27 : decode cX3_readPass 27 = .ok (.invokevirtual 59, 3) := by decide +kernel
theorem dX3_readPass_30 : decode cX3_readPass 30 = .ok (.ireturn, 1) := by decide +kernel
theorem dX3_readEnd_0 : decode cX3_readEnd 0 = .ok (.aload_n 0, 1) := by decide +kernel
theorem dX3_readEnd_1 : decode cX3_readEnd 1 = .ok (.getfield 97, 3) := by decide +kernel
theorem dX3_readEnd_4 : decode cX3_readEnd 4 = .ok (.ifCond .eq 12, 3) := by decide +kernel
theorem dX3_readEnd_7 : decode cX3_readEnd 7 = .ok (.aload_n 0, 1) := by decide +kernel
theorem dX3_readEnd_8 : decode cX3_readEnd 8 = .ok (.bipush (-2), 2) := by decide +kernel
theorem dX3_readEnd_10 : decode cX3_readEnd 10 = .ok (.invokevirtual 89, 3) := by decide +kernel
theorem dX3_readEnd_13 : decode cX3_readEnd 13 = .ok (.ifCond .eq 7, 3) := by decide +kernel
theorem dX3_readEnd_16 : decode cX3_readEnd 16 = .ok (.iconst 1, 1) := by decide +kernel
theorem dX3_readEnd_17 : decode cX3_readEnd 17 = .ok (.goto 4, 3) := by decide +kernel
theorem dX3_readEnd_20 : decode cX3_readEnd 20 = .ok (.iconst 0, 1) := by decide +kernel
theorem dX3_readEnd_21 : decode cX3_readEnd 21 = .ok (.ireturn, 1) := by decide +kernel
theorem dX3_readWord_0 : decode cX3_readWord 0 = .ok (.aload_n 0, 1) := by decide +kernel
theorem dX3_readWord_1 : decode cX3_readWord 1 = .ok (.aload_n 1, 1) := by decide +kernel
theorem dX3_readWord_2 : decode cX3_readWord 2 = .ok (.invokevirtual 73, 3) := by decide +kernel
theorem dX3_readWord_5 : decode cX3_readWord 5 = .ok (.ifCond .ne 10, 3) := by decide +kernel
theorem dX3_readWord_8 : decode cX3_readWord 8 = .ok (.aload_n 0, 1) := by decide +kernel
theorem dX3_readWord_9 : decode cX3_readWord 9 = .ok (.bipush (-2), 2) := by decide +kernel
theorem dX3_readWord_11 : decode cX3_readWord 11 = .ok (.invokevirtual 89, 3) := by decide +kernel
theorem dX3_readWord_14 : decode cX3_readWord 14 = .ok (.ireturn, 1) := by decide +kernel
theorem dX3_readWord_15 : decode cX3_readWord 15 = .ok (.aload_n 0, 1) := by decide +kernel
theorem dX3_readWord_16 : decode cX3_readWord 16 = .ok (.invokevirtual 35, 3) := by decide +kernel
theorem dX3_readWord_19 : decode cX3_readWord 19 = .ok (.iconst 1, 1) := by decide +kernel
theorem dX3_readWord_20 : decode cX3_readWord 20 = .ok (.ireturn, 1) := by decide +kernel
theorem dX3_readNumber_0 : decode cX3_readNumber 0 = .ok (.aload_n 0, 1) := by decide +kernel
theorem dX3_readNumber_1 : decode cX3_readNumber 1 = .ok (.getfield 97, 3) := by decide +kernel
theorem dX3_readNumber_4 : decode cX3_readNumber 4 = .ok (.iconst 2, 1) := by decide +kernel
theorem dX3_readNumber_5 : decode cX3_readNumber 5 = .ok (.if_icmp .eq 12, 3) := by decide +kernel
theorem dX3_readNumber_8 : decode cX3_readNumber 8 = .ok (.aload_n 0, 1) := by decide +kernel
theorem dX3_readNumber_9 : decode cX3_readNumber 9 = .ok (.bipush (-2), 2) := by decide +kernel
theorem dX3_readNumber_11 : decode cX3_readNumber 11 = .ok (.invokevirtual 89, 3) := by decide +kernel
theorem dX3_readNumber_14 : decode cX3_readNumber 14 = .ok (.pop, 1) := by decide +kernel
theorem dX3_readNumber_15 : decode cX3_readNumber 15 = .ok (.iconst (-1), 1) := by decide +kernel
theorem dX3_readNumber_16 : decode cX3_readNumber 16 = .ok (.ireturn, 1) := by decide +kernel
theorem dX3_readNumber_17 : decode cX3_readNumber 17 = .ok (.aload_n 0, 1) := by decide +kernel
theorem dX3_readNumber_18 : decode cX3_readNumber 18 = .ok (.getfield 114, 3) := by decide +kernel
theorem dX3_readNumber_21 : decode cX3_readNumber 21 = .ok (.iload_n 1, 1) := by decide +kernel
theorem dX3_readNumber_22 : decode cX3_readNumber 22 = .ok (.if_icmp .lt 11, 3) := by decide +kernel
theorem dX3_readNumber_25 : decode cX3_readNumber 25 = .ok (.aload_n 0, 1) := by decide +kernel
theorem dX3_readNumber_26 : decode cX3_readNumber 26 = .ok (.getfield 114, 3) := by decide +kernel
theorem dX3_readNumber_29 : decode cX3_readNumber 29 = .ok (.iload_n 2, 1) := by decide +kernel
theorem dX3_readNumber_30 : decode cX3_readNumber 30 = .ok (.if_icmp .le 12, 3) := by decide +kernel
theorem dX3_readNumber_33 : decode cX3_readNumber 33 = .ok (.aload_n 0, 1) := by decide +kernel
theorem dX3_readNumber_34 : decode cX3_readNumber 34 = .ok (.bipush (-3), 2) := by decide +kernel
theorem dX3_readNumber_36 : decode cX3_readNumber 36 = .ok (.invokevirtual 89, 3) := by decide +kernel
theorem dX3_readNumber_39 : decode cX3_readNumber 39 = .ok (.pop, 1) := by decide +kernel
theorem dX3_readNumber_40 : decode cX3_readNumber 40 = .ok (.iconst (-1), 1) := by decide +kernel
theorem dX3_readNumber_41 : decode cX3_readNumber 41 = .ok (.ireturn, 1) := by decide +kernel
theorem dX3_readNumber_42 : decode cX3_readNumber 42 = .ok (.aload_n 0, 1) := by decide +kernel
theorem dX3_readNumber_43 : decode cX3_readNumber 43 = .ok (.getfield 114, 3) := by decide +kernel
theorem dX3_readNumber_46 : decode cX3_readNumber 46 = .ok (.istore_n 3, 1) := by decide +kernel
theorem dX3_readNumber_47 : decode cX3_readNumber 47 = .ok (.aload_n 0, 1) := by decide +kernel
theorem dX3_readNumber_48 : decode cX3_readNumber 48 = .ok (.invokevirtual 35, 3) := by decide +kernel
theorem dX3_readNumber_51 : decode cX3_readNumber 51 = .ok (.iload_n 3, 1) := by decide +kernel
theorem dX3_readNumber_52 : decode cX3_readNumber 52 = .ok (.ireturn, 1) := by decide +kernel
theorem dX3_readSemicolon_0 : decode cX3_readSemicolon 0 = .ok (.aload_n 0, 1) := by decide +kernel
theorem dX3_readSemicolon_1 : decode cX3_readSemicolon 1 = .ok (.getfield 97, 3) := by decide +kernel
theorem dX3_readSemicolon_4 : decode cX3_readSemicolon 4 = .ok (.iconst 3, 1) := by decide +kernel
theorem dX3_readSemicolon_5 : decode cX3_readSemicolon 5 = .ok (.if_icmp .eq 10, 3) := by decide +kernel
theorem dX3_readSemicolon_8 : decode cX3_readSemicolon 8 = .ok (.aload_n 0, 1) := by decide +kernel
theorem dX3_readSemicolon_9 : decode cX3_readSemicolon 9 = .ok (.bipush (-2), 2) := by decide +kernel
theorem dX3_readSemicolon_11 : decode cX3_readSemicolon 11 = .ok (.invokevirtual 89, 3) := by decide +kernel
theorem dX3_readSemicolon_14 : decode cX3_readSemicolon 14 = .ok (.ireturn, 1) := by decide +kernel
theorem dX3_readSemicolon_15 : decode cX3_readSemicolon 15 = .ok (.aload_n 0, 1) := by decide +kernel
theorem dX3_readSemicolon_16 : decode cX3_readSemicolon 16 = .ok (.invokevirtual 35, 3) := by decide +kernel
theorem dX3_readSemicolon_19 : decode cX3_readSemicolon 19 = .ok (.iconst 1, 1) := by decide +kernel
theorem dX3_readSemicolon_20 : decode cX3_readSemicolon 20 = .ok (.ireturn, 1) := by decide +kernel
theorem dX3_atWord_0 : decode cX3_atWord 0 = .ok (.aload_n 0, 1) := by decide +kernel
theorem dX3_atWord_1 : decode cX3_atWord 1 = .ok (.getfield 97, 3) := by decide +kernel
theorem dX3_atWord_4 : decode cX3_atWord 4 = .ok (.iconst 1, 1) := by decide +kernel
theorem dX3_atWord_5 : decode cX3_atWord 5 = .ok (.if_icmp .ne 19, 3) := by decide +kernel
theorem dX3_atWord_8 : decode cX3_atWord 8 = .ok (.aload_n 0, 1) := by decide +kernel
theorem dX3_atWord_9 : decode cX3_atWord 9 = .ok (.getfield 32, 3) := by decide +kernel
theorem dX3_atWord_12 : decode cX3_atWord 12 = .ok (.aload_n 0, 1) := by decide +kernel
theorem dX3_atWord_13 : decode cX3_atWord 13 = .ok (.getfield 156, 3) := by decide +kernel
theorem dX3_atWord_16 : decode cX3_atWord 16 = .ok (.isub, 1) := by decide +kernel
theorem dX3_atWord_17 : decode cX3_atWord 17 = .ok (.aload_n 1, 1) := by decide +kernel
theorem dX3_atWord_18 : decode cX3_atWord 18 = .ok (.invokevirtual 159, 3) := by decide +kernel
theorem dX3_atWord_21 : decode cX3_atWord 21 = .ok (.if_icmp .eq 5, 3) := by decide +kernel
theorem dX3_atWord_24 : decode cX3_atWord 24 = .ok (.iconst 0, 1) := by decide +kernel
theorem dX3_atWord_25 : decode cX3_atWord 25 = .ok (.ireturn, 1) := by decide +kernel
theorem dX3_atWord_26 : decode cX3_atWord 26 = .ok (.iconst 0, 1) := by decide +kernel
theorem dX3_atWord_27 : decode cX3_atWord 27 = .ok (.istore_n 2, 1) := by decide +kernel
theorem dX3_atWord_28 : decode cX3_atWord 28 = .ok (.iload_n 2, 1) := by decide +kernel
theorem dX3_atWord_29 : decode cX3_atWord 29 = .ok (.aload_n 1, 1) := by decide +kernel
theorem dX3_atWord_30 : decode cX3_atWord 30 = .ok (.invokevirtual 159, 3) := by decide +kernel
theorem dX3_atWord_33 : decode cX3_atWord 33 = .ok (.if_icmp .ge 29, 3) := by decide +kernel
theorem dX3_atWord_36 : decode cX3_atWord 36 = .ok (.aload_n 0, 1) := by decide +kernel
theorem dX3_atWord_37 : decode cX3_atWord 37 = .ok (.aload_n 0, 1) := by decide +kernel
theorem dX3_atWord_38 : decode cX3_atWord 38 = .ok (.getfield 156, 3) := by decide +kernel
theorem dX3_atWord_41 : decode cX3_atWord 41 = .ok (.iload_n 2, 1) := by decide +kernel
theorem dX3_atWord_42 : decode cX3_atWord 42 = .ok (.iadd, 1) := by decide +kernel
theorem dX3_atWord_43 : decode cX3_atWord 43 = .ok (.invokevirtual 163, 3) := by decide +kernel
theorem dX3_atWord_46 : decode cX3_atWord 46 = .ok (.aload_n 1, 1) := by decide +kernel
theorem dX3_atWord_47 : decode cX3_atWord 47 = .ok (.iload_n 2, 1) := by decide +kernel
theorem dX3_atWord_48 : decode cX3_atWord 48 = .ok (.invokevirtual 166, 3) := by decide +kernel
theorem dX3_atWord_51 : decode cX3_atWord 51 = .ok (.if_icmp .eq 5, 3) := by decide +kernel
theorem dX3_atWord_54 : decode cX3_atWord 54 = .ok (.iconst 0, 1) := by decide +kernel
theorem dX3_atWord_55 : decode cX3_atWord 55 = .ok (.ireturn, 1) := by decide +kernel
theorem dX3_atWord_56 : decode cX3_atWord 56 = .ok (.iinc 2 1, 3) := by decide +kernel
theorem dX3_atWord_59 : decode cX3_atWord 59 = .ok (.goto (-31), 3) := by decide +kernel
theorem dX3_atWord_62 : decode cX3_atWord 62 = .ok (.iconst 1, 1) := by decide +kernel
theorem dX3_atWord_63 : decode cX3_atWord 63 = .ok (.ireturn, 1) := by decide +kernel
theorem dX3_listHere_0 : decode cX3_listHere 0 = .ok (.iconst 0, 1) := by decide +kernel
theorem dX3_listHere_1 : decode cX3_listHere 1 = .ok (.istore_n 1, 1) := by decide +kernel
theorem dX3_listHere_2 : decode cX3_listHere 2 = .ok (.aload_n 0, 1) := by decide +kernel
theorem dX3_listHere_3 : decode cX3_listHere 3 = .ok (.getfield 156, 3) := by decide +kernel
theorem dX3_listHere_6 : decode cX3_listHere 6 = .ok (.istore_n 2, 1) := by decide +kernel
theorem dX3_listHere_7 : decode cX3_listHere 7 = .ok (.iload_n 2, 1) := by decide +kernel
theorem dX3_listHere_8 : decode cX3_listHere 8 = .ok (.aload_n 0, 1) := by decide +kernel
theorem dX3_listHere_9 : decode cX3_listHere 9 = .ok (.getfield 32, 3) := by decide +kernel
theorem dX3_listHere_12 : decode cX3_listHere 12 = .ok (.if_icmp .ge 48, 3) := by decide +kernel
theorem dX3_listHere_15 : decode cX3_listHere 15 = .ok (.aload_n 0, 1) := by decide +kernel
theorem dX3_listHere_16 : decode cX3_listHere 16 = .ok (.iload_n 2, 1) := by decide +kernel
theorem dX3_listHere_17 : decode cX3_listHere 17 = .ok (.invokevirtual 163, 3) := by decide +kernel
theorem dX3_listHere_20 : decode cX3_listHere 20 = .ok (.bipush 97, 2) := by decide +kernel
theorem dX3_listHere_22 : decode cX3_listHere 22 = .ok (.isub, 1) := by decide +kernel
theorem dX3_listHere_23 : decode cX3_listHere 23 = .ok (.istore_n 3, 1) := by decide +kernel
theorem dX3_listHere_24 : decode cX3_listHere 24 = .ok (.aload_n 0, 1) := by decide +kernel
theorem dX3_listHere_25 : decode cX3_listHere 25 = .ok (.getfield 12, 3) := by decide +kernel
theorem dX3_listHere_28 : decode cX3_listHere 28 = .ok (.invokevirtual 93, 3) := by decide +kernel
theorem dX3_listHere_31 : decode cX3_listHere 31 = .ok (.iload_n 3, 1) := by decide +kernel
theorem dX3_listHere_32 : decode cX3_listHere 32 = .ok (.invokestatic 121, 3) := by decide +kernel
theorem dX3_listHere_35 : decode cX3_listHere 35 = .ok (.ifCond .eq 11, 3) := by decide +kernel
theorem dX3_listHere_38 : decode cX3_listHere 38 = .ok (.iload_n 1, 1) := by decide +kernel
theorem dX3_listHere_39 : decode cX3_listHere 39 = .ok (.iload_n 3, 1) := by decide +kernel
theorem dX3_listHere_40 : decode cX3_listHere 40 = .ok (.invokestatic 121, 3) := by decide +kernel
theorem dX3_listHere_43 : decode cX3_listHere 43 = .ok (.ifCond .eq 5, 3) := by decide +kernel
theorem dX3_listHere_46 : decode cX3_listHere 46 = .ok (.iconst 0, 1) := by decide +kernel
theorem dX3_listHere_47 : decode cX3_listHere 47 = .ok (.ireturn, 1) := by decide +kernel
theorem dX3_listHere_48 : decode cX3_listHere 48 = .ok (.iload_n 1, 1) := by decide +kernel
theorem dX3_listHere_49 : decode cX3_listHere 49 = .ok (.iconst 1, 1) := by decide +kernel
theorem dX3_listHere_50 : decode cX3_listHere 50 = .ok (.iload_n 3, 1) := by decide +kernel
theorem dX3_listHere_51 : decode cX3_listHere 51 = .ok (.ishl, 1) := by decide +kernel
theorem dX3_listHere_52 : decode cX3_listHere 52 = .ok (.ior, 1) := by decide +kernel
theorem dX3_listHere_53 : decode cX3_listHere 53 = .ok (.istore_n 1, 1) := by decide +kernel
theorem dX3_listHere_54 : decode cX3_listHere 54 = .ok (.iinc 2 1, 3) := by decide +kernel
theorem dX3_listHere_57 : decode cX3_listHere 57 = .ok (.goto (-50), 3) := by decide +kernel
theorem dX3_listHere_60 : decode cX3_listHere 60 = .ok (.iload_n 1, 1) := by decide +kernel
theorem dX3_listHere_61 : decode cX3_listHere 61 = .ok (.ireturn, 1) := by decide +kernel
theorem dX3_advance_0 : decode cX3_advance 0 = .ok (.aload_n 0, 1) := by decide +kernel
theorem dX3_advance_1 : decode cX3_advance 1 = .ok (.aload_n 0, 1) := by decide +kernel
theorem dX3_advance_2 : decode cX3_advance 2 = .ok (.getfield 32, 3) := by decide +kernel
theorem dX3_advance_5 : decode cX3_advance 5 = .ok (.putfield 156, 3) := by decide +kernel
theorem dX3_advance_8 : decode cX3_advance 8 = .ok (.aload_n 0, 1) := by decide +kernel
theorem dX3_advance_9 : decode cX3_advance 9 = .ok (.getfield 156, 3) := by decide +kernel
theorem dX3_advance_12 : decode cX3_advance 12 = .ok (.aload_n 0, 1) := by decide +kernel
theorem dX3_advance_13 : decode cX3_advance 13 = .ok (.getfield 29, 3) := by decide +kernel
theorem dX3_advance_16 : decode cX3_advance 16 = .ok (.if_icmp .ge 29, 3) := by decide +kernel
theorem dX3_advance_19 : decode cX3_advance 19 = .ok (.aload_n 0, 1) := by decide +kernel
theorem dX3_advance_20 : decode cX3_advance 20 = .ok (.aload_n 0, 1) := by decide +kernel
theorem dX3_advance_21 : decode cX3_advance 21 = .ok (.getfield 156, 3) := by decide +kernel
theorem dX3_advance_24 : decode cX3_advance 24 = .ok (.invokevirtual 163, 3) := by decide +kernel
theorem dX3_advance_27 : decode cX3_advance 27 = .ok (.bipush 32, 2) := by decide +kernel
theorem dX3_advance_29 : decode cX3_advance 29 = .ok (.if_icmp .ne 16, 3) := by decide +kernel
theorem dX3_advance_32 : decode cX3_advance 32 = .ok (.aload_n 0, 1) := by decide +kernel
theorem dX3_advance_33 : decode cX3_advance 33 = .ok (.dup, 1) := by decide +kernel
theorem dX3_advance_34 : decode cX3_advance 34 = .ok (.getfield 156, 3) := by decide +kernel
theorem dX3_advance_37 : decode cX3_advance 37 = .ok (.iconst 1, 1) := by decide +kernel
theorem dX3_advance_38 : decode cX3_advance 38 = .ok (.iadd, 1) := by decide +kernel
theorem dX3_advance_39 : decode cX3_advance 39 = .ok (.putfield 156, 3) := by decide +kernel
theorem dX3_advance_42 : decode cX3_advance 42 = .ok (.goto (-34), 3) := by decide +kernel
theorem dX3_advance_45 : decode cX3_advance 45 = .ok (.aload_n 0, 1) := by decide +kernel
theorem dX3_advance_46 : decode cX3_advance 46 = .ok (.aload_n 0, 1) := by decide +kernel
theorem dX3_advance_47 : decode cX3_advance 47 = .ok (.getfield 156, 3) := by decide +kernel
theorem dX3_advance_50 : decode cX3_advance 50 = .ok (.iconst 1, 1) := by decide +kernel
theorem dX3_advance_51 : decode cX3_advance 51 = .ok (.iadd, 1) := by decide +kernel
theorem dX3_advance_52 : decode cX3_advance 52 = .ok (.putfield 32, 3) := by decide +kernel
theorem dX3_advance_55 : decode cX3_advance 55 = .ok (.aload_n 0, 1) := by decide +kernel
theorem dX3_advance_56 : decode cX3_advance 56 = .ok (.aload_n 0, 1) := by decide +kernel
theorem dX3_advance_57 : decode cX3_advance 57 = .ok (.getfield 156, 3) := by decide +kernel
theorem dX3_advance_60 : decode cX3_advance 60 = .ok (.invokevirtual 163, 3) := by decide +kernel
theorem dX3_advance_63 : decode cX3_advance 63 = .ok (.istore_n 1, 1) := by decide +kernel
theorem dX3_advance_64 : decode cX3_advance 64 = .ok (.iload_n 1, 1) := by decide +kernel
theorem dX3_advance_65 : decode cX3_advance 65 = .ok (.iconst (-1), 1) := by decide +kernel
theorem dX3_advance_66 : decode cX3_advance 66 = .ok (.if_icmp .ne 19, 3) := by decide +kernel
theorem dX3_advance_69 : decode cX3_advance 69 = .ok (.aload_n 0, 1) := by decide +kernel
theorem dX3_advance_70 : decode cX3_advance 70 = .ok (.iconst 0, 1) := by decide +kernel
theorem dX3_advance_71 : decode cX3_advance 71 = .ok (.putfield 97, 3) := by decide +kernel
theorem dX3_advance_74 : decode cX3_advance 74 = .ok (.aload_n 0, 1) := by decide +kernel
theorem dX3_advance_75 : decode cX3_advance 75 = .ok (.aload_n 0, 1) := by decide +kernel
theorem dX3_advance_76 : decode cX3_advance 76 = .ok (.getfield 156, 3) := by decide +kernel
theorem dX3_advance_79 : decode cX3_advance 79 = .ok (.putfield 32, 3) := by decide +kernel
theorem dX3_advance_82 : decode cX3_advance 82 = .ok (.goto 155, 3) := by decide +kernel
theorem dX3_advance_85 : decode cX3_advance 85 = .ok (.iload_n 1, 1) := by decide +kernel
theorem dX3_advance_86 : decode cX3_advance 86 = .ok (.invokestatic 170, 3) := by decide +kernel
theorem dX3_advance_89 : decode cX3_advance 89 = .ok (.ifCond .eq 46, 3) := by decide +kernel
theorem dX3_advance_92 : decode cX3_advance 92 = .ok (.aload_n 0, 1) := by decide +kernel
theorem dX3_advance_93 : decode cX3_advance 93 = .ok (.iconst 1, 1) := by decide +kernel
theorem dX3_advance_94 : decode cX3_advance 94 = .ok (.putfield 97, 3) := by decide +kernel
theorem dX3_advance_97 : decode cX3_advance 97 = .ok (.aload_n 0, 1) := by decide +kernel
theorem dX3_advance_98 : decode cX3_advance 98 = .ok (.getfield 32, 3) := by decide +kernel
theorem dX3_advance_101 : decode cX3_advance 101 = .ok (.aload_n 0, 1) := by decide +kernel
theorem dX3_advance_102 : decode cX3_advance 102 = .ok (.getfield 29, 3) := by decide +kernel
theorem dX3_advance_105 : decode cX3_advance 105 = .ok (.if_icmp .ge 132, 3) := by decide +kernel
theorem dX3_advance_108 : decode cX3_advance 108 = .ok (.aload_n 0, 1) := by decide +kernel
theorem dX3_advance_109 : decode cX3_advance 109 = .ok (.aload_n 0, 1) := by decide +kernel
theorem dX3_advance_110 : decode cX3_advance 110 = .ok (.getfield 32, 3) := by decide +kernel
theorem dX3_advance_113 : decode cX3_advance 113 = .ok (.invokevirtual 163, 3) := by decide +kernel
theorem dX3_advance_116 : decode cX3_advance 116 = .ok (.invokestatic 170, 3) := by decide +kernel
theorem dX3_advance_119 : decode cX3_advance 119 = .ok (.ifCond .eq 118, 3) := by decide +kernel
theorem dX3_advance_122 : decode cX3_advance 122 = .ok (.aload_n 0, 1) := by decide +kernel
theorem dX3_advance_123 : decode cX3_advance 123 = .ok (.dup, 1) := by decide +kernel
theorem dX3_advance_124 : decode cX3_advance 124 = .ok (.getfield 32, 3) := by decide +kernel
theorem dX3_advance_127 : decode cX3_advance 127 = .ok (.iconst 1, 1) := by decide +kernel
theorem dX3_advance_128 : decode cX3_advance 128 = .ok (.iadd, 1) := by decide +kernel
theorem dX3_advance_129 : decode cX3_advance 129 = .ok (.putfield 32, 3) := by decide +kernel
theorem dX3_advance_132 : decode cX3_advance 132 = .ok (.goto (-35), 3) := by decide +kernel
theorem dX3_advance_135 : decode cX3_advance 135 = .ok (.iload_n 1, 1) := by decide +kernel
theorem dX3_advance_136 : decode cX3_advance 136 = .ok (.invokestatic 173, 3) := by decide +kernel
theorem dX3_advance_139 : decode cX3_advance 139 = .ok (.ifCond .eq 83, 3) := by decide +kernel
theorem dX3_advance_142 : decode cX3_advance 142 = .ok (.aload_n 0, 1) := by decide +kernel
theorem dX3_advance_143 : decode cX3_advance 143 = .ok (.iconst 2, 1) := by decide +kernel
theorem dX3_advance_144 : decode cX3_advance 144 = .ok (.putfield 97, 3) := by decide +kernel
theorem dX3_advance_147 : decode cX3_advance 147 = .ok (.aload_n 0, 1) := by decide +kernel
theorem dX3_advance_148 : decode cX3_advance 148 = .ok (.iload_n 1, 1) := by decide +kernel
theorem dX3_advance_149 : decode cX3_advance 149 = .ok (.bipush 48, 2) := by decide +kernel
theorem dX3_advance_151 : decode cX3_advance 151 = .ok (.isub, 1) := by decide +kernel
theorem dX3_advance_152 : decode cX3_advance 152 = .ok (.putfield 114, 3) := by decide +kernel
theorem dX3_advance_155 : decode cX3_advance 155 = .ok (.aload_n 0, 1) := by decide +kernel
theorem dX3_advance_156 : decode cX3_advance 156 = .ok (.getfield 32, 3) := by decide +kernel
theorem dX3_advance_159 : decode cX3_advance 159 = .ok (.aload_n 0, 1) := by decide +kernel
theorem dX3_advance_160 : decode cX3_advance 160 = .ok (.getfield 29, 3) := by decide +kernel
theorem dX3_advance_163 : decode cX3_advance 163 = .ok (.if_icmp .ge 74, 3) := by decide +kernel
theorem dX3_advance_166 : decode cX3_advance 166 = .ok (.aload_n 0, 1) := by decide +kernel
theorem dX3_advance_167 : decode cX3_advance 167 = .ok (.aload_n 0, 1) := by decide +kernel
theorem dX3_advance_168 : decode cX3_advance 168 = .ok (.getfield 32, 3) := by decide +kernel
theorem dX3_advance_171 : decode cX3_advance 171 = .ok (.invokevirtual 163, 3) := by decide +kernel
theorem dX3_advance_174 : decode cX3_advance 174 = .ok (.invokestatic 173, 3) := by decide +kernel
theorem dX3_advance_177 : decode cX3_advance 177 = .ok (.ifCond .eq 60, 3) := by decide +kernel
theorem dX3_advance_180 : decode cX3_advance 180 = .ok (.aload_n 0, 1) := by decide +kernel
theorem dX3_advance_181 : decode cX3_advance 181 = .ok (.bipush 10, 2) := by decide +kernel
theorem dX3_advance_183 : decode cX3_advance 183 = .ok (.aload_n 0, 1) := by decide +kernel
theorem dX3_advance_184 : decode cX3_advance 184 = .ok (.getfield 114, 3) := by decide +kernel
theorem dX3_advance_187 : decode cX3_advance 187 = .ok (.imul, 1) := by decide +kernel
theorem dX3_advance_188 : decode cX3_advance 188 = .ok (.aload_n 0, 1) := by decide +kernel
theorem dX3_advance_189 : decode cX3_advance 189 = .ok (.aload_n 0, 1) := by decide +kernel
theorem dX3_advance_190 : decode cX3_advance 190 = .ok (.getfield 32, 3) := by decide +kernel
theorem dX3_advance_193 : decode cX3_advance 193 = .ok (.invokevirtual 163, 3) := by decide +kernel
theorem dX3_advance_196 : decode cX3_advance 196 = .ok (.iadd, 1) := by decide +kernel
theorem dX3_advance_197 : decode cX3_advance 197 = .ok (.bipush 48, 2) := by decide +kernel
theorem dX3_advance_199 : decode cX3_advance 199 = .ok (.isub, 1) := by decide +kernel
theorem dX3_advance_200 : decode cX3_advance 200 = .ok (.sipush 1000, 3) := by decide +kernel
theorem dX3_advance_203 : decode cX3_advance 203 = .ok (.invokestatic 176, 3) := by decide +kernel
theorem dX3_advance_206 : decode cX3_advance 206 = .ok (.putfield 114, 3) := by decide +kernel
theorem dX3_advance_209 : decode cX3_advance 209 = .ok (.aload_n 0, 1) := by decide +kernel
theorem dX3_advance_210 : decode cX3_advance 210 = .ok (.dup, 1) := by decide +kernel
theorem dX3_advance_211 : decode cX3_advance 211 = .ok (.getfield 32, 3) := by decide +kernel
theorem dX3_advance_214 : decode cX3_advance 214 = .ok (.iconst 1, 1) := by decide +kernel
theorem dX3_advance_215 : decode cX3_advance 215 = .ok (.iadd, 1) := by decide +kernel
theorem dX3_advance_216 : decode cX3_advance 216 = .ok (.putfield 32, 3) := by decide +kernel
theorem dX3_advance_219 : decode cX3_advance 219 = .ok (.goto (-64), 3) := by decide +kernel
theorem dX3_advance_222 : decode cX3_advance 222 = .ok (.aload_n 0, 1) := by decide +kernel
theorem dX3_advance_223 : decode cX3_advance 223 = .ok (.iload_n 1, 1) := by decide +kernel
theorem dX3_advance_224 : decode cX3_advance 224 = .ok (.bipush 59, 2) := by decide +kernel
theorem dX3_advance_226 : decode cX3_advance 226 = .ok (.if_icmp .ne 7, 3) := by decide +kernel
theorem dX3_advance_229 : decode cX3_advance 229 = .ok (.iconst 3, 1) := by decide +kernel
theorem dX3_advance_230 : decode cX3_advance 230 = .ok (.goto 4, 3) := by decide +kernel
theorem dX3_advance_233 : decode cX3_advance 233 = .ok (.iconst 4, 1) := by decide +kernel
theorem dX3_advance_234 : decode cX3_advance 234 = .ok (.putfield 97, 3) := by decide +kernel
theorem dX3_advance_237 : decode cX3_advance 237 = .ok (.return_, 1) := by decide +kernel
theorem dX3_byteAt_0 : decode cX3_byteAt 0 = .ok (.iload_n 1, 1) := by decide +kernel
theorem dX3_byteAt_1 : decode cX3_byteAt 1 = .ok (.ifCond .lt 24, 3) := by decide +kernel
theorem dX3_byteAt_4 : decode cX3_byteAt 4 = .ok (.iload_n 1, 1) := by decide +kernel
theorem dX3_byteAt_5 : decode cX3_byteAt 5 = .ok (.aload_n 0, 1) := by decide +kernel
theorem dX3_byteAt_6 : decode cX3_byteAt 6 = .ok (.getfield 29, 3) := by decide +kernel
theorem dX3_byteAt_9 : decode cX3_byteAt 9 = .ok (.if_icmp .ge 16, 3) := by decide +kernel
theorem dX3_byteAt_12 : decode cX3_byteAt 12 = .ok (.iload_n 1, 1) := by decide +kernel
theorem dX3_byteAt_13 : decode cX3_byteAt 13 = .ok (.aload_n 0, 1) := by decide +kernel
theorem dX3_byteAt_14 : decode cX3_byteAt 14 = .ok (.getfield 22, 3) := by decide +kernel
theorem dX3_byteAt_17 : decode cX3_byteAt 17 = .ok (.arraylength, 1) := by decide +kernel
theorem dX3_byteAt_18 : decode cX3_byteAt 18 = .ok (.if_icmp .ge 7, 3) := by decide +kernel
theorem dX3_byteAt_21 : decode cX3_byteAt 21 = .ok (.iconst 1, 1) := by decide +kernel
theorem dX3_byteAt_22 : decode cX3_byteAt 22 = .ok (.goto 4, 3) := by decide +kernel
theorem dX3_byteAt_25 : decode cX3_byteAt 25 = .ok (.iconst 0, 1) := by decide +kernel
theorem dX3_byteAt_26 : decode cX3_byteAt 26 = .ok (.istore_n 2, 1) := by decide +kernel
theorem dX3_byteAt_27 : decode cX3_byteAt 27 = .ok (.iload_n 2, 1) := by decide +kernel
theorem dX3_byteAt_28 : decode cX3_byteAt 28 = .ok (.ifCond .eq 16, 3) := by decide +kernel
theorem dX3_byteAt_31 : decode cX3_byteAt 31 = .ok (.aload_n 0, 1) := by decide +kernel
theorem dX3_byteAt_32 : decode cX3_byteAt 32 = .ok (.getfield 22, 3) := by decide +kernel
theorem dX3_byteAt_35 : decode cX3_byteAt 35 = .ok (.iload_n 1, 1) := by decide +kernel
theorem dX3_byteAt_36 : decode cX3_byteAt 36 = .ok (.baload, 1) := by decide +kernel
theorem dX3_byteAt_37 : decode cX3_byteAt 37 = .ok (.sipush 255, 3) := by decide +kernel
theorem dX3_byteAt_40 : decode cX3_byteAt 40 = .ok (.iand, 1) := by decide +kernel
theorem dX3_byteAt_41 : decode cX3_byteAt 41 = .ok (.goto 4, 3) := by decide +kernel
theorem dX3_byteAt_44 : decode cX3_byteAt 44 = .ok (.iconst (-1), 1) := by decide +kernel
theorem dX3_byteAt_45 : decode cX3_byteAt 45 = .ok (.ireturn, 1) := by decide +kernel
theorem dX3_isLetter_0 : decode cX3_isLetter 0 = .ok (.iload_n 0, 1) := by decide +kernel
theorem dX3_isLetter_1 : decode cX3_isLetter 1 = .ok (.bipush 97, 2) := by decide +kernel
theorem dX3_isLetter_3 : decode cX3_isLetter 3 = .ok (.if_icmp .lt 13, 3) := by decide +kernel
theorem dX3_isLetter_6 : decode cX3_isLetter 6 = .ok (.iload_n 0, 1) := by decide +kernel
theorem dX3_isLetter_7 : decode cX3_isLetter 7 = .ok (.bipush 122, 2) := by decide +kernel
theorem dX3_isLetter_9 : decode cX3_isLetter 9 = .ok (.if_icmp .gt 7, 3) := by decide +kernel
theorem dX3_isLetter_12 : decode cX3_isLetter 12 = .ok (.iconst 1, 1) := by decide +kernel
theorem dX3_isLetter_13 : decode cX3_isLetter 13 = .ok (.goto 4, 3) := by decide +kernel
theorem dX3_isLetter_16 : decode cX3_isLetter 16 = .ok (.iconst 0, 1) := by decide +kernel
theorem dX3_isLetter_17 : decode cX3_isLetter 17 = .ok (.ireturn, 1) := by decide +kernel
theorem dX3_isDigit_0 : decode cX3_isDigit 0 = .ok (.iload_n 0, 1) := by decide +kernel
theorem dX3_isDigit_1 : decode cX3_isDigit 1 = .ok (.bipush 48, 2) := by decide +kernel
theorem dX3_isDigit_3 : decode cX3_isDigit 3 = .ok (.if_icmp .lt 13, 3) := by decide +kernel
theorem dX3_isDigit_6 : decode cX3_isDigit 6 = .ok (.iload_n 0, 1) := by decide +kernel
theorem dX3_isDigit_7 : decode cX3_isDigit 7 = .ok (.bipush 57, 2) := by decide +kernel
theorem dX3_isDigit_9 : decode cX3_isDigit 9 = .ok (.if_icmp .gt 7, 3) := by decide +kernel
theorem dX3_isDigit_12 : decode cX3_isDigit 12 = .ok (.iconst 1, 1) := by decide +kernel
theorem dX3_isDigit_13 : decode cX3_isDigit 13 = .ok (.goto 4, 3) := by decide +kernel
theorem dX3_isDigit_16 : decode cX3_isDigit 16 = .ok (.iconst 0, 1) := by decide +kernel
theorem dX3_isDigit_17 : decode cX3_isDigit 17 = .ok (.ireturn, 1) := by decide +kernel
theorem dX3_fail_0 : decode cX3_fail 0 = .ok (.aload_n 0, 1) := by decide +kernel
theorem dX3_fail_1 : decode cX3_fail 1 = .ok (.iload_n 1, 1) := by decide +kernel
theorem dX3_fail_2 : decode cX3_fail 2 = .ok (.putfield 54, 3) := by decide +kernel
theorem dX3_fail_5 : decode cX3_fail 5 = .ok (.aload_n 0, 1) := by decide +kernel
theorem dX3_fail_6 : decode cX3_fail 6 = .ok (.aload_n 0, 1) := by decide +kernel
theorem dX3_fail_7 : decode cX3_fail 7 = .ok (.getfield 156, 3) := by decide +kernel
theorem dX3_fail_10 : decode cX3_fail 10 = .ok (.putfield 18, 3) := by decide +kernel
theorem dX3_fail_13 : decode cX3_fail 13 = .ok (.iconst 0, 1) := by decide +kernel
theorem dX3_fail_14 : decode cX3_fail 14 = .ok (.ireturn, 1) := by decide +kernel
theorem dX4_init_0 : decode cX4_init 0 = .ok (.aload_n 0, 1) := by decide +kernel
theorem dX4_init_1 : decode cX4_init 1 = .ok (.invokespecial 5, 3) := by decide +kernel
theorem dX4_init_4 : decode cX4_init 4 = .ok (.aload_n 0, 1) := by decide +kernel
theorem dX4_init_5 : decode cX4_init 5 = .ok (.new 11, 3) := by decide +kernel
theorem dX4_init_8 : decode cX4_init 8 = .ok (.dup, 1) := by decide +kernel
theorem dX4_init_9 : decode cX4_init 9 = .ok (.invokespecial 13, 3) := by decide +kernel
theorem dX4_init_12 : decode cX4_init 12 = .ok (.putfield 14, 3) := by decide +kernel
theorem dX4_init_15 : decode cX4_init 15 = .ok (.aload_n 0, 1) := by decide +kernel
theorem dX4_init_16 : decode cX4_init 16 = .ok (.ldc 18, 2) := by decide +kernel
theorem dX4_init_18 : decode cX4_init 18 = .ok (.newarray .long, 2) := by decide +kernel
theorem dX4_init_20 : decode cX4_init 20 = .ok (.putfield 19, 3) := by decide +kernel
theorem dX4_init_23 : decode cX4_init 23 = .ok (.aload_n 0, 1) := by decide +kernel
theorem dX4_init_24 : decode cX4_init 24 = .ok (.ldc 18, 2) := by decide +kernel
theorem dX4_init_26 : decode cX4_init 26 = .ok (.newarray .int, 2) := by decide +kernel
theorem dX4_init_28 : decode cX4_init 28 = .ok (.putfield 23, 3) := by decide +kernel
theorem dX4_init_31 : decode cX4_init 31 = .ok (.return_, 1) := by decide +kernel
theorem dX4_ofPartsIn_0 : decode cX4_ofPartsIn 0 = .ok (.iconst 0, 1) := by decide +kernel
theorem dX4_ofPartsIn_1 : decode cX4_ofPartsIn 1 = .ok (.istore_n 2, 1) := by decide +kernel
theorem dX4_ofPartsIn_2 : decode cX4_ofPartsIn 2 = .ok (.iload_n 1, 1) := by decide +kernel
theorem dX4_ofPartsIn_3 : decode cX4_ofPartsIn 3 = .ok (.istore_n 3, 1) := by decide +kernel
theorem dX4_ofPartsIn_4 : decode cX4_ofPartsIn 4 = .ok (.iconst 0, 1) := by decide +kernel
theorem dX4_ofPartsIn_5 : decode cX4_ofPartsIn 5 = .ok (.istore 4, 2) := by decide +kernel
theorem dX4_ofPartsIn_7 : decode cX4_ofPartsIn 7 = .ok (.iload 4, 2) := by decide +kernel
theorem dX4_ofPartsIn_9 : decode cX4_ofPartsIn 9 = .ok (.bipush 9, 2) := by decide +kernel
theorem dX4_ofPartsIn_11 : decode cX4_ofPartsIn 11 = .ok (.if_icmp .ge 50, 3) := by decide +kernel
theorem dX4_ofPartsIn_14 : decode cX4_ofPartsIn 14 = .ok (.iload_n 3, 1) := by decide +kernel
theorem dX4_ofPartsIn_15 : decode cX4_ofPartsIn 15 = .ok (.ifCond .eq 46, 3) := by decide +kernel
theorem dX4_ofPartsIn_18 : decode cX4_ofPartsIn 18 = .ok (.aload_n 0, 1) := by decide +kernel
theorem dX4_ofPartsIn_19 : decode cX4_ofPartsIn 19 = .ok (.getfield 14, 3) := by decide +kernel
theorem dX4_ofPartsIn_22 : decode cX4_ofPartsIn 22 = .ok (.iload_n 3, 1) := by decide +kernel
theorem dX4_ofPartsIn_23 : decode cX4_ofPartsIn 23 = .ok (.iload_n 3, 1) := by decide +kernel
theorem dX4_ofPartsIn_24 : decode cX4_ofPartsIn 24 = .ok (.ineg, 1) := by decide +kernel
theorem dX4_ofPartsIn_25 : decode cX4_ofPartsIn 25 = .ok (.iand, 1) := by decide +kernel
theorem dX4_ofPartsIn_26 : decode cX4_ofPartsIn 26 = .ok (.iload_n 3, 1) := by decide +kernel
theorem dX4_ofPartsIn_27 : decode cX4_ofPartsIn 27 = .ok (.invokevirtual 27, 3) := by decide +kernel
theorem dX4_ofPartsIn_30 : decode cX4_ofPartsIn 30 = .ok (.istore 5, 2) := by decide +kernel
theorem dX4_ofPartsIn_32 : decode cX4_ofPartsIn 32 = .ok (.iload_n 2, 1) := by decide +kernel
theorem dX4_ofPartsIn_33 : decode cX4_ofPartsIn 33 = .ok (.aload_n 0, 1) := by decide +kernel
theorem dX4_ofPartsIn_34 : decode cX4_ofPartsIn 34 = .ok (.aload_n 0, 1) := by decide +kernel
theorem dX4_ofPartsIn_35 : decode cX4_ofPartsIn 35 = .ok (.iload 5, 2) := by decide +kernel
theorem dX4_ofPartsIn_37 : decode cX4_ofPartsIn 37 = .ok (.invokevirtual 31, 3) := by decide +kernel
theorem dX4_ofPartsIn_40 : decode cX4_ofPartsIn 40 = .ok (.iconst 0, 1) := by decide +kernel
theorem dX4_ofPartsIn_41 : decode cX4_ofPartsIn 41 = .ok (.invokevirtual 35, 3) := by decide +kernel
theorem dX4_ofPartsIn_44 : decode cX4_ofPartsIn 44 = .ok (.invokestatic 39, 3) := by decide +kernel
theorem dX4_ofPartsIn_47 : decode cX4_ofPartsIn 47 = .ok (.istore_n 2, 1) := by decide +kernel
theorem dX4_ofPartsIn_48 : decode cX4_ofPartsIn 48 = .ok (.iload_n 3, 1) := by decide +kernel
theorem dX4_ofPartsIn_49 : decode cX4_ofPartsIn 49 = .ok (.iload 5, 2) := by decide +kernel
theorem dX4_ofPartsIn_51 : decode cX4_ofPartsIn 51 = .ok (.iconst (-1), 1) := by decide +kernel
theorem dX4_ofPartsIn_52 : decode cX4_ofPartsIn 52 = .ok (.ixor, 1) := by decide +kernel
theorem dX4_ofPartsIn_53 : decode cX4_ofPartsIn 53 = .ok (.iand, 1) := by decide +kernel
theorem dX4_ofPartsIn_54 : decode cX4_ofPartsIn 54 = .ok (.istore_n 3, 1) := by decide +kernel
