theorem dX0_init_0 : decode cX0_init 0 = .ok (.aload_n 0, 1) := by decide +kernel
theorem dX0_init_1 : decode cX0_init 1 = .ok (.invokespecial 3, 3) := by decide +kernel
theorem dX0_init_4 : decode cX0_init 4 = .ok (.aload_n 0, 1) := by decide +kernel
theorem dX0_init_5 : decode cX0_init 5 = .ok (.bipush 9, 2) := by decide +kernel
theorem dX0_init_7 : decode cX0_init 7 = .ok (.newarray .int, 2) := by decide +kernel
theorem dX0_init_9 : decode cX0_init 9 = .ok (.putfield 9, 3) := by decide +kernel
theorem dX0_init_12 : decode cX0_init 12 = .ok (.aload_n 0, 1) := by decide +kernel
theorem dX0_init_13 : decode cX0_init 13 = .ok (.iconst 3, 1) := by decide +kernel
theorem dX0_init_14 : decode cX0_init 14 = .ok (.newarray .int, 2) := by decide +kernel
theorem dX0_init_16 : decode cX0_init 16 = .ok (.putfield 15, 3) := by decide +kernel
theorem dX0_init_19 : decode cX0_init 19 = .ok (.aload_n 0, 1) := by decide +kernel
theorem dX0_init_20 : decode cX0_init 20 = .ok (.iconst 3, 1) := by decide +kernel
theorem dX0_init_21 : decode cX0_init 21 = .ok (.newarray .int, 2) := by decide +kernel
theorem dX0_init_23 : decode cX0_init 23 = .ok (.putfield 18, 3) := by decide +kernel
theorem dX0_init_26 : decode cX0_init 26 = .ok (.aload_n 0, 1) := by decide +kernel
theorem dX0_init_27 : decode cX0_init 27 = .ok (.iconst 3, 1) := by decide +kernel
theorem dX0_init_28 : decode cX0_init 28 = .ok (.newarray .int, 2) := by decide +kernel
theorem dX0_init_30 : decode cX0_init 30 = .ok (.putfield 21, 3) := by decide +kernel
theorem dX0_init_33 : decode cX0_init 33 = .ok (.aload_n 0, 1) := by decide +kernel
theorem dX0_init_34 : decode cX0_init 34 = .ok (.iconst 1, 1) := by decide +kernel
theorem dX0_init_35 : decode cX0_init 35 = .ok (.putfield 24, 3) := by decide +kernel
theorem dX0_init_38 : decode cX0_init 38 = .ok (.aload_n 0, 1) := by decide +kernel
theorem dX0_init_39 : decode cX0_init 39 = .ok (.iconst 1, 1) := by decide +kernel
theorem dX0_init_40 : decode cX0_init 40 = .ok (.putfield 28, 3) := by decide +kernel
theorem dX0_init_43 : decode cX0_init 43 = .ok (.aload_n 0, 1) := by decide +kernel
theorem dX0_init_44 : decode cX0_init 44 = .ok (.iconst 1, 1) := by decide +kernel
theorem dX0_init_45 : decode cX0_init 45 = .ok (.putfield 31, 3) := by decide +kernel
theorem dX0_init_48 : decode cX0_init 48 = .ok (.iconst 0, 1) := by decide +kernel
theorem dX0_init_49 : decode cX0_init 49 = .ok (.istore_n 1, 1) := by decide +kernel
theorem dX0_init_50 : decode cX0_init 50 = .ok (.iload_n 1, 1) := by decide +kernel
theorem dX0_init_51 : decode cX0_init 51 = .ok (.aload_n 0, 1) := by decide +kernel
theorem dX0_init_52 : decode cX0_init 52 = .ok (.getfield 24, 3) := by decide +kernel
theorem dX0_init_55 : decode cX0_init 55 = .ok (.if_icmp .ge 25, 3) := by decide +kernel
theorem dX0_init_58 : decode cX0_init 58 = .ok (.iload_n 1, 1) := by decide +kernel
theorem dX0_init_59 : decode cX0_init 59 = .ok (.aload_n 0, 1) := by decide +kernel
theorem dX0_init_60 : decode cX0_init 60 = .ok (.getfield 15, 3) := by decide +kernel
theorem dX0_init_63 : decode cX0_init 63 = .ok (.arraylength, 1) := by decide +kernel
theorem dX0_init_64 : decode cX0_init 64 = .ok (.if_icmp .ge 16, 3) := by decide +kernel
theorem dX0_init_67 : decode cX0_init 67 = .ok (.aload_n 0, 1) := by decide +kernel
theorem dX0_init_68 : decode cX0_init 68 = .ok (.getfield 15, 3) := by decide +kernel
theorem dX0_init_71 : decode cX0_init 71 = .ok (.iload_n 1, 1) := by decide +kernel
theorem dX0_init_72 : decode cX0_init 72 = .ok (.iconst 1, 1) := by decide +kernel
theorem dX0_init_73 : decode cX0_init 73 = .ok (.iastore, 1) := by decide +kernel
theorem dX0_init_74 : decode cX0_init 74 = .ok (.iinc 1 1, 3) := by decide +kernel
theorem dX0_init_77 : decode cX0_init 77 = .ok (.goto (-27), 3) := by decide +kernel
theorem dX0_init_80 : decode cX0_init 80 = .ok (.return_, 1) := by decide +kernel
theorem dX0_takeFrom_0 : decode cX0_takeFrom 0 = .ok (.aload_n 0, 1) := by decide +kernel
theorem dX0_takeFrom_1 : decode cX0_takeFrom 1 = .ok (.aload_n 1, 1) := by decide +kernel
theorem dX0_takeFrom_2 : decode cX0_takeFrom 2 = .ok (.getfield 34, 3) := by decide +kernel
theorem dX0_takeFrom_5 : decode cX0_takeFrom 5 = .ok (.putfield 34, 3) := by decide +kernel
theorem dX0_takeFrom_8 : decode cX0_takeFrom 8 = .ok (.aload_n 0, 1) := by decide +kernel
theorem dX0_takeFrom_9 : decode cX0_takeFrom 9 = .ok (.aload_n 1, 1) := by decide +kernel
theorem dX0_takeFrom_10 : decode cX0_takeFrom 10 = .ok (.getfield 24, 3) := by decide +kernel
theorem dX0_takeFrom_13 : decode cX0_takeFrom 13 = .ok (.putfield 24, 3) := by decide +kernel
theorem dX0_takeFrom_16 : decode cX0_takeFrom 16 = .ok (.aload_n 0, 1) := by decide +kernel
theorem dX0_takeFrom_17 : decode cX0_takeFrom 17 = .ok (.aload_n 1, 1) := by decide +kernel
theorem dX0_takeFrom_18 : decode cX0_takeFrom 18 = .ok (.getfield 28, 3) := by decide +kernel
theorem dX0_takeFrom_21 : decode cX0_takeFrom 21 = .ok (.putfield 28, 3) := by decide +kernel
theorem dX0_takeFrom_24 : decode cX0_takeFrom 24 = .ok (.aload_n 0, 1) := by decide +kernel
theorem dX0_takeFrom_25 : decode cX0_takeFrom 25 = .ok (.aload_n 1, 1) := by decide +kernel
theorem dX0_takeFrom_26 : decode cX0_takeFrom 26 = .ok (.getfield 37, 3) := by decide +kernel
theorem dX0_takeFrom_29 : decode cX0_takeFrom 29 = .ok (.putfield 37, 3) := by decide +kernel
theorem dX0_takeFrom_32 : decode cX0_takeFrom 32 = .ok (.aload_n 0, 1) := by decide +kernel
theorem dX0_takeFrom_33 : decode cX0_takeFrom 33 = .ok (.aload_n 1, 1) := by decide +kernel
theorem dX0_takeFrom_34 : decode cX0_takeFrom 34 = .ok (.getfield 31, 3) := by decide +kernel
theorem dX0_takeFrom_37 : decode cX0_takeFrom 37 = .ok (.putfield 31, 3) := by decide +kernel
theorem dX0_takeFrom_40 : decode cX0_takeFrom 40 = .ok (.aload_n 0, 1) := by decide +kernel
theorem dX0_takeFrom_41 : decode cX0_takeFrom 41 = .ok (.aload_n 1, 1) := by decide +kernel
theorem dX0_takeFrom_42 : decode cX0_takeFrom 42 = .ok (.getfield 40, 3) := by decide +kernel
theorem dX0_takeFrom_45 : decode cX0_takeFrom 45 = .ok (.putfield 40, 3) := by decide +kernel
theorem dX0_takeFrom_48 : decode cX0_takeFrom 48 = .ok (.aload_n 0, 1) := by decide +kernel
theorem dX0_takeFrom_49 : decode cX0_takeFrom 49 = .ok (.aload_n 1, 1) := by decide +kernel
theorem dX0_takeFrom_50 : decode cX0_takeFrom 50 = .ok (.getfield 43, 3) := by decide +kernel
theorem dX0_takeFrom_53 : decode cX0_takeFrom 53 = .ok (.putfield 43, 3) := by decide +kernel
theorem dX0_takeFrom_56 : decode cX0_takeFrom 56 = .ok (.aload_n 1, 1) := by decide +kernel
theorem dX0_takeFrom_57 : decode cX0_takeFrom 57 = .ok (.getfield 9, 3) := by decide +kernel
theorem dX0_takeFrom_60 : decode cX0_takeFrom 60 = .ok (.aload_n 0, 1) := by decide +kernel
theorem dX0_takeFrom_61 : decode cX0_takeFrom 61 = .ok (.getfield 9, 3) := by decide +kernel
theorem dX0_takeFrom_64 : decode cX0_takeFrom 64 = .ok (.invokestatic 47, 3) := by decide +kernel
theorem dX0_takeFrom_67 : decode cX0_takeFrom 67 = .ok (.aload_n 1, 1) := by decide +kernel
theorem dX0_takeFrom_68 : decode cX0_takeFrom 68 = .ok (.getfield 15, 3) := by decide +kernel
theorem dX0_takeFrom_71 : decode cX0_takeFrom 71 = .ok (.aload_n 0, 1) := by decide +kernel
theorem dX0_takeFrom_72 : decode cX0_takeFrom 72 = .ok (.getfield 15, 3) := by decide +kernel
theorem dX0_takeFrom_75 : decode cX0_takeFrom 75 = .ok (.invokestatic 47, 3) := by decide +kernel
theorem dX0_takeFrom_78 : decode cX0_takeFrom 78 = .ok (.aload_n 1, 1) := by decide +kernel
theorem dX0_takeFrom_79 : decode cX0_takeFrom 79 = .ok (.getfield 18, 3) := by decide +kernel
theorem dX0_takeFrom_82 : decode cX0_takeFrom 82 = .ok (.aload_n 0, 1) := by decide +kernel
theorem dX0_takeFrom_83 : decode cX0_takeFrom 83 = .ok (.getfield 18, 3) := by decide +kernel
theorem dX0_takeFrom_86 : decode cX0_takeFrom 86 = .ok (.invokestatic 47, 3) := by decide +kernel
theorem dX0_takeFrom_89 : decode cX0_takeFrom 89 = .ok (.aload_n 1, 1) := by decide +kernel
theorem dX0_takeFrom_90 : decode cX0_takeFrom 90 = .ok (.getfield 21, 3) := by decide +kernel
theorem dX0_takeFrom_93 : decode cX0_takeFrom 93 = .ok (.aload_n 0, 1) := by decide +kernel
theorem dX0_takeFrom_94 : decode cX0_takeFrom 94 = .ok (.getfield 21, 3) := by decide +kernel
theorem dX0_takeFrom_97 : decode cX0_takeFrom 97 = .ok (.invokestatic 47, 3) := by decide +kernel
theorem dX0_takeFrom_100 : decode cX0_takeFrom 100 = .ok (.return_, 1) := by decide +kernel
theorem dX0_startEmpty_0 : decode cX0_startEmpty 0 = .ok (.aload_n 0, 1) := by decide +kernel
theorem dX0_startEmpty_1 : decode cX0_startEmpty 1 = .ok (.iload_n 1, 1) := by decide +kernel
theorem dX0_startEmpty_2 : decode cX0_startEmpty 2 = .ok (.putfield 24, 3) := by decide +kernel
theorem dX0_startEmpty_5 : decode cX0_startEmpty 5 = .ok (.aload_n 0, 1) := by decide +kernel
theorem dX0_startEmpty_6 : decode cX0_startEmpty 6 = .ok (.iconst 0, 1) := by decide +kernel
theorem dX0_startEmpty_7 : decode cX0_startEmpty 7 = .ok (.putfield 28, 3) := by decide +kernel
theorem dX0_startEmpty_10 : decode cX0_startEmpty 10 = .ok (.aload_n 0, 1) := by decide +kernel
theorem dX0_startEmpty_11 : decode cX0_startEmpty 11 = .ok (.iconst 0, 1) := by decide +kernel
theorem dX0_startEmpty_12 : decode cX0_startEmpty 12 = .ok (.putfield 37, 3) := by decide +kernel
theorem dX0_startEmpty_15 : decode cX0_startEmpty 15 = .ok (.aload_n 0, 1) := by decide +kernel
theorem dX0_startEmpty_16 : decode cX0_startEmpty 16 = .ok (.iconst 0, 1) := by decide +kernel
theorem dX0_startEmpty_17 : decode cX0_startEmpty 17 = .ok (.putfield 31, 3) := by decide +kernel
theorem dX0_startEmpty_20 : decode cX0_startEmpty 20 = .ok (.aload_n 0, 1) := by decide +kernel
theorem dX0_startEmpty_21 : decode cX0_startEmpty 21 = .ok (.iconst 0, 1) := by decide +kernel
theorem dX0_startEmpty_22 : decode cX0_startEmpty 22 = .ok (.putfield 40, 3) := by decide +kernel
theorem dX0_startEmpty_25 : decode cX0_startEmpty 25 = .ok (.aload_n 0, 1) := by decide +kernel
theorem dX0_startEmpty_26 : decode cX0_startEmpty 26 = .ok (.aconst_null, 1) := by decide +kernel
theorem dX0_startEmpty_27 : decode cX0_startEmpty 27 = .ok (.putfield 43, 3) := by decide +kernel
theorem dX0_startEmpty_30 : decode cX0_startEmpty 30 = .ok (.aload_n 0, 1) := by decide +kernel
theorem dX0_startEmpty_31 : decode cX0_startEmpty 31 = .ok (.getfield 9, 3) := by decide +kernel
theorem dX0_startEmpty_34 : decode cX0_startEmpty 34 = .ok (.invokestatic 51, 3) := by decide +kernel
theorem dX0_startEmpty_37 : decode cX0_startEmpty 37 = .ok (.aload_n 0, 1) := by decide +kernel
theorem dX0_startEmpty_38 : decode cX0_startEmpty 38 = .ok (.getfield 15, 3) := by decide +kernel
theorem dX0_startEmpty_41 : decode cX0_startEmpty 41 = .ok (.invokestatic 51, 3) := by decide +kernel
theorem dX0_startEmpty_44 : decode cX0_startEmpty 44 = .ok (.aload_n 0, 1) := by decide +kernel
theorem dX0_startEmpty_45 : decode cX0_startEmpty 45 = .ok (.getfield 18, 3) := by decide +kernel
theorem dX0_startEmpty_48 : decode cX0_startEmpty 48 = .ok (.invokestatic 51, 3) := by decide +kernel
theorem dX0_startEmpty_51 : decode cX0_startEmpty 51 = .ok (.aload_n 0, 1) := by decide +kernel
theorem dX0_startEmpty_52 : decode cX0_startEmpty 52 = .ok (.getfield 21, 3) := by decide +kernel
theorem dX0_startEmpty_55 : decode cX0_startEmpty 55 = .ok (.invokestatic 51, 3) := by decide +kernel
theorem dX0_startEmpty_58 : decode cX0_startEmpty 58 = .ok (.return_, 1) := by decide +kernel
theorem dX0_isFull_0 : decode cX0_isFull 0 = .ok (.iconst 1, 1) := by decide +kernel
theorem dX0_isFull_1 : decode cX0_isFull 1 = .ok (.istore_n 1, 1) := by decide +kernel
theorem dX0_isFull_2 : decode cX0_isFull 2 = .ok (.iconst 0, 1) := by decide +kernel
theorem dX0_isFull_3 : decode cX0_isFull 3 = .ok (.istore_n 2, 1) := by decide +kernel
theorem dX0_isFull_4 : decode cX0_isFull 4 = .ok (.iload_n 2, 1) := by decide +kernel
theorem dX0_isFull_5 : decode cX0_isFull 5 = .ok (.aload_n 0, 1) := by decide +kernel
theorem dX0_isFull_6 : decode cX0_isFull 6 = .ok (.getfield 28, 3) := by decide +kernel
theorem dX0_isFull_9 : decode cX0_isFull 9 = .ok (.if_icmp .gt 24, 3) := by decide +kernel
theorem dX0_isFull_12 : decode cX0_isFull 12 = .ok (.iload_n 2, 1) := by decide +kernel
theorem dX0_isFull_13 : decode cX0_isFull 13 = .ok (.bipush 9, 2) := by decide +kernel
theorem dX0_isFull_15 : decode cX0_isFull 15 = .ok (.if_icmp .gt 18, 3) := by decide +kernel
theorem dX0_isFull_18 : decode cX0_isFull 18 = .ok (.iload_n 1, 1) := by decide +kernel
theorem dX0_isFull_19 : decode cX0_isFull 19 = .ok (.aload_n 0, 1) := by decide +kernel
theorem dX0_isFull_20 : decode cX0_isFull 20 = .ok (.getfield 24, 3) := by decide +kernel
theorem dX0_isFull_23 : decode cX0_isFull 23 = .ok (.iconst 1, 1) := by decide +kernel
theorem dX0_isFull_24 : decode cX0_isFull 24 = .ok (.iadd, 1) := by decide +kernel
theorem dX0_isFull_25 : decode cX0_isFull 25 = .ok (.imul, 1) := by decide +kernel
theorem dX0_isFull_26 : decode cX0_isFull 26 = .ok (.istore_n 1, 1) := by decide +kernel
theorem dX0_isFull_27 : decode cX0_isFull 27 = .ok (.iinc 2 1, 3) := by decide +kernel
theorem dX0_isFull_30 : decode cX0_isFull 30 = .ok (.goto (-26), 3) := by decide +kernel
theorem dX0_isFull_33 : decode cX0_isFull 33 = .ok (.aload_n 0, 1) := by decide +kernel
theorem dX0_isFull_34 : decode cX0_isFull 34 = .ok (.getfield 28, 3) := by decide +kernel
theorem dX0_isFull_37 : decode cX0_isFull 37 = .ok (.bipush 9, 2) := by decide +kernel
theorem dX0_isFull_39 : decode cX0_isFull 39 = .ok (.if_icmp .ge 10, 3) := by decide +kernel
theorem dX0_isFull_42 : decode cX0_isFull 42 = .ok (.iload_n 1, 1) := by decide +kernel
theorem dX0_isFull_43 : decode cX0_isFull 43 = .ok (.sipush 20000, 3) := by decide +kernel
theorem dX0_isFull_46 : decode cX0_isFull 46 = .ok (.if_icmp .le 7, 3) := by decide +kernel
theorem dX0_isFull_49 : decode cX0_isFull 49 = .ok (.iconst 1, 1) := by decide +kernel
theorem dX0_isFull_50 : decode cX0_isFull 50 = .ok (.goto 4, 3) := by decide +kernel
theorem dX0_isFull_53 : decode cX0_isFull 53 = .ok (.iconst 0, 1) := by decide +kernel
theorem dX0_isFull_54 : decode cX0_isFull 54 = .ok (.ireturn, 1) := by decide +kernel
theorem dX0_addVertex_0 : decode cX0_addVertex 0 = .ok (.iconst 1, 1) := by decide +kernel
theorem dX0_addVertex_1 : decode cX0_addVertex 1 = .ok (.aload_n 0, 1) := by decide +kernel
theorem dX0_addVertex_2 : decode cX0_addVertex 2 = .ok (.getfield 28, 3) := by decide +kernel
theorem dX0_addVertex_5 : decode cX0_addVertex 5 = .ok (.ishl, 1) := by decide +kernel
theorem dX0_addVertex_6 : decode cX0_addVertex 6 = .ok (.istore_n 2, 1) := by decide +kernel
theorem dX0_addVertex_7 : decode cX0_addVertex 7 = .ok (.iconst 0, 1) := by decide +kernel
theorem dX0_addVertex_8 : decode cX0_addVertex 8 = .ok (.istore_n 3, 1) := by decide +kernel
theorem dX0_addVertex_9 : decode cX0_addVertex 9 = .ok (.iload_n 3, 1) := by decide +kernel
theorem dX0_addVertex_10 : decode cX0_addVertex 10 = .ok (.aload_n 0, 1) := by decide +kernel
theorem dX0_addVertex_11 : decode cX0_addVertex 11 = .ok (.getfield 15, 3) := by decide +kernel
theorem dX0_addVertex_14 : decode cX0_addVertex 14 = .ok (.arraylength, 1) := by decide +kernel
theorem dX0_addVertex_15 : decode cX0_addVertex 15 = .ok (.if_icmp .ge 27, 3) := by decide +kernel
theorem dX0_addVertex_18 : decode cX0_addVertex 18 = .ok (.iload_n 1, 1) := by decide +kernel
theorem dX0_addVertex_19 : decode cX0_addVertex 19 = .ok (.iload_n 3, 1) := by decide +kernel
theorem dX0_addVertex_20 : decode cX0_addVertex 20 = .ok (.invokestatic 55, 3) := by decide +kernel
theorem dX0_addVertex_23 : decode cX0_addVertex 23 = .ok (.ifCond .eq 13, 3) := by decide +kernel
theorem dX0_addVertex_26 : decode cX0_addVertex 26 = .ok (.aload_n 0, 1) := by decide +kernel
theorem dX0_addVertex_27 : decode cX0_addVertex 27 = .ok (.getfield 15, 3) := by decide +kernel
theorem dX0_addVertex_30 : decode cX0_addVertex 30 = .ok (.iload_n 3, 1) := by decide +kernel
theorem dX0_addVertex_31 : decode cX0_addVertex 31 = .ok (.dup2, 1) := by decide +kernel
theorem dX0_addVertex_32 : decode cX0_addVertex 32 = .ok (.iaload, 1) := by decide +kernel
theorem dX0_addVertex_33 : decode cX0_addVertex 33 = .ok (.iload_n 2, 1) := by decide +kernel
theorem dX0_addVertex_34 : decode cX0_addVertex 34 = .ok (.ior, 1) := by decide +kernel
theorem dX0_addVertex_35 : decode cX0_addVertex 35 = .ok (.iastore, 1) := by decide +kernel
theorem dX0_addVertex_36 : decode cX0_addVertex 36 = .ok (.iinc 3 1, 3) := by decide +kernel
theorem dX0_addVertex_39 : decode cX0_addVertex 39 = .ok (.goto (-30), 3) := by decide +kernel
theorem dX0_addVertex_42 : decode cX0_addVertex 42 = .ok (.aload_n 0, 1) := by decide +kernel
theorem dX0_addVertex_43 : decode cX0_addVertex 43 = .ok (.dup, 1) := by decide +kernel
theorem dX0_addVertex_44 : decode cX0_addVertex 44 = .ok (.getfield 31, 3) := by decide +kernel
theorem dX0_addVertex_47 : decode cX0_addVertex 47 = .ok (.iload_n 2, 1) := by decide +kernel
theorem dX0_addVertex_48 : decode cX0_addVertex 48 = .ok (.ior, 1) := by decide +kernel
theorem dX0_addVertex_49 : decode cX0_addVertex 49 = .ok (.putfield 31, 3) := by decide +kernel
theorem dX0_addVertex_52 : decode cX0_addVertex 52 = .ok (.aload_n 0, 1) := by decide +kernel
theorem dX0_addVertex_53 : decode cX0_addVertex 53 = .ok (.dup, 1) := by decide +kernel
theorem dX0_addVertex_54 : decode cX0_addVertex 54 = .ok (.getfield 28, 3) := by decide +kernel
theorem dX0_addVertex_57 : decode cX0_addVertex 57 = .ok (.iconst 1, 1) := by decide +kernel
theorem dX0_addVertex_58 : decode cX0_addVertex 58 = .ok (.iadd, 1) := by decide +kernel
theorem dX0_addVertex_59 : decode cX0_addVertex 59 = .ok (.putfield 28, 3) := by decide +kernel
theorem dX0_addVertex_62 : decode cX0_addVertex 62 = .ok (.return_, 1) := by decide +kernel
theorem dX0_addEdge_0 : decode cX0_addEdge 0 = .ok (.aload_n 0, 1) := by decide +kernel
theorem dX0_addEdge_1 : decode cX0_addEdge 1 = .ok (.getfield 9, 3) := by decide +kernel
theorem dX0_addEdge_4 : decode cX0_addEdge 4 = .ok (.iload_n 1, 1) := by decide +kernel
theorem dX0_addEdge_5 : decode cX0_addEdge 5 = .ok (.iconst 1, 1) := by decide +kernel
theorem dX0_addEdge_6 : decode cX0_addEdge 6 = .ok (.iload_n 2, 1) := by decide +kernel
theorem dX0_addEdge_7 : decode cX0_addEdge 7 = .ok (.ishl, 1) := by decide +kernel
theorem dX0_addEdge_8 : decode cX0_addEdge 8 = .ok (.invokestatic 59, 3) := by decide +kernel
theorem dX0_addEdge_11 : decode cX0_addEdge 11 = .ok (.aload_n 0, 1) := by decide +kernel
theorem dX0_addEdge_12 : decode cX0_addEdge 12 = .ok (.getfield 9, 3) := by decide +kernel
theorem dX0_addEdge_15 : decode cX0_addEdge 15 = .ok (.iload_n 2, 1) := by decide +kernel
theorem dX0_addEdge_16 : decode cX0_addEdge 16 = .ok (.iconst 1, 1) := by decide +kernel
theorem dX0_addEdge_17 : decode cX0_addEdge 17 = .ok (.iload_n 1, 1) := by decide +kernel
theorem dX0_addEdge_18 : decode cX0_addEdge 18 = .ok (.ishl, 1) := by decide +kernel
theorem dX0_addEdge_19 : decode cX0_addEdge 19 = .ok (.invokestatic 59, 3) := by decide +kernel
theorem dX0_addEdge_22 : decode cX0_addEdge 22 = .ok (.return_, 1) := by decide +kernel
theorem dX0_hasVertex_0 : decode cX0_hasVertex 0 = .ok (.iload_n 1, 1) := by decide +kernel
theorem dX0_hasVertex_1 : decode cX0_hasVertex 1 = .ok (.ifCond .lt 15, 3) := by decide +kernel
theorem dX0_hasVertex_4 : decode cX0_hasVertex 4 = .ok (.iload_n 1, 1) := by decide +kernel
theorem dX0_hasVertex_5 : decode cX0_hasVertex 5 = .ok (.aload_n 0, 1) := by decide +kernel
theorem dX0_hasVertex_6 : decode cX0_hasVertex 6 = .ok (.getfield 28, 3) := by decide +kernel
theorem dX0_hasVertex_9 : decode cX0_hasVertex 9 = .ok (.if_icmp .ge 7, 3) := by decide +kernel
theorem dX0_hasVertex_12 : decode cX0_hasVertex 12 = .ok (.iconst 1, 1) := by decide +kernel
theorem dX0_hasVertex_13 : decode cX0_hasVertex 13 = .ok (.goto 4, 3) := by decide +kernel
theorem dX0_hasVertex_16 : decode cX0_hasVertex 16 = .ok (.iconst 0, 1) := by decide +kernel
theorem dX0_hasVertex_17 : decode cX0_hasVertex 17 = .ok (.ireturn, 1) := by decide +kernel
theorem dX0_hasPair_0 : decode cX0_hasPair 0 = .ok (.aload_n 0, 1) := by decide +kernel
theorem dX0_hasPair_1 : decode cX0_hasPair 1 = .ok (.iload_n 1, 1) := by decide +kernel
theorem dX0_hasPair_2 : decode cX0_hasPair 2 = .ok (.invokevirtual 63, 3) := by decide +kernel
theorem dX0_hasPair_5 : decode cX0_hasPair 5 = .ok (.ifCond .eq 19, 3) := by decide +kernel
theorem dX0_hasPair_8 : decode cX0_hasPair 8 = .ok (.iload_n 2, 1) := by decide +kernel
theorem dX0_hasPair_9 : decode cX0_hasPair 9 = .ok (.ifCond .lt 15, 3) := by decide +kernel
theorem dX0_hasPair_12 : decode cX0_hasPair 12 = .ok (.iload_n 2, 1) := by decide +kernel
theorem dX0_hasPair_13 : decode cX0_hasPair 13 = .ok (.aload_n 0, 1) := by decide +kernel
theorem dX0_hasPair_14 : decode cX0_hasPair 14 = .ok (.getfield 24, 3) := by decide +kernel
theorem dX0_hasPair_17 : decode cX0_hasPair 17 = .ok (.if_icmp .ge 7, 3) := by decide +kernel
theorem dX0_hasPair_20 : decode cX0_hasPair 20 = .ok (.iconst 1, 1) := by decide +kernel
theorem dX0_hasPair_21 : decode cX0_hasPair 21 = .ok (.goto 4, 3) := by decide +kernel
theorem dX0_hasPair_24 : decode cX0_hasPair 24 = .ok (.iconst 0, 1) := by decide +kernel
theorem dX0_hasPair_25 : decode cX0_hasPair 25 = .ok (.ireturn, 1) := by decide +kernel
theorem dX0_everyVertex_0 : decode cX0_everyVertex 0 = .ok (.iconst 1, 1) := by decide +kernel
theorem dX0_everyVertex_1 : decode cX0_everyVertex 1 = .ok (.aload_n 0, 1) := by decide +kernel
theorem dX0_everyVertex_2 : decode cX0_everyVertex 2 = .ok (.getfield 28, 3) := by decide +kernel
theorem dX0_everyVertex_5 : decode cX0_everyVertex 5 = .ok (.ishl, 1) := by decide +kernel
theorem dX0_everyVertex_6 : decode cX0_everyVertex 6 = .ok (.iconst 1, 1) := by decide +kernel
theorem dX0_everyVertex_7 : decode cX0_everyVertex 7 = .ok (.isub, 1) := by decide +kernel
theorem dX0_everyVertex_8 : decode cX0_everyVertex 8 = .ok (.ireturn, 1) := by decide +kernel
theorem dX0_everyColour_0 : decode cX0_everyColour 0 = .ok (.iconst 1, 1) := by decide +kernel
theorem dX0_everyColour_1 : decode cX0_everyColour 1 = .ok (.aload_n 0, 1) := by decide +kernel
theorem dX0_everyColour_2 : decode cX0_everyColour 2 = .ok (.getfield 24, 3) := by decide +kernel
theorem dX0_everyColour_5 : decode cX0_everyColour 5 = .ok (.ishl, 1) := by decide +kernel
theorem dX0_everyColour_6 : decode cX0_everyColour 6 = .ok (.iconst 1, 1) := by decide +kernel
theorem dX0_everyColour_7 : decode cX0_everyColour 7 = .ok (.isub, 1) := by decide +kernel
theorem dX0_everyColour_8 : decode cX0_everyColour 8 = .ok (.ireturn, 1) := by decide +kernel
theorem dX0_neighbours_0 : decode cX0_neighbours 0 = .ok (.iload_n 1, 1) := by decide +kernel
theorem dX0_neighbours_1 : decode cX0_neighbours 1 = .ok (.ifCond .lt 21, 3) := by decide +kernel
theorem dX0_neighbours_4 : decode cX0_neighbours 4 = .ok (.iload_n 1, 1) := by decide +kernel
theorem dX0_neighbours_5 : decode cX0_neighbours 5 = .ok (.aload_n 0, 1) := by decide +kernel
theorem dX0_neighbours_6 : decode cX0_neighbours 6 = .ok (.getfield 9, 3) := by decide +kernel
theorem dX0_neighbours_9 : decode cX0_neighbours 9 = .ok (.arraylength, 1) := by decide +kernel
theorem dX0_neighbours_10 : decode cX0_neighbours 10 = .ok (.if_icmp .ge 12, 3) := by decide +kernel
theorem dX0_neighbours_13 : decode cX0_neighbours 13 = .ok (.aload_n 0, 1) := by decide +kernel
theorem dX0_neighbours_14 : decode cX0_neighbours 14 = .ok (.getfield 9, 3) := by decide +kernel
theorem dX0_neighbours_17 : decode cX0_neighbours 17 = .ok (.iload_n 1, 1) := by decide +kernel
theorem dX0_neighbours_18 : decode cX0_neighbours 18 = .ok (.iaload, 1) := by decide +kernel
theorem dX0_neighbours_19 : decode cX0_neighbours 19 = .ok (.goto 4, 3) := by decide +kernel
theorem dX0_neighbours_22 : decode cX0_neighbours 22 = .ok (.iconst 0, 1) := by decide +kernel
theorem dX0_neighbours_23 : decode cX0_neighbours 23 = .ok (.ireturn, 1) := by decide +kernel
theorem dX0_edgesIn_0 : decode cX0_edgesIn 0 = .ok (.iconst 0, 1) := by decide +kernel
theorem dX0_edgesIn_1 : decode cX0_edgesIn 1 = .ok (.istore_n 2, 1) := by decide +kernel
theorem dX0_edgesIn_2 : decode cX0_edgesIn 2 = .ok (.iconst 0, 1) := by decide +kernel
theorem dX0_edgesIn_3 : decode cX0_edgesIn 3 = .ok (.istore_n 3, 1) := by decide +kernel
theorem dX0_edgesIn_4 : decode cX0_edgesIn 4 = .ok (.iload_n 3, 1) := by decide +kernel
theorem dX0_edgesIn_5 : decode cX0_edgesIn 5 = .ok (.aload_n 0, 1) := by decide +kernel
theorem dX0_edgesIn_6 : decode cX0_edgesIn 6 = .ok (.getfield 9, 3) := by decide +kernel
theorem dX0_edgesIn_9 : decode cX0_edgesIn 9 = .ok (.arraylength, 1) := by decide +kernel
theorem dX0_edgesIn_10 : decode cX0_edgesIn 10 = .ok (.if_icmp .ge 31, 3) := by decide +kernel
theorem dX0_edgesIn_13 : decode cX0_edgesIn 13 = .ok (.iload_n 1, 1) := by decide +kernel
theorem dX0_edgesIn_14 : decode cX0_edgesIn 14 = .ok (.iload_n 3, 1) := by decide +kernel
theorem dX0_edgesIn_15 : decode cX0_edgesIn 15 = .ok (.invokestatic 55, 3) := by decide +kernel
theorem dX0_edgesIn_18 : decode cX0_edgesIn 18 = .ok (.ifCond .eq 17, 3) := by decide +kernel
theorem dX0_edgesIn_21 : decode cX0_edgesIn 21 = .ok (.iload_n 2, 1) := by decide +kernel
theorem dX0_edgesIn_22 : decode cX0_edgesIn 22 = .ok (.aload_n 0, 1) := by decide +kernel
theorem dX0_edgesIn_23 : decode cX0_edgesIn 23 = .ok (.getfield 9, 3) := by decide +kernel
theorem dX0_edgesIn_26 : decode cX0_edgesIn 26 = .ok (.iload_n 3, 1) := by decide +kernel
theorem dX0_edgesIn_27 : decode cX0_edgesIn 27 = .ok (.iaload, 1) := by decide +kernel
theorem dX0_edgesIn_28 : decode cX0_edgesIn 28 = .ok (.iload_n 1, 1) := by decide +kernel
theorem dX0_edgesIn_29 : decode cX0_edgesIn 29 = .ok (.iand, 1) := by decide +kernel
theorem dX0_edgesIn_30 : decode cX0_edgesIn 30 = .ok (.invokestatic 67, 3) := by decide +kernel
theorem dX0_edgesIn_33 : decode cX0_edgesIn 33 = .ok (.iadd, 1) := by decide +kernel
theorem dX0_edgesIn_34 : decode cX0_edgesIn 34 = .ok (.istore_n 2, 1) := by decide +kernel
theorem dX0_edgesIn_35 : decode cX0_edgesIn 35 = .ok (.iinc 3 1, 3) := by decide +kernel
theorem dX0_edgesIn_38 : decode cX0_edgesIn 38 = .ok (.goto (-34), 3) := by decide +kernel
theorem dX0_edgesIn_41 : decode cX0_edgesIn 41 = .ok (.iload_n 2, 1) := by decide +kernel
theorem dX0_edgesIn_42 : decode cX0_edgesIn 42 = .ok (.iconst 2, 1) := by decide +kernel
theorem dX0_edgesIn_43 : decode cX0_edgesIn 43 = .ok (.idiv, 1) := by decide +kernel
theorem dX0_edgesIn_44 : decode cX0_edgesIn 44 = .ok (.ireturn, 1) := by decide +kernel
theorem dX0_listOf_0 : decode cX0_listOf 0 = .ok (.aload_n 0, 1) := by decide +kernel
theorem dX0_listOf_1 : decode cX0_listOf 1 = .ok (.aload_n 0, 1) := by decide +kernel
theorem dX0_listOf_2 : decode cX0_listOf 2 = .ok (.getfield 15, 3) := by decide +kernel
theorem dX0_listOf_5 : decode cX0_listOf 5 = .ok (.iload_n 1, 1) := by decide +kernel
theorem dX0_listOf_6 : decode cX0_listOf 6 = .ok (.invokevirtual 73, 3) := by decide +kernel
theorem dX0_listOf_9 : decode cX0_listOf 9 = .ok (.ireturn, 1) := by decide +kernel
theorem dX0_coloursAt_0 : decode cX0_coloursAt 0 = .ok (.iconst 0, 1) := by decide +kernel
theorem dX0_coloursAt_1 : decode cX0_coloursAt 1 = .ok (.istore_n 3, 1) := by decide +kernel
theorem dX0_coloursAt_2 : decode cX0_coloursAt 2 = .ok (.iconst 0, 1) := by decide +kernel
theorem dX0_coloursAt_3 : decode cX0_coloursAt 3 = .ok (.istore 4, 2) := by decide +kernel
theorem dX0_coloursAt_5 : decode cX0_coloursAt 5 = .ok (.iload 4, 2) := by decide +kernel
theorem dX0_coloursAt_7 : decode cX0_coloursAt 7 = .ok (.aload_n 1, 1) := by decide +kernel
theorem dX0_coloursAt_8 : decode cX0_coloursAt 8 = .ok (.arraylength, 1) := by decide +kernel
theorem dX0_coloursAt_9 : decode cX0_coloursAt 9 = .ok (.if_icmp .ge 27, 3) := by decide +kernel
theorem dX0_coloursAt_12 : decode cX0_coloursAt 12 = .ok (.aload_n 1, 1) := by decide +kernel
theorem dX0_coloursAt_13 : decode cX0_coloursAt 13 = .ok (.iload 4, 2) := by decide +kernel
theorem dX0_coloursAt_15 : decode cX0_coloursAt 15 = .ok (.iaload, 1) := by decide +kernel
theorem dX0_coloursAt_16 : decode cX0_coloursAt 16 = .ok (.iload_n 2, 1) := by decide +kernel
theorem dX0_coloursAt_17 : decode cX0_coloursAt 17 = .ok (.invokestatic 55, 3) := by decide +kernel
theorem dX0_coloursAt_20 : decode cX0_coloursAt 20 = .ok (.ifCond .eq 10, 3) := by decide +kernel
theorem dX0_coloursAt_23 : decode cX0_coloursAt 23 = .ok (.iload_n 3, 1) := by decide +kernel
theorem dX0_coloursAt_24 : decode cX0_coloursAt 24 = .ok (.iconst 1, 1) := by decide +kernel
theorem dX0_coloursAt_25 : decode cX0_coloursAt 25 = .ok (.iload 4, 2) := by decide +kernel
theorem dX0_coloursAt_27 : decode cX0_coloursAt 27 = .ok (.ishl, 1) := by decide +kernel
theorem dX0_coloursAt_28 : decode cX0_coloursAt 28 = .ok (.ior, 1) := by decide +kernel
theorem dX0_coloursAt_29 : decode cX0_coloursAt 29 = .ok (.istore_n 3, 1) := by decide +kernel
theorem dX0_coloursAt_30 : decode cX0_coloursAt 30 = .ok (.iinc 4 1, 3) := by decide +kernel
theorem dX0_coloursAt_33 : decode cX0_coloursAt 33 = .ok (.goto (-28), 3) := by decide +kernel
theorem dX0_coloursAt_36 : decode cX0_coloursAt 36 = .ok (.iload_n 3, 1) := by decide +kernel
theorem dX0_coloursAt_37 : decode cX0_coloursAt 37 = .ok (.ireturn, 1) := by decide +kernel
theorem dX0_isFree_0 : decode cX0_isFree 0 = .ok (.aload_n 0, 1) := by decide +kernel
theorem dX0_isFree_1 : decode cX0_isFree 1 = .ok (.getfield 31, 3) := by decide +kernel
theorem dX0_isFree_4 : decode cX0_isFree 4 = .ok (.iload_n 1, 1) := by decide +kernel
theorem dX0_isFree_5 : decode cX0_isFree 5 = .ok (.invokestatic 55, 3) := by decide +kernel
theorem dX0_isFree_8 : decode cX0_isFree 8 = .ok (.ireturn, 1) := by decide +kernel
theorem dX0_reachable_0 : decode cX0_reachable 0 = .ok (.iload_n 1, 1) := by decide +kernel
theorem dX0_reachable_1 : decode cX0_reachable 1 = .ok (.iload_n 2, 1) := by decide +kernel
theorem dX0_reachable_2 : decode cX0_reachable 2 = .ok (.iand, 1) := by decide +kernel
theorem dX0_reachable_3 : decode cX0_reachable 3 = .ok (.istore_n 3, 1) := by decide +kernel
theorem dX0_reachable_4 : decode cX0_reachable 4 = .ok (.iload_n 3, 1) := by decide +kernel
theorem dX0_reachable_5 : decode cX0_reachable 5 = .ok (.istore 4, 2) := by decide +kernel
theorem dX0_reachable_7 : decode cX0_reachable 7 = .ok (.iconst 0, 1) := by decide +kernel
theorem dX0_reachable_8 : decode cX0_reachable 8 = .ok (.istore 5, 2) := by decide +kernel
theorem dX0_reachable_10 : decode cX0_reachable 10 = .ok (.iload 5, 2) := by decide +kernel
theorem dX0_reachable_12 : decode cX0_reachable 12 = .ok (.bipush 9, 2) := by decide +kernel
theorem dX0_reachable_14 : decode cX0_reachable 14 = .ok (.if_icmp .ge 94, 3) := by decide +kernel
theorem dX0_reachable_17 : decode cX0_reachable 17 = .ok (.iload 4, 2) := by decide +kernel
theorem dX0_reachable_19 : decode cX0_reachable 19 = .ok (.ifCond .eq 89, 3) := by decide +kernel
theorem dX0_reachable_22 : decode cX0_reachable 22 = .ok (.iload 4, 2) := by decide +kernel
theorem dX0_reachable_24 : decode cX0_reachable 24 = .ok (.iload 4, 2) := by decide +kernel
theorem dX0_reachable_26 : decode cX0_reachable 26 = .ok (.ineg, 1) := by decide +kernel
theorem dX0_reachable_27 : decode cX0_reachable 27 = .ok (.iand, 1) := by decide +kernel
theorem dX0_reachable_28 : decode cX0_reachable 28 = .ok (.istore 6, 2) := by decide +kernel
theorem dX0_reachable_30 : decode cX0_reachable 30 = .ok (.iload 6, 2) := by decide +kernel
theorem dX0_reachable_32 : decode cX0_reachable 32 = .ok (.iconst 1, 1) := by decide +kernel
theorem dX0_reachable_33 : decode cX0_reachable 33 = .ok (.isub, 1) := by decide +kernel
theorem dX0_reachable_34 : decode cX0_reachable 34 = .ok (.invokestatic 67, 3) := by decide +kernel
theorem dX0_reachable_37 : decode cX0_reachable 37 = .ok (.istore 7, 2) := by decide +kernel
theorem dX0_reachable_39 : decode cX0_reachable 39 = .ok (.iload 7, 2) := by decide +kernel
theorem dX0_reachable_41 : decode cX0_reachable 41 = .ok (.ifCond .lt 17, 3) := by decide +kernel
theorem dX0_reachable_44 : decode cX0_reachable 44 = .ok (.iload 7, 2) := by decide +kernel
theorem dX0_reachable_46 : decode cX0_reachable 46 = .ok (.aload_n 0, 1) := by decide +kernel
theorem dX0_reachable_47 : decode cX0_reachable 47 = .ok (.getfield 9, 3) := by decide +kernel
theorem dX0_reachable_50 : decode cX0_reachable 50 = .ok (.arraylength, 1) := by decide +kernel
theorem dX0_reachable_51 : decode cX0_reachable 51 = .ok (.if_icmp .ge 7, 3) := by decide +kernel
theorem dX0_reachable_54 : decode cX0_reachable 54 = .ok (.iconst 1, 1) := by decide +kernel
theorem dX0_reachable_55 : decode cX0_reachable 55 = .ok (.goto 4, 3) := by decide +kernel
theorem dX0_reachable_58 : decode cX0_reachable 58 = .ok (.iconst 0, 1) := by decide +kernel
theorem dX0_reachable_59 : decode cX0_reachable 59 = .ok (.istore 8, 2) := by decide +kernel
theorem dX0_reachable_61 : decode cX0_reachable 61 = .ok (.iload 8, 2) := by decide +kernel
theorem dX0_reachable_63 : decode cX0_reachable 63 = .ok (.ifCond .eq 19, 3) := by decide +kernel
theorem dX0_reachable_66 : decode cX0_reachable 66 = .ok (.aload_n 0, 1) := by decide +kernel
theorem dX0_reachable_67 : decode cX0_reachable 67 = .ok (.getfield 9, 3) := by decide +kernel
theorem dX0_reachable_70 : decode cX0_reachable 70 = .ok (.iload 7, 2) := by decide +kernel
theorem dX0_reachable_72 : decode cX0_reachable 72 = .ok (.iaload, 1) := by decide +kernel
theorem dX0_reachable_73 : decode cX0_reachable 73 = .ok (.iload_n 2, 1) := by decide +kernel
theorem dX0_reachable_74 : decode cX0_reachable 74 = .ok (.iand, 1) := by decide +kernel
theorem dX0_reachable_75 : decode cX0_reachable 75 = .ok (.iload_n 3, 1) := by decide +kernel
theorem dX0_reachable_76 : decode cX0_reachable 76 = .ok (.iconst (-1), 1) := by decide +kernel
theorem dX0_reachable_77 : decode cX0_reachable 77 = .ok (.ixor, 1) := by decide +kernel
theorem dX0_reachable_78 : decode cX0_reachable 78 = .ok (.iand, 1) := by decide +kernel
theorem dX0_reachable_79 : decode cX0_reachable 79 = .ok (.goto 4, 3) := by decide +kernel
theorem dX0_reachable_82 : decode cX0_reachable 82 = .ok (.iconst 0, 1) := by decide +kernel
theorem dX0_reachable_83 : decode cX0_reachable 83 = .ok (.istore 9, 2) := by decide +kernel
theorem dX0_reachable_85 : decode cX0_reachable 85 = .ok (.iload_n 3, 1) := by decide +kernel
theorem dX0_reachable_86 : decode cX0_reachable 86 = .ok (.iload 9, 2) := by decide +kernel
theorem dX0_reachable_88 : decode cX0_reachable 88 = .ok (.ior, 1) := by decide +kernel
theorem dX0_reachable_89 : decode cX0_reachable 89 = .ok (.istore_n 3, 1) := by decide +kernel
theorem dX0_reachable_90 : decode cX0_reachable 90 = .ok (.iload 4, 2) := by decide +kernel
theorem dX0_reachable_92 : decode cX0_reachable 92 = .ok (.iload 6, 2) := by decide +kernel
theorem dX0_reachable_94 : decode cX0_reachable 94 = .ok (.iconst (-1), 1) := by decide +kernel
theorem dX0_reachable_95 : decode cX0_reachable 95 = .ok (.ixor, 1) := by decide +kernel
theorem dX0_reachable_96 : decode cX0_reachable 96 = .ok (.iand, 1) := by decide +kernel
theorem dX0_reachable_97 : decode cX0_reachable 97 = .ok (.iload 9, 2) := by decide +kernel
theorem dX0_reachable_99 : decode cX0_reachable 99 = .ok (.ior, 1) := by decide +kernel
theorem dX0_reachable_100 : decode cX0_reachable 100 = .ok (.istore 4, 2) := by decide +kernel
theorem dX0_reachable_102 : decode cX0_reachable 102 = .ok (.iinc 5 1, 3) := by decide +kernel
theorem dX0_reachable_105 : decode cX0_reachable 105 = .ok (.goto (-95), 3) := by decide +kernel
theorem dX0_reachable_108 : decode cX0_reachable 108 = .ok (.iload_n 3, 1) := by decide +kernel
theorem dX0_reachable_109 : decode cX0_reachable 109 = .ok (.ireturn, 1) := by decide +kernel
theorem dX0_partWith_0 : decode cX0_partWith 0 = .ok (.aload_n 0, 1) := by decide +kernel
theorem dX0_partWith_1 : decode cX0_partWith 1 = .ok (.iconst 1, 1) := by decide +kernel
theorem dX0_partWith_2 : decode cX0_partWith 2 = .ok (.iload_n 1, 1) := by decide +kernel
theorem dX0_partWith_3 : decode cX0_partWith 3 = .ok (.ishl, 1) := by decide +kernel
theorem dX0_partWith_4 : decode cX0_partWith 4 = .ok (.aload_n 0, 1) := by decide +kernel
theorem dX0_partWith_5 : decode cX0_partWith 5 = .ok (.getfield 31, 3) := by decide +kernel
theorem dX0_partWith_8 : decode cX0_partWith 8 = .ok (.invokevirtual 77, 3) := by decide +kernel
theorem dX0_partWith_11 : decode cX0_partWith 11 = .ok (.ireturn, 1) := by decide +kernel
theorem dX0_partsIn_0 : decode cX0_partsIn 0 = .ok (.iconst 0, 1) := by decide +kernel
theorem dX0_partsIn_1 : decode cX0_partsIn 1 = .ok (.istore_n 2, 1) := by decide +kernel
theorem dX0_partsIn_2 : decode cX0_partsIn 2 = .ok (.iload_n 1, 1) := by decide +kernel
theorem dX0_partsIn_3 : decode cX0_partsIn 3 = .ok (.istore_n 3, 1) := by decide +kernel
theorem dX0_partsIn_4 : decode cX0_partsIn 4 = .ok (.iload_n 2, 1) := by decide +kernel
theorem dX0_partsIn_5 : decode cX0_partsIn 5 = .ok (.bipush 9, 2) := by decide +kernel
theorem dX0_partsIn_7 : decode cX0_partsIn 7 = .ok (.if_icmp .ge 27, 3) := by decide +kernel
theorem dX0_partsIn_10 : decode cX0_partsIn 10 = .ok (.iload_n 3, 1) := by decide +kernel
theorem dX0_partsIn_11 : decode cX0_partsIn 11 = .ok (.ifCond .eq 23, 3) := by decide +kernel
theorem dX0_partsIn_14 : decode cX0_partsIn 14 = .ok (.iload_n 3, 1) := by decide +kernel
theorem dX0_partsIn_15 : decode cX0_partsIn 15 = .ok (.aload_n 0, 1) := by decide +kernel
theorem dX0_partsIn_16 : decode cX0_partsIn 16 = .ok (.iload_n 3, 1) := by decide +kernel
theorem dX0_partsIn_17 : decode cX0_partsIn 17 = .ok (.iload_n 3, 1) := by decide +kernel
theorem dX0_partsIn_18 : decode cX0_partsIn 18 = .ok (.ineg, 1) := by decide +kernel
theorem dX0_partsIn_19 : decode cX0_partsIn 19 = .ok (.iand, 1) := by decide +kernel
theorem dX0_partsIn_20 : decode cX0_partsIn 20 = .ok (.iload_n 3, 1) := by decide +kernel
theorem dX0_partsIn_21 : decode cX0_partsIn 21 = .ok (.invokevirtual 77, 3) := by decide +kernel
theorem dX0_partsIn_24 : decode cX0_partsIn 24 = .ok (.iconst (-1), 1) := by decide +kernel
theorem dX0_partsIn_25 : decode cX0_partsIn 25 = .ok (.ixor, 1) := by decide +kernel
theorem dX0_partsIn_26 : decode cX0_partsIn 26 = .ok (.iand, 1) := by decide +kernel
theorem dX0_partsIn_27 : decode cX0_partsIn 27 = .ok (.istore_n 3, 1) := by decide +kernel
theorem dX0_partsIn_28 : decode cX0_partsIn 28 = .ok (.iinc 2 1, 3) := by decide +kernel
theorem dX0_partsIn_31 : decode cX0_partsIn 31 = .ok (.goto (-27), 3) := by decide +kernel
theorem dX0_partsIn_34 : decode cX0_partsIn 34 = .ok (.iload_n 2, 1) := by decide +kernel
theorem dX0_partsIn_35 : decode cX0_partsIn 35 = .ok (.ireturn, 1) := by decide +kernel
theorem dX0_partAt_0 : decode cX0_partAt 0 = .ok (.aload_n 0, 1) := by decide +kernel
theorem dX0_partAt_1 : decode cX0_partAt 1 = .ok (.getfield 31, 3) := by decide +kernel
theorem dX0_partAt_4 : decode cX0_partAt 4 = .ok (.istore_n 2, 1) := by decide +kernel
theorem dX0_partAt_5 : decode cX0_partAt 5 = .ok (.iconst 0, 1) := by decide +kernel
theorem dX0_partAt_6 : decode cX0_partAt 6 = .ok (.istore_n 3, 1) := by decide +kernel
theorem dX0_partAt_7 : decode cX0_partAt 7 = .ok (.iload_n 3, 1) := by decide +kernel
theorem dX0_partAt_8 : decode cX0_partAt 8 = .ok (.iload_n 1, 1) := by decide +kernel
theorem dX0_partAt_9 : decode cX0_partAt 9 = .ok (.if_icmp .ge 29, 3) := by decide +kernel
theorem dX0_partAt_12 : decode cX0_partAt 12 = .ok (.iload_n 3, 1) := by decide +kernel
theorem dX0_partAt_13 : decode cX0_partAt 13 = .ok (.bipush 9, 2) := by decide +kernel
theorem dX0_partAt_15 : decode cX0_partAt 15 = .ok (.if_icmp .ge 23, 3) := by decide +kernel
theorem dX0_partAt_18 : decode cX0_partAt 18 = .ok (.iload_n 2, 1) := by decide +kernel
theorem dX0_partAt_19 : decode cX0_partAt 19 = .ok (.aload_n 0, 1) := by decide +kernel
theorem dX0_partAt_20 : decode cX0_partAt 20 = .ok (.iload_n 2, 1) := by decide +kernel
theorem dX0_partAt_21 : decode cX0_partAt 21 = .ok (.iload_n 2, 1) := by decide +kernel
theorem dX0_partAt_22 : decode cX0_partAt 22 = .ok (.ineg, 1) := by decide +kernel
theorem dX0_partAt_23 : decode cX0_partAt 23 = .ok (.iand, 1) := by decide +kernel
theorem dX0_partAt_24 : decode cX0_partAt 24 = .ok (.iload_n 2, 1) := by decide +kernel
theorem dX0_partAt_25 : decode cX0_partAt 25 = .ok (.invokevirtual 77, 3) := by decide +kernel
theorem dX0_partAt_28 : decode cX0_partAt 28 = .ok (.iconst (-1), 1) := by decide +kernel
theorem dX0_partAt_29 : decode cX0_partAt 29 = .ok (.ixor, 1) := by decide +kernel
theorem dX0_partAt_30 : decode cX0_partAt 30 = .ok (.iand, 1) := by decide +kernel
theorem dX0_partAt_31 : decode cX0_partAt 31 = .ok (.istore_n 2, 1) := by decide +kernel
theorem dX0_partAt_32 : decode cX0_partAt 32 = .ok (.iinc 3 1, 3) := by decide +kernel
theorem dX0_partAt_35 : decode cX0_partAt 35 = .ok (.goto (-28), 3) := by decide +kernel
theorem dX0_partAt_38 : decode cX0_partAt 38 = .ok (.iload_n 1, 1) := by decide +kernel
theorem dX0_partAt_39 : decode cX0_partAt 39 = .ok (.ifCond .ge 7, 3) := by decide +kernel
theorem dX0_partAt_42 : decode cX0_partAt 42 = .ok (.iconst 0, 1) := by decide +kernel
theorem dX0_partAt_43 : decode cX0_partAt 43 = .ok (.goto 12, 3) := by decide +kernel
theorem dX0_partAt_46 : decode cX0_partAt 46 = .ok (.aload_n 0, 1) := by decide +kernel
theorem dX0_partAt_47 : decode cX0_partAt 47 = .ok (.iload_n 2, 1) := by decide +kernel
theorem dX0_partAt_48 : decode cX0_partAt 48 = .ok (.iload_n 2, 1) := by decide +kernel
theorem dX0_partAt_49 : decode cX0_partAt 49 = .ok (.ineg, 1) := by decide +kernel
theorem dX0_partAt_50 : decode cX0_partAt 50 = .ok (.iand, 1) := by decide +kernel
theorem dX0_partAt_51 : decode cX0_partAt 51 = .ok (.iload_n 2, 1) := by decide +kernel
theorem dX0_partAt_52 : decode cX0_partAt 52 = .ok (.invokevirtual 77, 3) := by decide +kernel
theorem dX0_partAt_55 : decode cX0_partAt 55 = .ok (.ireturn, 1) := by decide +kernel
theorem dX0_partNumberOf_0 : decode cX0_partNumberOf 0 = .ok (.iconst 0, 1) := by decide +kernel
theorem dX0_partNumberOf_1 : decode cX0_partNumberOf 1 = .ok (.istore_n 2, 1) := by decide +kernel
theorem dX0_partNumberOf_2 : decode cX0_partNumberOf 2 = .ok (.iload_n 2, 1) := by decide +kernel
theorem dX0_partNumberOf_3 : decode cX0_partNumberOf 3 = .ok (.bipush 9, 2) := by decide +kernel
theorem dX0_partNumberOf_5 : decode cX0_partNumberOf 5 = .ok (.if_icmp .ge 21, 3) := by decide +kernel
theorem dX0_partNumberOf_8 : decode cX0_partNumberOf 8 = .ok (.aload_n 0, 1) := by decide +kernel
theorem dX0_partNumberOf_9 : decode cX0_partNumberOf 9 = .ok (.iload_n 2, 1) := by decide +kernel
theorem dX0_partNumberOf_10 : decode cX0_partNumberOf 10 = .ok (.invokevirtual 81, 3) := by decide +kernel
theorem dX0_partNumberOf_13 : decode cX0_partNumberOf 13 = .ok (.iload_n 1, 1) := by decide +kernel
theorem dX0_partNumberOf_14 : decode cX0_partNumberOf 14 = .ok (.invokestatic 55, 3) := by decide +kernel
theorem dX0_partNumberOf_17 : decode cX0_partNumberOf 17 = .ok (.ifCond .ne 9, 3) := by decide +kernel
theorem dX0_partNumberOf_20 : decode cX0_partNumberOf 20 = .ok (.iinc 2 1, 3) := by decide +kernel
theorem dX0_partNumberOf_23 : decode cX0_partNumberOf 23 = .ok (.goto (-21), 3) := by decide +kernel
theorem dX0_partNumberOf_26 : decode cX0_partNumberOf 26 = .ok (.iload_n 2, 1) := by decide +kernel
theorem dX0_partNumberOf_27 : decode cX0_partNumberOf 27 = .ok (.ireturn, 1) := by decide +kernel
theorem dX0_banOf_0 : decode cX0_banOf 0 = .ok (.iconst 0, 1) := by decide +kernel
theorem dX0_banOf_1 : decode cX0_banOf 1 = .ok (.istore_n 2, 1) := by decide +kernel
theorem dX0_banOf_2 : decode cX0_banOf 2 = .ok (.iload_n 2, 1) := by decide +kernel
theorem dX0_banOf_3 : decode cX0_banOf 3 = .ok (.aload_n 0, 1) := by decide +kernel
theorem dX0_banOf_4 : decode cX0_banOf 4 = .ok (.getfield 21, 3) := by decide +kernel
theorem dX0_banOf_7 : decode cX0_banOf 7 = .ok (.arraylength, 1) := by decide +kernel
theorem dX0_banOf_8 : decode cX0_banOf 8 = .ok (.if_icmp .ge 22, 3) := by decide +kernel
theorem dX0_banOf_11 : decode cX0_banOf 11 = .ok (.aload_n 0, 1) := by decide +kernel
theorem dX0_banOf_12 : decode cX0_banOf 12 = .ok (.getfield 21, 3) := by decide +kernel
theorem dX0_banOf_15 : decode cX0_banOf 15 = .ok (.iload_n 2, 1) := by decide +kernel
theorem dX0_banOf_16 : decode cX0_banOf 16 = .ok (.iaload, 1) := by decide +kernel
theorem dX0_banOf_17 : decode cX0_banOf 17 = .ok (.iload_n 1, 1) := by decide +kernel
theorem dX0_banOf_18 : decode cX0_banOf 18 = .ok (.iand, 1) := by decide +kernel
theorem dX0_banOf_19 : decode cX0_banOf 19 = .ok (.ifCond .eq 5, 3) := by decide +kernel
theorem dX0_banOf_22 : decode cX0_banOf 22 = .ok (.iload_n 2, 1) := by decide +kernel
theorem dX0_banOf_23 : decode cX0_banOf 23 = .ok (.ireturn, 1) := by decide +kernel
theorem dX0_banOf_24 : decode cX0_banOf 24 = .ok (.iinc 2 1, 3) := by decide +kernel
theorem dX0_banOf_27 : decode cX0_banOf 27 = .ok (.goto (-25), 3) := by decide +kernel
theorem dX0_banOf_30 : decode cX0_banOf 30 = .ok (.iconst (-1), 1) := by decide +kernel
theorem dX0_banOf_31 : decode cX0_banOf 31 = .ok (.ireturn, 1) := by decide +kernel
theorem dX0_colourOf_0 : decode cX0_colourOf 0 = .ok (.aload_n 0, 1) := by decide +kernel
theorem dX0_colourOf_1 : decode cX0_colourOf 1 = .ok (.aload_n 0, 1) := by decide +kernel
theorem dX0_colourOf_2 : decode cX0_colourOf 2 = .ok (.getfield 18, 3) := by decide +kernel
theorem dX0_colourOf_5 : decode cX0_colourOf 5 = .ok (.iload_n 1, 1) := by decide +kernel
theorem dX0_colourOf_6 : decode cX0_colourOf 6 = .ok (.invokevirtual 73, 3) := by decide +kernel
theorem dX0_colourOf_9 : decode cX0_colourOf 9 = .ok (.istore_n 2, 1) := by decide +kernel
theorem dX0_colourOf_10 : decode cX0_colourOf 10 = .ok (.iload_n 2, 1) := by decide +kernel
theorem dX0_colourOf_11 : decode cX0_colourOf 11 = .ok (.ifCond .ne 7, 3) := by decide +kernel
theorem dX0_colourOf_14 : decode cX0_colourOf 14 = .ok (.iconst (-1), 1) := by decide +kernel
theorem dX0_colourOf_15 : decode cX0_colourOf 15 = .ok (.goto 7, 3) := by decide +kernel
theorem dX0_colourOf_18 : decode cX0_colourOf 18 = .ok (.iload_n 2, 1) := by decide +kernel
theorem dX0_colourOf_19 : decode cX0_colourOf 19 = .ok (.invokestatic 84, 3) := by decide +kernel
theorem dX0_colourOf_22 : decode cX0_colourOf 22 = .ok (.ireturn, 1) := by decide +kernel
theorem dX0_whyNot_0 : decode cX0_whyNot 0 = .ok (.aload_n 0, 1) := by decide +kernel
theorem dX0_whyNot_1 : decode cX0_whyNot 1 = .ok (.iload_n 1, 1) := by decide +kernel
theorem dX0_whyNot_2 : decode cX0_whyNot 2 = .ok (.invokevirtual 87, 3) := by decide +kernel
theorem dX0_whyNot_5 : decode cX0_whyNot 5 = .ok (.ifCond .ne 5, 3) := by decide +kernel
theorem dX0_whyNot_8 : decode cX0_whyNot 8 = .ok (.iconst 1, 1) := by decide +kernel
theorem dX0_whyNot_9 : decode cX0_whyNot 9 = .ok (.ireturn, 1) := by decide +kernel
theorem dX0_whyNot_10 : decode cX0_whyNot 10 = .ok (.aload_n 0, 1) := by decide +kernel
theorem dX0_whyNot_11 : decode cX0_whyNot 11 = .ok (.getfield 15, 3) := by decide +kernel
theorem dX0_whyNot_14 : decode cX0_whyNot 14 = .ok (.iload_n 2, 1) := by decide +kernel
theorem dX0_whyNot_15 : decode cX0_whyNot 15 = .ok (.invokestatic 90, 3) := by decide +kernel
theorem dX0_whyNot_18 : decode cX0_whyNot 18 = .ok (.iload_n 1, 1) := by decide +kernel
theorem dX0_whyNot_19 : decode cX0_whyNot 19 = .ok (.invokestatic 55, 3) := by decide +kernel
theorem dX0_whyNot_22 : decode cX0_whyNot 22 = .ok (.ifCond .ne 5, 3) := by decide +kernel
theorem dX0_whyNot_25 : decode cX0_whyNot 25 = .ok (.iconst 2, 1) := by decide +kernel
theorem dX0_whyNot_26 : decode cX0_whyNot 26 = .ok (.ireturn, 1) := by decide +kernel
theorem dX0_whyNot_27 : decode cX0_whyNot 27 = .ok (.aload_n 0, 1) := by decide +kernel
theorem dX0_whyNot_28 : decode cX0_whyNot 28 = .ok (.iload_n 1, 1) := by decide +kernel
theorem dX0_whyNot_29 : decode cX0_whyNot 29 = .ok (.invokevirtual 93, 3) := by decide +kernel
theorem dX0_whyNot_32 : decode cX0_whyNot 32 = .ok (.aload_n 0, 1) := by decide +kernel
theorem dX0_whyNot_33 : decode cX0_whyNot 33 = .ok (.getfield 18, 3) := by decide +kernel
theorem dX0_whyNot_36 : decode cX0_whyNot 36 = .ok (.iload_n 2, 1) := by decide +kernel
theorem dX0_whyNot_37 : decode cX0_whyNot 37 = .ok (.invokestatic 90, 3) := by decide +kernel
theorem dX0_whyNot_40 : decode cX0_whyNot 40 = .ok (.iand, 1) := by decide +kernel
theorem dX0_whyNot_41 : decode cX0_whyNot 41 = .ok (.ifCond .eq 5, 3) := by decide +kernel
theorem dX0_whyNot_44 : decode cX0_whyNot 44 = .ok (.iconst 3, 1) := by decide +kernel
theorem dX0_whyNot_45 : decode cX0_whyNot 45 = .ok (.ireturn, 1) := by decide +kernel
theorem dX0_whyNot_46 : decode cX0_whyNot 46 = .ok (.aload_n 0, 1) := by decide +kernel
theorem dX0_whyNot_47 : decode cX0_whyNot 47 = .ok (.iload_n 1, 1) := by decide +kernel
theorem dX0_whyNot_48 : decode cX0_whyNot 48 = .ok (.invokevirtual 93, 3) := by decide +kernel
theorem dX0_whyNot_51 : decode cX0_whyNot 51 = .ok (.aload_n 0, 1) := by decide +kernel
theorem dX0_whyNot_52 : decode cX0_whyNot 52 = .ok (.getfield 31, 3) := by decide +kernel
theorem dX0_whyNot_55 : decode cX0_whyNot 55 = .ok (.iand, 1) := by decide +kernel
theorem dX0_whyNot_56 : decode cX0_whyNot 56 = .ok (.ifCond .ne 7, 3) := by decide +kernel
theorem dX0_whyNot_59 : decode cX0_whyNot 59 = .ok (.iconst 1, 1) := by decide +kernel
theorem dX0_whyNot_60 : decode cX0_whyNot 60 = .ok (.goto 4, 3) := by decide +kernel
theorem dX0_whyNot_63 : decode cX0_whyNot 63 = .ok (.iconst 0, 1) := by decide +kernel
theorem dX0_whyNot_64 : decode cX0_whyNot 64 = .ok (.istore_n 3, 1) := by decide +kernel
theorem dX0_whyNot_65 : decode cX0_whyNot 65 = .ok (.iload_n 3, 1) := by decide +kernel
theorem dX0_whyNot_66 : decode cX0_whyNot 66 = .ok (.ifCond .ne 22, 3) := by decide +kernel
theorem dX0_whyNot_69 : decode cX0_whyNot 69 = .ok (.aload_n 0, 1) := by decide +kernel
theorem dX0_whyNot_70 : decode cX0_whyNot 70 = .ok (.getfield 21, 3) := by decide +kernel
theorem dX0_whyNot_73 : decode cX0_whyNot 73 = .ok (.iload_n 2, 1) := by decide +kernel
theorem dX0_whyNot_74 : decode cX0_whyNot 74 = .ok (.invokestatic 90, 3) := by decide +kernel
theorem dX0_whyNot_77 : decode cX0_whyNot 77 = .ok (.iload_n 1, 1) := by decide +kernel
theorem dX0_whyNot_78 : decode cX0_whyNot 78 = .ok (.invokestatic 55, 3) := by decide +kernel
theorem dX0_whyNot_81 : decode cX0_whyNot 81 = .ok (.ifCond .eq 7, 3) := by decide +kernel
theorem dX0_whyNot_84 : decode cX0_whyNot 84 = .ok (.iconst 4, 1) := by decide +kernel
theorem dX0_whyNot_85 : decode cX0_whyNot 85 = .ok (.goto 4, 3) := by decide +kernel
theorem dX0_whyNot_88 : decode cX0_whyNot 88 = .ok (.iconst 0, 1) := by decide +kernel
theorem dX0_whyNot_89 : decode cX0_whyNot 89 = .ok (.ireturn, 1) := by decide +kernel
theorem dX0_choicesOn_0 : decode cX0_choicesOn 0 = .ok (.iconst 0, 1) := by decide +kernel
theorem dX0_choicesOn_1 : decode cX0_choicesOn 1 = .ok (.istore_n 2, 1) := by decide +kernel
theorem dX0_choicesOn_2 : decode cX0_choicesOn 2 = .ok (.iconst 0, 1) := by decide +kernel
theorem dX0_choicesOn_3 : decode cX0_choicesOn 3 = .ok (.istore_n 3, 1) := by decide +kernel
theorem dX0_choicesOn_4 : decode cX0_choicesOn 4 = .ok (.iload_n 3, 1) := by decide +kernel
theorem dX0_choicesOn_5 : decode cX0_choicesOn 5 = .ok (.aload_n 0, 1) := by decide +kernel
theorem dX0_choicesOn_6 : decode cX0_choicesOn 6 = .ok (.getfield 24, 3) := by decide +kernel
theorem dX0_choicesOn_9 : decode cX0_choicesOn 9 = .ok (.if_icmp .ge 24, 3) := by decide +kernel
theorem dX0_choicesOn_12 : decode cX0_choicesOn 12 = .ok (.aload_n 0, 1) := by decide +kernel
theorem dX0_choicesOn_13 : decode cX0_choicesOn 13 = .ok (.iload_n 1, 1) := by decide +kernel
theorem dX0_choicesOn_14 : decode cX0_choicesOn 14 = .ok (.iload_n 3, 1) := by decide +kernel
theorem dX0_choicesOn_15 : decode cX0_choicesOn 15 = .ok (.invokevirtual 96, 3) := by decide +kernel
theorem dX0_choicesOn_18 : decode cX0_choicesOn 18 = .ok (.ifCond .ne 9, 3) := by decide +kernel
theorem dX0_choicesOn_21 : decode cX0_choicesOn 21 = .ok (.iload_n 2, 1) := by decide +kernel
theorem dX0_choicesOn_22 : decode cX0_choicesOn 22 = .ok (.iconst 1, 1) := by decide +kernel
theorem dX0_choicesOn_23 : decode cX0_choicesOn 23 = .ok (.iload_n 3, 1) := by decide +kernel
theorem dX0_choicesOn_24 : decode cX0_choicesOn 24 = .ok (.ishl, 1) := by decide +kernel
theorem dX0_choicesOn_25 : decode cX0_choicesOn 25 = .ok (.ior, 1) := by decide +kernel
theorem dX0_choicesOn_26 : decode cX0_choicesOn 26 = .ok (.istore_n 2, 1) := by decide +kernel
theorem dX0_choicesOn_27 : decode cX0_choicesOn 27 = .ok (.iinc 3 1, 3) := by decide +kernel
theorem dX0_choicesOn_30 : decode cX0_choicesOn 30 = .ok (.goto (-26), 3) := by decide +kernel
theorem dX0_choicesOn_33 : decode cX0_choicesOn 33 = .ok (.iload_n 2, 1) := by decide +kernel
theorem dX0_choicesOn_34 : decode cX0_choicesOn 34 = .ok (.ireturn, 1) := by decide +kernel
theorem dX0_choicesIn_0 : decode cX0_choicesIn 0 = .ok (.iconst 0, 1) := by decide +kernel
theorem dX0_choicesIn_1 : decode cX0_choicesIn 1 = .ok (.istore_n 2, 1) := by decide +kernel
theorem dX0_choicesIn_2 : decode cX0_choicesIn 2 = .ok (.iconst 0, 1) := by decide +kernel
theorem dX0_choicesIn_3 : decode cX0_choicesIn 3 = .ok (.istore_n 3, 1) := by decide +kernel
theorem dX0_choicesIn_4 : decode cX0_choicesIn 4 = .ok (.iload_n 3, 1) := by decide +kernel
theorem dX0_choicesIn_5 : decode cX0_choicesIn 5 = .ok (.bipush 9, 2) := by decide +kernel
theorem dX0_choicesIn_7 : decode cX0_choicesIn 7 = .ok (.if_icmp .ge 28, 3) := by decide +kernel
theorem dX0_choicesIn_10 : decode cX0_choicesIn 10 = .ok (.iload_n 1, 1) := by decide +kernel
theorem dX0_choicesIn_11 : decode cX0_choicesIn 11 = .ok (.iload_n 3, 1) := by decide +kernel
theorem dX0_choicesIn_12 : decode cX0_choicesIn 12 = .ok (.invokestatic 55, 3) := by decide +kernel
theorem dX0_choicesIn_15 : decode cX0_choicesIn 15 = .ok (.ifCond .eq 14, 3) := by decide +kernel
theorem dX0_choicesIn_18 : decode cX0_choicesIn 18 = .ok (.iload_n 2, 1) := by decide +kernel
theorem dX0_choicesIn_19 : decode cX0_choicesIn 19 = .ok (.aload_n 0, 1) := by decide +kernel
theorem dX0_choicesIn_20 : decode cX0_choicesIn 20 = .ok (.iload_n 3, 1) := by decide +kernel
theorem dX0_choicesIn_21 : decode cX0_choicesIn 21 = .ok (.invokevirtual 99, 3) := by decide +kernel
theorem dX0_choicesIn_24 : decode cX0_choicesIn 24 = .ok (.invokestatic 67, 3) := by decide +kernel
theorem dX0_choicesIn_27 : decode cX0_choicesIn 27 = .ok (.iadd, 1) := by decide +kernel
theorem dX0_choicesIn_28 : decode cX0_choicesIn 28 = .ok (.istore_n 2, 1) := by decide +kernel
theorem dX0_choicesIn_29 : decode cX0_choicesIn 29 = .ok (.iinc 3 1, 3) := by decide +kernel
theorem dX0_choicesIn_32 : decode cX0_choicesIn 32 = .ok (.goto (-28), 3) := by decide +kernel
theorem dX0_choicesIn_35 : decode cX0_choicesIn 35 = .ok (.iload_n 2, 1) := by decide +kernel
theorem dX0_choicesIn_36 : decode cX0_choicesIn 36 = .ok (.ireturn, 1) := by decide +kernel
theorem dX0_stuckVertices_0 : decode cX0_stuckVertices 0 = .ok (.iconst 0, 1) := by decide +kernel
theorem dX0_stuckVertices_1 : decode cX0_stuckVertices 1 = .ok (.istore_n 1, 1) := by decide +kernel
theorem dX0_stuckVertices_2 : decode cX0_stuckVertices 2 = .ok (.iconst 0, 1) := by decide +kernel
theorem dX0_stuckVertices_3 : decode cX0_stuckVertices 3 = .ok (.istore_n 2, 1) := by decide +kernel
theorem dX0_stuckVertices_4 : decode cX0_stuckVertices 4 = .ok (.iload_n 2, 1) := by decide +kernel
theorem dX0_stuckVertices_5 : decode cX0_stuckVertices 5 = .ok (.bipush 9, 2) := by decide +kernel
theorem dX0_stuckVertices_7 : decode cX0_stuckVertices 7 = .ok (.if_icmp .ge 28, 3) := by decide +kernel
theorem dX0_stuckVertices_10 : decode cX0_stuckVertices 10 = .ok (.aload_n 0, 1) := by decide +kernel
theorem dX0_stuckVertices_11 : decode cX0_stuckVertices 11 = .ok (.iload_n 2, 1) := by decide +kernel
theorem dX0_stuckVertices_12 : decode cX0_stuckVertices 12 = .ok (.invokevirtual 87, 3) := by decide +kernel
theorem dX0_stuckVertices_15 : decode cX0_stuckVertices 15 = .ok (.ifCond .eq 14, 3) := by decide +kernel
theorem dX0_stuckVertices_18 : decode cX0_stuckVertices 18 = .ok (.aload_n 0, 1) := by decide +kernel
theorem dX0_stuckVertices_19 : decode cX0_stuckVertices 19 = .ok (.iload_n 2, 1) := by decide +kernel
theorem dX0_stuckVertices_20 : decode cX0_stuckVertices 20 = .ok (.invokevirtual 99, 3) := by decide +kernel
theorem dX0_stuckVertices_23 : decode cX0_stuckVertices 23 = .ok (.ifCond .ne 6, 3) := by decide +kernel
theorem dX0_stuckVertices_26 : decode cX0_stuckVertices 26 = .ok (.iinc 1 1, 3) := by decide +kernel
theorem dX0_stuckVertices_29 : decode cX0_stuckVertices 29 = .ok (.iinc 2 1, 3) := by decide +kernel
theorem dX0_stuckVertices_32 : decode cX0_stuckVertices 32 = .ok (.goto (-28), 3) := by decide +kernel
theorem dX0_stuckVertices_35 : decode cX0_stuckVertices 35 = .ok (.iload_n 1, 1) := by decide +kernel
theorem dX0_stuckVertices_36 : decode cX0_stuckVertices 36 = .ok (.ireturn, 1) := by decide +kernel
theorem dX0_openTo_0 : decode cX0_openTo 0 = .ok (.aload_n 0, 1) := by decide +kernel
theorem dX0_openTo_1 : decode cX0_openTo 1 = .ok (.getfield 15, 3) := by decide +kernel
theorem dX0_openTo_4 : decode cX0_openTo 4 = .ok (.iload_n 1, 1) := by decide +kernel
theorem dX0_openTo_5 : decode cX0_openTo 5 = .ok (.invokestatic 90, 3) := by decide +kernel
theorem dX0_openTo_8 : decode cX0_openTo 8 = .ok (.aload_n 0, 1) := by decide +kernel
theorem dX0_openTo_9 : decode cX0_openTo 9 = .ok (.getfield 31, 3) := by decide +kernel
theorem dX0_openTo_12 : decode cX0_openTo 12 = .ok (.iand, 1) := by decide +kernel
theorem dX0_openTo_13 : decode cX0_openTo 13 = .ok (.istore_n 2, 1) := by decide +kernel
theorem dX0_openTo_14 : decode cX0_openTo 14 = .ok (.iconst 0, 1) := by decide +kernel
theorem dX0_openTo_15 : decode cX0_openTo 15 = .ok (.istore_n 3, 1) := by decide +kernel
theorem dX0_openTo_16 : decode cX0_openTo 16 = .ok (.iload_n 3, 1) := by decide +kernel
theorem dX0_openTo_17 : decode cX0_openTo 17 = .ok (.aload_n 0, 1) := by decide +kernel
theorem dX0_openTo_18 : decode cX0_openTo 18 = .ok (.getfield 9, 3) := by decide +kernel
theorem dX0_openTo_21 : decode cX0_openTo 21 = .ok (.arraylength, 1) := by decide +kernel
theorem dX0_openTo_22 : decode cX0_openTo 22 = .ok (.if_icmp .ge 35, 3) := by decide +kernel
theorem dX0_openTo_25 : decode cX0_openTo 25 = .ok (.aload_n 0, 1) := by decide +kernel
theorem dX0_openTo_26 : decode cX0_openTo 26 = .ok (.getfield 9, 3) := by decide +kernel
theorem dX0_openTo_29 : decode cX0_openTo 29 = .ok (.iload_n 3, 1) := by decide +kernel
theorem dX0_openTo_30 : decode cX0_openTo 30 = .ok (.iaload, 1) := by decide +kernel
theorem dX0_openTo_31 : decode cX0_openTo 31 = .ok (.aload_n 0, 1) := by decide +kernel
theorem dX0_openTo_32 : decode cX0_openTo 32 = .ok (.getfield 18, 3) := by decide +kernel
theorem dX0_openTo_35 : decode cX0_openTo 35 = .ok (.iload_n 1, 1) := by decide +kernel
theorem dX0_openTo_36 : decode cX0_openTo 36 = .ok (.invokestatic 90, 3) := by decide +kernel
theorem dX0_openTo_39 : decode cX0_openTo 39 = .ok (.iand, 1) := by decide +kernel
theorem dX0_openTo_40 : decode cX0_openTo 40 = .ok (.ifCond .eq 11, 3) := by decide +kernel
theorem dX0_openTo_43 : decode cX0_openTo 43 = .ok (.iload_n 2, 1) := by decide +kernel
theorem dX0_openTo_44 : decode cX0_openTo 44 = .ok (.iconst 1, 1) := by decide +kernel
theorem dX0_openTo_45 : decode cX0_openTo 45 = .ok (.iload_n 3, 1) := by decide +kernel
theorem dX0_openTo_46 : decode cX0_openTo 46 = .ok (.ishl, 1) := by decide +kernel
theorem dX0_openTo_47 : decode cX0_openTo 47 = .ok (.iconst (-1), 1) := by decide +kernel
theorem dX0_openTo_48 : decode cX0_openTo 48 = .ok (.ixor, 1) := by decide +kernel
theorem dX0_openTo_49 : decode cX0_openTo 49 = .ok (.iand, 1) := by decide +kernel
theorem dX0_openTo_50 : decode cX0_openTo 50 = .ok (.istore_n 2, 1) := by decide +kernel
theorem dX0_openTo_51 : decode cX0_openTo 51 = .ok (.iinc 3 1, 3) := by decide +kernel
theorem dX0_openTo_54 : decode cX0_openTo 54 = .ok (.goto (-38), 3) := by decide +kernel
theorem dX0_openTo_57 : decode cX0_openTo 57 = .ok (.iload_n 2, 1) := by decide +kernel
theorem dX0_openTo_58 : decode cX0_openTo 58 = .ok (.ireturn, 1) := by decide +kernel
theorem dX0_turn_0 : decode cX0_turn 0 = .ok (.aload_n 0, 1) := by decide +kernel
theorem dX0_turn_1 : decode cX0_turn 1 = .ok (.getfield 40, 3) := by decide +kernel
theorem dX0_turn_4 : decode cX0_turn 4 = .ok (.iconst 1, 1) := by decide +kernel
theorem dX0_turn_5 : decode cX0_turn 5 = .ok (.iand, 1) := by decide +kernel
theorem dX0_turn_6 : decode cX0_turn 6 = .ok (.ireturn, 1) := by decide +kernel
theorem dX0_isOver_0 : decode cX0_isOver 0 = .ok (.aload_n 0, 1) := by decide +kernel
theorem dX0_isOver_1 : decode cX0_isOver 1 = .ok (.getfield 37, 3) := by decide +kernel
theorem dX0_isOver_4 : decode cX0_isOver 4 = .ok (.ifCond .ne 18, 3) := by decide +kernel
theorem dX0_isOver_7 : decode cX0_isOver 7 = .ok (.aload_n 0, 1) := by decide +kernel
theorem dX0_isOver_8 : decode cX0_isOver 8 = .ok (.aload_n 0, 1) := by decide +kernel
theorem dX0_isOver_9 : decode cX0_isOver 9 = .ok (.getfield 31, 3) := by decide +kernel
theorem dX0_isOver_12 : decode cX0_isOver 12 = .ok (.invokevirtual 102, 3) := by decide +kernel
theorem dX0_isOver_15 : decode cX0_isOver 15 = .ok (.ifCond .ne 7, 3) := by decide +kernel
theorem dX0_isOver_18 : decode cX0_isOver 18 = .ok (.iconst 1, 1) := by decide +kernel
theorem dX0_isOver_19 : decode cX0_isOver 19 = .ok (.goto 4, 3) := by decide +kernel
theorem dX0_isOver_22 : decode cX0_isOver 22 = .ok (.iconst 0, 1) := by decide +kernel
theorem dX0_isOver_23 : decode cX0_isOver 23 = .ok (.ireturn, 1) := by decide +kernel
theorem dX0_passValue_0 : decode cX0_passValue 0 = .ok (.aload_n 0, 1) := by decide +kernel
theorem dX0_passValue_1 : decode cX0_passValue 1 = .ok (.getfield 37, 3) := by decide +kernel
theorem dX0_passValue_4 : decode cX0_passValue 4 = .ok (.iconst 1, 1) := by decide +kernel
theorem dX0_passValue_5 : decode cX0_passValue 5 = .ok (.iand, 1) := by decide +kernel
theorem dX0_passValue_6 : decode cX0_passValue 6 = .ok (.ireturn, 1) := by decide +kernel
theorem dX0_paint_0 : decode cX0_paint 0 = .ok (.aload_n 0, 1) := by decide +kernel
theorem dX0_paint_1 : decode cX0_paint 1 = .ok (.iload_n 1, 1) := by decide +kernel
theorem dX0_paint_2 : decode cX0_paint 2 = .ok (.invokevirtual 105, 3) := by decide +kernel
theorem dX0_paint_5 : decode cX0_paint 5 = .ok (.iconst 1, 1) := by decide +kernel
theorem dX0_paint_6 : decode cX0_paint 6 = .ok (.iload_n 1, 1) := by decide +kernel
theorem dX0_paint_7 : decode cX0_paint 7 = .ok (.ishl, 1) := by decide +kernel
theorem dX0_paint_8 : decode cX0_paint 8 = .ok (.iconst (-1), 1) := by decide +kernel
theorem dX0_paint_9 : decode cX0_paint 9 = .ok (.ixor, 1) := by decide +kernel
theorem dX0_paint_10 : decode cX0_paint 10 = .ok (.iand, 1) := by decide +kernel
theorem dX0_paint_11 : decode cX0_paint 11 = .ok (.istore_n 3, 1) := by decide +kernel
theorem dX0_paint_12 : decode cX0_paint 12 = .ok (.aload_n 0, 1) := by decide +kernel
theorem dX0_paint_13 : decode cX0_paint 13 = .ok (.dup, 1) := by decide +kernel
theorem dX0_paint_14 : decode cX0_paint 14 = .ok (.getfield 31, 3) := by decide +kernel
theorem dX0_paint_17 : decode cX0_paint 17 = .ok (.iconst 1, 1) := by decide +kernel
theorem dX0_paint_18 : decode cX0_paint 18 = .ok (.iload_n 1, 1) := by decide +kernel
theorem dX0_paint_19 : decode cX0_paint 19 = .ok (.ishl, 1) := by decide +kernel
theorem dX0_paint_20 : decode cX0_paint 20 = .ok (.iconst (-1), 1) := by decide +kernel
theorem dX0_paint_21 : decode cX0_paint 21 = .ok (.ixor, 1) := by decide +kernel
theorem dX0_paint_22 : decode cX0_paint 22 = .ok (.iand, 1) := by decide +kernel
theorem dX0_paint_23 : decode cX0_paint 23 = .ok (.putfield 31, 3) := by decide +kernel
theorem dX0_paint_26 : decode cX0_paint 26 = .ok (.iconst 0, 1) := by decide +kernel
theorem dX0_paint_27 : decode cX0_paint 27 = .ok (.istore 4, 2) := by decide +kernel
theorem dX0_paint_29 : decode cX0_paint 29 = .ok (.iload 4, 2) := by decide +kernel
theorem dX0_paint_31 : decode cX0_paint 31 = .ok (.aload_n 0, 1) := by decide +kernel
theorem dX0_paint_32 : decode cX0_paint 32 = .ok (.getfield 21, 3) := by decide +kernel
theorem dX0_paint_35 : decode cX0_paint 35 = .ok (.arraylength, 1) := by decide +kernel
theorem dX0_paint_36 : decode cX0_paint 36 = .ok (.if_icmp .ge 22, 3) := by decide +kernel
theorem dX0_paint_39 : decode cX0_paint 39 = .ok (.aload_n 0, 1) := by decide +kernel
theorem dX0_paint_40 : decode cX0_paint 40 = .ok (.getfield 21, 3) := by decide +kernel
theorem dX0_paint_43 : decode cX0_paint 43 = .ok (.iload 4, 2) := by decide +kernel
theorem dX0_paint_45 : decode cX0_paint 45 = .ok (.dup2, 1) := by decide +kernel
theorem dX0_paint_46 : decode cX0_paint 46 = .ok (.iaload, 1) := by decide +kernel
theorem dX0_paint_47 : decode cX0_paint 47 = .ok (.iload_n 3, 1) := by decide +kernel
theorem dX0_paint_48 : decode cX0_paint 48 = .ok (.iconst (-1), 1) := by decide +kernel
theorem dX0_paint_49 : decode cX0_paint 49 = .ok (.ixor, 1) := by decide +kernel
theorem dX0_paint_50 : decode cX0_paint 50 = .ok (.iand, 1) := by decide +kernel
theorem dX0_paint_51 : decode cX0_paint 51 = .ok (.iastore, 1) := by decide +kernel
theorem dX0_paint_52 : decode cX0_paint 52 = .ok (.iinc 4 1, 3) := by decide +kernel
theorem dX0_paint_55 : decode cX0_paint 55 = .ok (.goto (-26), 3) := by decide +kernel
theorem dX0_paint_58 : decode cX0_paint 58 = .ok (.aload_n 0, 1) := by decide +kernel
theorem dX0_paint_59 : decode cX0_paint 59 = .ok (.getfield 21, 3) := by decide +kernel
theorem dX0_paint_62 : decode cX0_paint 62 = .ok (.iload_n 2, 1) := by decide +kernel
theorem dX0_paint_63 : decode cX0_paint 63 = .ok (.iload_n 3, 1) := by decide +kernel
theorem dX0_paint_64 : decode cX0_paint 64 = .ok (.invokestatic 59, 3) := by decide +kernel
theorem dX0_paint_67 : decode cX0_paint 67 = .ok (.aload_n 0, 1) := by decide +kernel
theorem dX0_paint_68 : decode cX0_paint 68 = .ok (.getfield 18, 3) := by decide +kernel
theorem dX0_paint_71 : decode cX0_paint 71 = .ok (.iload_n 2, 1) := by decide +kernel
theorem dX0_paint_72 : decode cX0_paint 72 = .ok (.iconst 1, 1) := by decide +kernel
theorem dX0_paint_73 : decode cX0_paint 73 = .ok (.iload_n 1, 1) := by decide +kernel
theorem dX0_paint_74 : decode cX0_paint 74 = .ok (.ishl, 1) := by decide +kernel
theorem dX0_paint_75 : decode cX0_paint 75 = .ok (.invokestatic 59, 3) := by decide +kernel
theorem dX0_paint_78 : decode cX0_paint 78 = .ok (.aload_n 0, 1) := by decide +kernel
theorem dX0_paint_79 : decode cX0_paint 79 = .ok (.new 108, 3) := by decide +kernel
theorem dX0_paint_82 : decode cX0_paint 82 = .ok (.dup, 1) := by decide +kernel
theorem dX0_paint_83 : decode cX0_paint 83 = .ok (.aload_n 0, 1) := by decide +kernel
theorem dX0_paint_84 : decode cX0_paint 84 = .ok (.getfield 43, 3) := by decide +kernel
theorem dX0_paint_87 : decode cX0_paint 87 = .ok (.iload_n 1, 1) := by decide +kernel
theorem dX0_paint_88 : decode cX0_paint 88 = .ok (.iload_n 2, 1) := by decide +kernel
theorem dX0_paint_89 : decode cX0_paint 89 = .ok (.aload_n 0, 1) := by decide +kernel
theorem dX0_paint_90 : decode cX0_paint 90 = .ok (.aload_n 0, 1) := by decide +kernel
theorem dX0_paint_91 : decode cX0_paint 91 = .ok (.getfield 31, 3) := by decide +kernel
theorem dX0_paint_94 : decode cX0_paint 94 = .ok (.invokevirtual 110, 3) := by decide +kernel
theorem dX0_paint_97 : decode cX0_paint 97 = .ok (.aload_n 0, 1) := by decide +kernel
theorem dX0_paint_98 : decode cX0_paint 98 = .ok (.iload_n 3, 1) := by decide +kernel
theorem dX0_paint_99 : decode cX0_paint 99 = .ok (.invokevirtual 110, 3) := by decide +kernel
theorem dX0_paint_102 : decode cX0_paint 102 = .ok (.invokespecial 113, 3) := by decide +kernel
theorem dX0_paint_105 : decode cX0_paint 105 = .ok (.putfield 43, 3) := by decide +kernel
theorem dX0_paint_108 : decode cX0_paint 108 = .ok (.aload_n 0, 1) := by decide +kernel
theorem dX0_paint_109 : decode cX0_paint 109 = .ok (.dup, 1) := by decide +kernel
theorem dX0_paint_110 : decode cX0_paint 110 = .ok (.getfield 40, 3) := by decide +kernel
theorem dX0_paint_113 : decode cX0_paint 113 = .ok (.iconst 1, 1) := by decide +kernel
theorem dX0_paint_114 : decode cX0_paint 114 = .ok (.iadd, 1) := by decide +kernel
theorem dX0_paint_115 : decode cX0_paint 115 = .ok (.putfield 40, 3) := by decide +kernel
theorem dX0_paint_118 : decode cX0_paint 118 = .ok (.return_, 1) := by decide +kernel
theorem dX0_spendPass_0 : decode cX0_spendPass 0 = .ok (.aload_n 0, 1) := by decide +kernel
theorem dX0_spendPass_1 : decode cX0_spendPass 1 = .ok (.dup, 1) := by decide +kernel
theorem dX0_spendPass_2 : decode cX0_spendPass 2 = .ok (.getfield 37, 3) := by decide +kernel
theorem dX0_spendPass_5 : decode cX0_spendPass 5 = .ok (.iconst 1, 1) := by decide +kernel
theorem dX0_spendPass_6 : decode cX0_spendPass 6 = .ok (.isub, 1) := by decide +kernel
theorem dX0_spendPass_7 : decode cX0_spendPass 7 = .ok (.putfield 37, 3) := by decide +kernel
theorem dX0_spendPass_10 : decode cX0_spendPass 10 = .ok (.aload_n 0, 1) := by decide +kernel
theorem dX0_spendPass_11 : decode cX0_spendPass 11 = .ok (.new 108, 3) := by decide +kernel
theorem dX0_spendPass_14 : decode cX0_spendPass 14 = .ok (.dup, 1) := by decide +kernel
theorem dX0_spendPass_15 : decode cX0_spendPass 15 = .ok (.aload_n 0, 1) := by decide +kernel
theorem dX0_spendPass_16 : decode cX0_spendPass 16 = .ok (.getfield 43, 3) := by decide +kernel
theorem dX0_spendPass_19 : decode cX0_spendPass 19 = .ok (.iconst (-1), 1) := by decide +kernel
theorem dX0_spendPass_20 : decode cX0_spendPass 20 = .ok (.iconst (-1), 1) := by decide +kernel
theorem dX0_spendPass_21 : decode cX0_spendPass 21 = .ok (.aload_n 0, 1) := by decide +kernel
theorem dX0_spendPass_22 : decode cX0_spendPass 22 = .ok (.aload_n 0, 1) := by decide +kernel
theorem dX0_spendPass_23 : decode cX0_spendPass 23 = .ok (.getfield 31, 3) := by decide +kernel
theorem dX0_spendPass_26 : decode cX0_spendPass 26 = .ok (.invokevirtual 110, 3) := by decide +kernel
theorem dX0_spendPass_29 : decode cX0_spendPass 29 = .ok (.iconst (-1), 1) := by decide +kernel
theorem dX0_spendPass_30 : decode cX0_spendPass 30 = .ok (.invokespecial 113, 3) := by decide +kernel
theorem dX0_spendPass_33 : decode cX0_spendPass 33 = .ok (.putfield 43, 3) := by decide +kernel
theorem dX0_spendPass_36 : decode cX0_spendPass 36 = .ok (.aload_n 0, 1) := by decide +kernel
theorem dX0_spendPass_37 : decode cX0_spendPass 37 = .ok (.dup, 1) := by decide +kernel
theorem dX0_spendPass_38 : decode cX0_spendPass 38 = .ok (.getfield 40, 3) := by decide +kernel
theorem dX0_spendPass_41 : decode cX0_spendPass 41 = .ok (.iconst 1, 1) := by decide +kernel
theorem dX0_spendPass_42 : decode cX0_spendPass 42 = .ok (.iadd, 1) := by decide +kernel
theorem dX0_spendPass_43 : decode cX0_spendPass 43 = .ok (.putfield 40, 3) := by decide +kernel
theorem dX0_spendPass_46 : decode cX0_spendPass 46 = .ok (.return_, 1) := by decide +kernel
theorem dX0_moveAt_0 : decode cX0_moveAt 0 = .ok (.iload_n 1, 1) := by decide +kernel
theorem dX0_moveAt_1 : decode cX0_moveAt 1 = .ok (.ifCond .lt 11, 3) := by decide +kernel
theorem dX0_moveAt_4 : decode cX0_moveAt 4 = .ok (.iload_n 1, 1) := by decide +kernel
theorem dX0_moveAt_5 : decode cX0_moveAt 5 = .ok (.aload_n 0, 1) := by decide +kernel
theorem dX0_moveAt_6 : decode cX0_moveAt 6 = .ok (.getfield 40, 3) := by decide +kernel
theorem dX0_moveAt_9 : decode cX0_moveAt 9 = .ok (.if_icmp .lt 5, 3) := by decide +kernel
theorem dX0_moveAt_12 : decode cX0_moveAt 12 = .ok (.aconst_null, 1) := by decide +kernel
theorem dX0_moveAt_13 : decode cX0_moveAt 13 = .ok (.areturn, 1) := by decide +kernel
theorem dX0_moveAt_14 : decode cX0_moveAt 14 = .ok (.aload_n 0, 1) := by decide +kernel
theorem dX0_moveAt_15 : decode cX0_moveAt 15 = .ok (.getfield 43, 3) := by decide +kernel
theorem dX0_moveAt_18 : decode cX0_moveAt 18 = .ok (.astore_n 2, 1) := by decide +kernel
theorem dX0_moveAt_19 : decode cX0_moveAt 19 = .ok (.aload_n 0, 1) := by decide +kernel
theorem dX0_moveAt_20 : decode cX0_moveAt 20 = .ok (.getfield 40, 3) := by decide +kernel
theorem dX0_moveAt_23 : decode cX0_moveAt 23 = .ok (.iconst 1, 1) := by decide +kernel
theorem dX0_moveAt_24 : decode cX0_moveAt 24 = .ok (.isub, 1) := by decide +kernel
theorem dX0_moveAt_25 : decode cX0_moveAt 25 = .ok (.istore_n 3, 1) := by decide +kernel
theorem dX0_moveAt_26 : decode cX0_moveAt 26 = .ok (.iload_n 3, 1) := by decide +kernel
theorem dX0_moveAt_27 : decode cX0_moveAt 27 = .ok (.iload_n 1, 1) := by decide +kernel
theorem dX0_moveAt_28 : decode cX0_moveAt 28 = .ok (.if_icmp .le 18, 3) := by decide +kernel
theorem dX0_moveAt_31 : decode cX0_moveAt 31 = .ok (.aload_n 2, 1) := by decide +kernel
theorem dX0_moveAt_32 : decode cX0_moveAt 32 = .ok (.ifnull 14, 3) := by decide +kernel
theorem dX0_moveAt_35 : decode cX0_moveAt 35 = .ok (.aload_n 2, 1) := by decide +kernel
theorem dX0_moveAt_36 : decode cX0_moveAt 36 = .ok (.getfield 116, 3) := by decide +kernel
theorem dX0_moveAt_39 : decode cX0_moveAt 39 = .ok (.astore_n 2, 1) := by decide +kernel
theorem dX0_moveAt_40 : decode cX0_moveAt 40 = .ok (.iinc 3 (-1), 3) := by decide +kernel
theorem dX0_moveAt_43 : decode cX0_moveAt 43 = .ok (.goto (-17), 3) := by decide +kernel
theorem dX0_moveAt_46 : decode cX0_moveAt 46 = .ok (.aload_n 2, 1) := by decide +kernel
theorem dX0_moveAt_47 : decode cX0_moveAt 47 = .ok (.areturn, 1) := by decide +kernel
theorem dX0_movesBy_0 : decode cX0_movesBy 0 = .ok (.iconst 0, 1) := by decide +kernel
theorem dX0_movesBy_1 : decode cX0_movesBy 1 = .ok (.istore_n 3, 1) := by decide +kernel
theorem dX0_movesBy_2 : decode cX0_movesBy 2 = .ok (.aload_n 0, 1) := by decide +kernel
theorem dX0_movesBy_3 : decode cX0_movesBy 3 = .ok (.getfield 43, 3) := by decide +kernel
theorem dX0_movesBy_6 : decode cX0_movesBy 6 = .ok (.astore 4, 2) := by decide +kernel
theorem dX0_movesBy_8 : decode cX0_movesBy 8 = .ok (.aload_n 0, 1) := by decide +kernel
theorem dX0_movesBy_9 : decode cX0_movesBy 9 = .ok (.getfield 40, 3) := by decide +kernel
theorem dX0_movesBy_12 : decode cX0_movesBy 12 = .ok (.iconst 1, 1) := by decide +kernel
theorem dX0_movesBy_13 : decode cX0_movesBy 13 = .ok (.isub, 1) := by decide +kernel
theorem dX0_movesBy_14 : decode cX0_movesBy 14 = .ok (.istore 5, 2) := by decide +kernel
theorem dX0_movesBy_16 : decode cX0_movesBy 16 = .ok (.iload 5, 2) := by decide +kernel
theorem dX0_movesBy_18 : decode cX0_movesBy 18 = .ok (.ifCond .lt 41, 3) := by decide +kernel
theorem dX0_movesBy_21 : decode cX0_movesBy 21 = .ok (.aload 4, 2) := by decide +kernel
theorem dX0_movesBy_23 : decode cX0_movesBy 23 = .ok (.ifnull 36, 3) := by decide +kernel
theorem dX0_movesBy_26 : decode cX0_movesBy 26 = .ok (.iload 5, 2) := by decide +kernel
theorem dX0_movesBy_28 : decode cX0_movesBy 28 = .ok (.iconst 1, 1) := by decide +kernel
theorem dX0_movesBy_29 : decode cX0_movesBy 29 = .ok (.iand, 1) := by decide +kernel
theorem dX0_movesBy_30 : decode cX0_movesBy 30 = .ok (.iload_n 1, 1) := by decide +kernel
theorem dX0_movesBy_31 : decode cX0_movesBy 31 = .ok (.if_icmp .ne 15, 3) := by decide +kernel
theorem dX0_movesBy_34 : decode cX0_movesBy 34 = .ok (.aload 4, 2) := by decide +kernel
theorem dX0_movesBy_36 : decode cX0_movesBy 36 = .ok (.iload_n 2, 1) := by decide +kernel
theorem dX0_movesBy_37 : decode cX0_movesBy 37 = .ok (.invokevirtual 119, 3) := by decide +kernel
theorem dX0_movesBy_40 : decode cX0_movesBy 40 = .ok (.ifCond .eq 6, 3) := by decide +kernel
theorem dX0_movesBy_43 : decode cX0_movesBy 43 = .ok (.iinc 3 1, 3) := by decide +kernel
theorem dX0_movesBy_46 : decode cX0_movesBy 46 = .ok (.aload 4, 2) := by decide +kernel
theorem dX0_movesBy_48 : decode cX0_movesBy 48 = .ok (.getfield 116, 3) := by decide +kernel
theorem dX0_movesBy_51 : decode cX0_movesBy 51 = .ok (.astore 4, 2) := by decide +kernel
theorem dX0_movesBy_53 : decode cX0_movesBy 53 = .ok (.iinc 5 (-1), 3) := by decide +kernel
theorem dX0_movesBy_56 : decode cX0_movesBy 56 = .ok (.goto (-40), 3) := by decide +kernel
theorem dX0_movesBy_59 : decode cX0_movesBy 59 = .ok (.iload_n 3, 1) := by decide +kernel
theorem dX0_movesBy_60 : decode cX0_movesBy 60 = .ok (.ireturn, 1) := by decide +kernel
theorem dX0_coloursLaidBy_0 : decode cX0_coloursLaidBy 0 = .ok (.iconst 0, 1) := by decide +kernel
theorem dX0_coloursLaidBy_1 : decode cX0_coloursLaidBy 1 = .ok (.istore_n 2, 1) := by decide +kernel
theorem dX0_coloursLaidBy_2 : decode cX0_coloursLaidBy 2 = .ok (.aload_n 0, 1) := by decide +kernel
theorem dX0_coloursLaidBy_3 : decode cX0_coloursLaidBy 3 = .ok (.getfield 43, 3) := by decide +kernel
theorem dX0_coloursLaidBy_6 : decode cX0_coloursLaidBy 6 = .ok (.astore_n 3, 1) := by decide +kernel
theorem dX0_coloursLaidBy_7 : decode cX0_coloursLaidBy 7 = .ok (.aload_n 0, 1) := by decide +kernel
theorem dX0_coloursLaidBy_8 : decode cX0_coloursLaidBy 8 = .ok (.getfield 40, 3) := by decide +kernel
theorem dX0_coloursLaidBy_11 : decode cX0_coloursLaidBy 11 = .ok (.iconst 1, 1) := by decide +kernel
theorem dX0_coloursLaidBy_12 : decode cX0_coloursLaidBy 12 = .ok (.isub, 1) := by decide +kernel
theorem dX0_coloursLaidBy_13 : decode cX0_coloursLaidBy 13 = .ok (.istore 4, 2) := by decide +kernel
theorem dX0_coloursLaidBy_15 : decode cX0_coloursLaidBy 15 = .ok (.iload 4, 2) := by decide +kernel
theorem dX0_coloursLaidBy_17 : decode cX0_coloursLaidBy 17 = .ok (.ifCond .lt 43, 3) := by decide +kernel
theorem dX0_coloursLaidBy_20 : decode cX0_coloursLaidBy 20 = .ok (.aload_n 3, 1) := by decide +kernel
theorem dX0_coloursLaidBy_21 : decode cX0_coloursLaidBy 21 = .ok (.ifnull 39, 3) := by decide +kernel
theorem dX0_coloursLaidBy_24 : decode cX0_coloursLaidBy 24 = .ok (.iload 4, 2) := by decide +kernel
theorem dX0_coloursLaidBy_26 : decode cX0_coloursLaidBy 26 = .ok (.iconst 1, 1) := by decide +kernel
theorem dX0_coloursLaidBy_27 : decode cX0_coloursLaidBy 27 = .ok (.iand, 1) := by decide +kernel
theorem dX0_coloursLaidBy_28 : decode cX0_coloursLaidBy 28 = .ok (.iload_n 1, 1) := by decide +kernel
theorem dX0_coloursLaidBy_29 : decode cX0_coloursLaidBy 29 = .ok (.if_icmp .ne 20, 3) := by decide +kernel
theorem dX0_coloursLaidBy_32 : decode cX0_coloursLaidBy 32 = .ok (.aload_n 3, 1) := by decide +kernel
theorem dX0_coloursLaidBy_33 : decode cX0_coloursLaidBy 33 = .ok (.getfield 122, 3) := by decide +kernel
theorem dX0_coloursLaidBy_36 : decode cX0_coloursLaidBy 36 = .ok (.iconst (-1), 1) := by decide +kernel
theorem dX0_coloursLaidBy_37 : decode cX0_coloursLaidBy 37 = .ok (.if_icmp .eq 12, 3) := by decide +kernel
theorem dX0_coloursLaidBy_40 : decode cX0_coloursLaidBy 40 = .ok (.iload_n 2, 1) := by decide +kernel
theorem dX0_coloursLaidBy_41 : decode cX0_coloursLaidBy 41 = .ok (.iconst 1, 1) := by decide +kernel
theorem dX0_coloursLaidBy_42 : decode cX0_coloursLaidBy 42 = .ok (.aload_n 3, 1) := by decide +kernel
theorem dX0_coloursLaidBy_43 : decode cX0_coloursLaidBy 43 = .ok (.getfield 122, 3) := by decide +kernel
theorem dX0_coloursLaidBy_46 : decode cX0_coloursLaidBy 46 = .ok (.ishl, 1) := by decide +kernel
theorem dX0_coloursLaidBy_47 : decode cX0_coloursLaidBy 47 = .ok (.ior, 1) := by decide +kernel
theorem dX0_coloursLaidBy_48 : decode cX0_coloursLaidBy 48 = .ok (.istore_n 2, 1) := by decide +kernel
theorem dX0_coloursLaidBy_49 : decode cX0_coloursLaidBy 49 = .ok (.aload_n 3, 1) := by decide +kernel
theorem dX0_coloursLaidBy_50 : decode cX0_coloursLaidBy 50 = .ok (.getfield 116, 3) := by decide +kernel
theorem dX0_coloursLaidBy_53 : decode cX0_coloursLaidBy 53 = .ok (.astore_n 3, 1) := by decide +kernel
theorem dX0_coloursLaidBy_54 : decode cX0_coloursLaidBy 54 = .ok (.iinc 4 (-1), 3) := by decide +kernel
theorem dX0_coloursLaidBy_57 : decode cX0_coloursLaidBy 57 = .ok (.goto (-42), 3) := by decide +kernel
theorem dX0_coloursLaidBy_60 : decode cX0_coloursLaidBy 60 = .ok (.iload_n 2, 1) := by decide +kernel
theorem dX0_coloursLaidBy_61 : decode cX0_coloursLaidBy 61 = .ok (.ireturn, 1) := by decide +kernel
theorem dX1_init_0 : decode cX1_init 0 = .ok (.aload_n 0, 1) := by decide +kernel
theorem dX1_init_1 : decode cX1_init 1 = .ok (.invokespecial 3, 3) := by decide +kernel
theorem dX1_init_4 : decode cX1_init 4 = .ok (.aload_n 0, 1) := by decide +kernel
theorem dX1_init_5 : decode cX1_init 5 = .ok (.bipush 8, 2) := by decide +kernel
theorem dX1_init_7 : decode cX1_init 7 = .ok (.anewarray 9, 3) := by decide +kernel
theorem dX1_init_10 : decode cX1_init 10 = .ok (.putfield 11, 3) := by decide +kernel
theorem dX1_init_13 : decode cX1_init 13 = .ok (.return_, 1) := by decide +kernel
theorem dX1_keep_0 : decode cX1_keep 0 = .ok (.aload_n 0, 1) := by decide +kernel
theorem dX1_keep_1 : decode cX1_keep 1 = .ok (.getfield 11, 3) := by decide +kernel
theorem dX1_keep_4 : decode cX1_keep 4 = .ok (.aload_n 0, 1) := by decide +kernel
theorem dX1_keep_5 : decode cX1_keep 5 = .ok (.getfield 17, 3) := by decide +kernel
theorem dX1_keep_8 : decode cX1_keep 8 = .ok (.aload_n 1, 1) := by decide +kernel
theorem dX1_keep_9 : decode cX1_keep 9 = .ok (.invokestatic 21, 3) := by decide +kernel
theorem dX1_keep_12 : decode cX1_keep 12 = .ok (.aload_n 0, 1) := by decide +kernel
theorem dX1_keep_13 : decode cX1_keep 13 = .ok (.aload_n 0, 1) := by decide +kernel
theorem dX1_keep_14 : decode cX1_keep 14 = .ok (.getfield 17, 3) := by decide +kernel
theorem dX1_keep_17 : decode cX1_keep 17 = .ok (.iconst 1, 1) := by decide +kernel
theorem dX1_keep_18 : decode cX1_keep 18 = .ok (.iadd, 1) := by decide +kernel
theorem dX1_keep_19 : decode cX1_keep 19 = .ok (.aload_n 0, 1) := by decide +kernel
