theorem dX0_init_0 : decode cX0_init 0 = .ok (.aload_n 0, 1) := by decide +kernel
theorem dX0_init_1 : decode cX0_init 1 = .ok (.invokespecial 3, 3) := by decide +kernel
theorem dX0_init_4 : decode cX0_init 4 = .ok (.aload_n 0, 1) := by decide +kernel
theorem dX0_init_5 : decode cX0_init 5 = .ok (.sipush 128, 3) := by decide +kernel
theorem dX0_init_8 : decode cX0_init 8 = .ok (.newarray .int, 2) := by decide +kernel
theorem dX0_init_10 : decode cX0_init 10 = .ok (.putfield 9, 3) := by decide +kernel
theorem dX0_init_13 : decode cX0_init 13 = .ok (.aload_n 0, 1) := by decide +kernel
theorem dX0_init_14 : decode cX0_init 14 = .ok (.bipush 64, 2) := by decide +kernel
theorem dX0_init_16 : decode cX0_init 16 = .ok (.anewarray 15, 3) := by decide +kernel
theorem dX0_init_19 : decode cX0_init 19 = .ok (.putfield 17, 3) := by decide +kernel
theorem dX0_init_22 : decode cX0_init 22 = .ok (.aload_n 0, 1) := by decide +kernel
theorem dX0_init_23 : decode cX0_init 23 = .ok (.iconst 0, 1) := by decide +kernel
theorem dX0_init_24 : decode cX0_init 24 = .ok (.putfield 21, 3) := by decide +kernel
theorem dX0_init_27 : decode cX0_init 27 = .ok (.aload_n 0, 1) := by decide +kernel
theorem dX0_init_28 : decode cX0_init 28 = .ok (.iconst 0, 1) := by decide +kernel
theorem dX0_init_29 : decode cX0_init 29 = .ok (.putfield 25, 3) := by decide +kernel
theorem dX0_init_32 : decode cX0_init 32 = .ok (.aload_n 0, 1) := by decide +kernel
theorem dX0_init_33 : decode cX0_init 33 = .ok (.iconst 1, 1) := by decide +kernel
theorem dX0_init_34 : decode cX0_init 34 = .ok (.putfield 28, 3) := by decide +kernel
theorem dX0_init_37 : decode cX0_init 37 = .ok (.aload_n 0, 1) := by decide +kernel
theorem dX0_init_38 : decode cX0_init 38 = .ok (.getfield 9, 3) := by decide +kernel
theorem dX0_init_41 : decode cX0_init 41 = .ok (.iconst (-1), 1) := by decide +kernel
theorem dX0_init_42 : decode cX0_init 42 = .ok (.invokestatic 31, 3) := by decide +kernel
theorem dX0_init_45 : decode cX0_init 45 = .ok (.return_, 1) := by decide +kernel
theorem dX0_isLeaf_0 : decode cX0_isLeaf 0 = .ok (.aload_n 0, 1) := by decide +kernel
theorem dX0_isLeaf_1 : decode cX0_isLeaf 1 = .ok (.getfield 21, 3) := by decide +kernel
theorem dX0_isLeaf_4 : decode cX0_isLeaf 4 = .ok (.ifCond .ne 7, 3) := by decide +kernel
theorem dX0_isLeaf_7 : decode cX0_isLeaf 7 = .ok (.iconst 1, 1) := by decide +kernel
theorem dX0_isLeaf_8 : decode cX0_isLeaf 8 = .ok (.goto 4, 3) := by decide +kernel
theorem dX0_isLeaf_11 : decode cX0_isLeaf 11 = .ok (.iconst 0, 1) := by decide +kernel
theorem dX0_isLeaf_12 : decode cX0_isLeaf 12 = .ok (.ireturn, 1) := by decide +kernel
theorem dX0_netsOf_0 : decode cX0_netsOf 0 = .ok (.iload_n 1, 1) := by decide +kernel
theorem dX0_netsOf_1 : decode cX0_netsOf 1 = .ok (.iconst (-1), 1) := by decide +kernel
theorem dX0_netsOf_2 : decode cX0_netsOf 2 = .ok (.if_icmp .ne 10, 3) := by decide +kernel
theorem dX0_netsOf_5 : decode cX0_netsOf 5 = .ok (.aload_n 0, 1) := by decide +kernel
theorem dX0_netsOf_6 : decode cX0_netsOf 6 = .ok (.getfield 9, 3) := by decide +kernel
theorem dX0_netsOf_9 : decode cX0_netsOf 9 = .ok (.goto 12, 3) := by decide +kernel
theorem dX0_netsOf_12 : decode cX0_netsOf 12 = .ok (.aload_n 0, 1) := by decide +kernel
theorem dX0_netsOf_13 : decode cX0_netsOf 13 = .ok (.getfield 17, 3) := by decide +kernel
theorem dX0_netsOf_16 : decode cX0_netsOf 16 = .ok (.iload_n 1, 1) := by decide +kernel
theorem dX0_netsOf_17 : decode cX0_netsOf 17 = .ok (.aaload, 1) := by decide +kernel
theorem dX0_netsOf_18 : decode cX0_netsOf 18 = .ok (.getfield 37, 3) := by decide +kernel
theorem dX0_netsOf_21 : decode cX0_netsOf 21 = .ok (.areturn, 1) := by decide +kernel
theorem dX0_addNet_0 : decode cX0_addNet 0 = .ok (.aload_n 0, 1) := by decide +kernel
theorem dX0_addNet_1 : decode cX0_addNet 1 = .ok (.dup, 1) := by decide +kernel
theorem dX0_addNet_2 : decode cX0_addNet 2 = .ok (.getfield 25, 3) := by decide +kernel
theorem dX0_addNet_5 : decode cX0_addNet 5 = .ok (.iconst 1, 1) := by decide +kernel
theorem dX0_addNet_6 : decode cX0_addNet 6 = .ok (.iadd, 1) := by decide +kernel
theorem dX0_addNet_7 : decode cX0_addNet 7 = .ok (.putfield 25, 3) := by decide +kernel
theorem dX0_addNet_10 : decode cX0_addNet 10 = .ok (.aload_n 0, 1) := by decide +kernel
theorem dX0_addNet_11 : decode cX0_addNet 11 = .ok (.getfield 25, 3) := by decide +kernel
theorem dX0_addNet_14 : decode cX0_addNet 14 = .ok (.iconst 1, 1) := by decide +kernel
theorem dX0_addNet_15 : decode cX0_addNet 15 = .ok (.isub, 1) := by decide +kernel
theorem dX0_addNet_16 : decode cX0_addNet 16 = .ok (.ireturn, 1) := by decide +kernel
theorem dX0_addPlacement_0 : decode cX0_addPlacement 0 = .ok (.aload_n 0, 1) := by decide +kernel
theorem dX0_addPlacement_1 : decode cX0_addPlacement 1 = .ok (.getfield 17, 3) := by decide +kernel
theorem dX0_addPlacement_4 : decode cX0_addPlacement 4 = .ok (.aload_n 0, 1) := by decide +kernel
theorem dX0_addPlacement_5 : decode cX0_addPlacement 5 = .ok (.getfield 21, 3) := by decide +kernel
theorem dX0_addPlacement_8 : decode cX0_addPlacement 8 = .ok (.aload_n 1, 1) := by decide +kernel
theorem dX0_addPlacement_9 : decode cX0_addPlacement 9 = .ok (.aastore, 1) := by decide +kernel
theorem dX0_addPlacement_10 : decode cX0_addPlacement 10 = .ok (.aload_n 0, 1) := by decide +kernel
theorem dX0_addPlacement_11 : decode cX0_addPlacement 11 = .ok (.dup, 1) := by decide +kernel
theorem dX0_addPlacement_12 : decode cX0_addPlacement 12 = .ok (.getfield 21, 3) := by decide +kernel
theorem dX0_addPlacement_15 : decode cX0_addPlacement 15 = .ok (.iconst 1, 1) := by decide +kernel
theorem dX0_addPlacement_16 : decode cX0_addPlacement 16 = .ok (.iadd, 1) := by decide +kernel
theorem dX0_addPlacement_17 : decode cX0_addPlacement 17 = .ok (.putfield 21, 3) := by decide +kernel
theorem dX0_addPlacement_20 : decode cX0_addPlacement 20 = .ok (.aload_n 0, 1) := by decide +kernel
theorem dX0_addPlacement_21 : decode cX0_addPlacement 21 = .ok (.getfield 21, 3) := by decide +kernel
theorem dX0_addPlacement_24 : decode cX0_addPlacement 24 = .ok (.iconst 1, 1) := by decide +kernel
theorem dX0_addPlacement_25 : decode cX0_addPlacement 25 = .ok (.isub, 1) := by decide +kernel
theorem dX0_addPlacement_26 : decode cX0_addPlacement 26 = .ok (.ireturn, 1) := by decide +kernel
theorem dX0_twin_0 : decode cX0_twin 0 = .ok (.new 10, 3) := by decide +kernel
theorem dX0_twin_3 : decode cX0_twin 3 = .ok (.dup, 1) := by decide +kernel
theorem dX0_twin_4 : decode cX0_twin 4 = .ok (.invokespecial 40, 3) := by decide +kernel
theorem dX0_twin_7 : decode cX0_twin 7 = .ok (.astore_n 1, 1) := by decide +kernel
theorem dX0_twin_8 : decode cX0_twin 8 = .ok (.aload_n 0, 1) := by decide +kernel
theorem dX0_twin_9 : decode cX0_twin 9 = .ok (.getfield 9, 3) := by decide +kernel
theorem dX0_twin_12 : decode cX0_twin 12 = .ok (.iconst 0, 1) := by decide +kernel
theorem dX0_twin_13 : decode cX0_twin 13 = .ok (.aload_n 1, 1) := by decide +kernel
theorem dX0_twin_14 : decode cX0_twin 14 = .ok (.getfield 9, 3) := by decide +kernel
theorem dX0_twin_17 : decode cX0_twin 17 = .ok (.iconst 0, 1) := by decide +kernel
theorem dX0_twin_18 : decode cX0_twin 18 = .ok (.sipush 128, 3) := by decide +kernel
theorem dX0_twin_21 : decode cX0_twin 21 = .ok (.invokestatic 41, 3) := by decide +kernel
theorem dX0_twin_24 : decode cX0_twin 24 = .ok (.iconst 0, 1) := by decide +kernel
theorem dX0_twin_25 : decode cX0_twin 25 = .ok (.istore_n 2, 1) := by decide +kernel
theorem dX0_twin_26 : decode cX0_twin 26 = .ok (.iload_n 2, 1) := by decide +kernel
theorem dX0_twin_27 : decode cX0_twin 27 = .ok (.aload_n 0, 1) := by decide +kernel
theorem dX0_twin_28 : decode cX0_twin 28 = .ok (.getfield 21, 3) := by decide +kernel
theorem dX0_twin_31 : decode cX0_twin 31 = .ok (.if_icmp .ge 46, 3) := by decide +kernel
theorem dX0_twin_34 : decode cX0_twin 34 = .ok (.aload_n 0, 1) := by decide +kernel
theorem dX0_twin_35 : decode cX0_twin 35 = .ok (.getfield 17, 3) := by decide +kernel
theorem dX0_twin_38 : decode cX0_twin 38 = .ok (.iload_n 2, 1) := by decide +kernel
theorem dX0_twin_39 : decode cX0_twin 39 = .ok (.aaload, 1) := by decide +kernel
theorem dX0_twin_40 : decode cX0_twin 40 = .ok (.astore_n 3, 1) := by decide +kernel
theorem dX0_twin_41 : decode cX0_twin 41 = .ok (.aload_n 1, 1) := by decide +kernel
theorem dX0_twin_42 : decode cX0_twin 42 = .ok (.new 15, 3) := by decide +kernel
theorem dX0_twin_45 : decode cX0_twin 45 = .ok (.dup, 1) := by decide +kernel
theorem dX0_twin_46 : decode cX0_twin 46 = .ok (.aload_n 3, 1) := by decide +kernel
theorem dX0_twin_47 : decode cX0_twin 47 = .ok (.getfield 47, 3) := by decide +kernel
theorem dX0_twin_50 : decode cX0_twin 50 = .ok (.aload_n 3, 1) := by decide +kernel
theorem dX0_twin_51 : decode cX0_twin 51 = .ok (.getfield 51, 3) := by decide +kernel
theorem dX0_twin_54 : decode cX0_twin 54 = .ok (.aload_n 3, 1) := by decide +kernel
theorem dX0_twin_55 : decode cX0_twin 55 = .ok (.getfield 37, 3) := by decide +kernel
theorem dX0_twin_58 : decode cX0_twin 58 = .ok (.invokevirtual 54, 3) := by decide +kernel
theorem dX0_twin_61 : decode cX0_twin 61 = .ok (.checkcast 55, 3) := by decide +kernel
theorem dX0_twin_64 : decode cX0_twin 64 = .ok (.invokespecial 59, 3) := by decide +kernel
theorem dX0_twin_67 : decode cX0_twin 67 = .ok (.invokevirtual 62, 3) := by decide +kernel
theorem dX0_twin_70 : decode cX0_twin 70 = .ok (.pop, 1) := by decide +kernel
theorem dX0_twin_71 : decode cX0_twin 71 = .ok (.iinc 2 1, 3) := by decide +kernel
theorem dX0_twin_74 : decode cX0_twin 74 = .ok (.goto (-48), 3) := by decide +kernel
theorem dX0_twin_77 : decode cX0_twin 77 = .ok (.aload_n 1, 1) := by decide +kernel
theorem dX0_twin_78 : decode cX0_twin 78 = .ok (.aload_n 0, 1) := by decide +kernel
theorem dX0_twin_79 : decode cX0_twin 79 = .ok (.getfield 25, 3) := by decide +kernel
theorem dX0_twin_82 : decode cX0_twin 82 = .ok (.putfield 25, 3) := by decide +kernel
theorem dX0_twin_85 : decode cX0_twin 85 = .ok (.aload_n 1, 1) := by decide +kernel
theorem dX0_twin_86 : decode cX0_twin 86 = .ok (.areturn, 1) := by decide +kernel
theorem dX1_init_0 : decode cX1_init 0 = .ok (.aload_n 0, 1) := by decide +kernel
theorem dX1_init_1 : decode cX1_init 1 = .ok (.invokespecial 3, 3) := by decide +kernel
theorem dX1_init_4 : decode cX1_init 4 = .ok (.aload_n 0, 1) := by decide +kernel
theorem dX1_init_5 : decode cX1_init 5 = .ok (.sipush 3000, 3) := by decide +kernel
theorem dX1_init_8 : decode cX1_init 8 = .ok (.newarray .int, 2) := by decide +kernel
theorem dX1_init_10 : decode cX1_init 10 = .ok (.putfield 9, 3) := by decide +kernel
theorem dX1_init_13 : decode cX1_init 13 = .ok (.aload_n 0, 1) := by decide +kernel
theorem dX1_init_14 : decode cX1_init 14 = .ok (.bipush 24, 2) := by decide +kernel
theorem dX1_init_16 : decode cX1_init 16 = .ok (.newarray .int, 2) := by decide +kernel
theorem dX1_init_18 : decode cX1_init 18 = .ok (.putfield 15, 3) := by decide +kernel
theorem dX1_init_21 : decode cX1_init 21 = .ok (.aload_n 0, 1) := by decide +kernel
theorem dX1_init_22 : decode cX1_init 22 = .ok (.bipush 64, 2) := by decide +kernel
theorem dX1_init_24 : decode cX1_init 24 = .ok (.anewarray 18, 3) := by decide +kernel
theorem dX1_init_27 : decode cX1_init 27 = .ok (.putfield 20, 3) := by decide +kernel
theorem dX1_init_30 : decode cX1_init 30 = .ok (.aload_n 0, 1) := by decide +kernel
theorem dX1_init_31 : decode cX1_init 31 = .ok (.bipush 64, 2) := by decide +kernel
theorem dX1_init_33 : decode cX1_init 33 = .ok (.newarray .int, 2) := by decide +kernel
theorem dX1_init_35 : decode cX1_init 35 = .ok (.putfield 24, 3) := by decide +kernel
theorem dX1_init_38 : decode cX1_init 38 = .ok (.aload_n 0, 1) := by decide +kernel
theorem dX1_init_39 : decode cX1_init 39 = .ok (.bipush 64, 2) := by decide +kernel
theorem dX1_init_41 : decode cX1_init 41 = .ok (.anewarray 27, 3) := by decide +kernel
theorem dX1_init_44 : decode cX1_init 44 = .ok (.putfield 28, 3) := by decide +kernel
theorem dX1_init_47 : decode cX1_init 47 = .ok (.aload_n 0, 1) := by decide +kernel
theorem dX1_init_48 : decode cX1_init 48 = .ok (.iconst 0, 1) := by decide +kernel
theorem dX1_init_49 : decode cX1_init 49 = .ok (.putfield 32, 3) := by decide +kernel
theorem dX1_init_52 : decode cX1_init 52 = .ok (.aload_n 0, 1) := by decide +kernel
theorem dX1_init_53 : decode cX1_init 53 = .ok (.iconst 0, 1) := by decide +kernel
theorem dX1_init_54 : decode cX1_init 54 = .ok (.putfield 36, 3) := by decide +kernel
theorem dX1_init_57 : decode cX1_init 57 = .ok (.return_, 1) := by decide +kernel
theorem dX1_restart_0 : decode cX1_restart 0 = .ok (.aload_n 0, 1) := by decide +kernel
theorem dX1_restart_1 : decode cX1_restart 1 = .ok (.iconst 0, 1) := by decide +kernel
theorem dX1_restart_2 : decode cX1_restart 2 = .ok (.putfield 32, 3) := by decide +kernel
theorem dX1_restart_5 : decode cX1_restart 5 = .ok (.aload_n 0, 1) := by decide +kernel
theorem dX1_restart_6 : decode cX1_restart 6 = .ok (.iconst 0, 1) := by decide +kernel
theorem dX1_restart_7 : decode cX1_restart 7 = .ok (.putfield 36, 3) := by decide +kernel
theorem dX1_restart_10 : decode cX1_restart 10 = .ok (.return_, 1) := by decide +kernel
theorem dX1_addNets_0 : decode cX1_addNets 0 = .ok (.aload_n 0, 1) := by decide +kernel
theorem dX1_addNets_1 : decode cX1_addNets 1 = .ok (.getfield 32, 3) := by decide +kernel
theorem dX1_addNets_4 : decode cX1_addNets 4 = .ok (.istore_n 2, 1) := by decide +kernel
theorem dX1_addNets_5 : decode cX1_addNets 5 = .ok (.iconst 0, 1) := by decide +kernel
theorem dX1_addNets_6 : decode cX1_addNets 6 = .ok (.istore_n 3, 1) := by decide +kernel
theorem dX1_addNets_7 : decode cX1_addNets 7 = .ok (.iload_n 3, 1) := by decide +kernel
theorem dX1_addNets_8 : decode cX1_addNets 8 = .ok (.iload_n 1, 1) := by decide +kernel
theorem dX1_addNets_9 : decode cX1_addNets 9 = .ok (.if_icmp .ge 32, 3) := by decide +kernel
theorem dX1_addNets_12 : decode cX1_addNets 12 = .ok (.aload_n 0, 1) := by decide +kernel
theorem dX1_addNets_13 : decode cX1_addNets 13 = .ok (.getfield 9, 3) := by decide +kernel
theorem dX1_addNets_16 : decode cX1_addNets 16 = .ok (.aload_n 0, 1) := by decide +kernel
theorem dX1_addNets_17 : decode cX1_addNets 17 = .ok (.getfield 32, 3) := by decide +kernel
theorem dX1_addNets_20 : decode cX1_addNets 20 = .ok (.aload_n 0, 1) := by decide +kernel
theorem dX1_addNets_21 : decode cX1_addNets 21 = .ok (.getfield 32, 3) := by decide +kernel
theorem dX1_addNets_24 : decode cX1_addNets 24 = .ok (.iastore, 1) := by decide +kernel
theorem dX1_addNets_25 : decode cX1_addNets 25 = .ok (.aload_n 0, 1) := by decide +kernel
theorem dX1_addNets_26 : decode cX1_addNets 26 = .ok (.dup, 1) := by decide +kernel
theorem dX1_addNets_27 : decode cX1_addNets 27 = .ok (.getfield 32, 3) := by decide +kernel
theorem dX1_addNets_30 : decode cX1_addNets 30 = .ok (.iconst 1, 1) := by decide +kernel
theorem dX1_addNets_31 : decode cX1_addNets 31 = .ok (.iadd, 1) := by decide +kernel
theorem dX1_addNets_32 : decode cX1_addNets 32 = .ok (.putfield 32, 3) := by decide +kernel
theorem dX1_addNets_35 : decode cX1_addNets 35 = .ok (.iinc 3 1, 3) := by decide +kernel
theorem dX1_addNets_38 : decode cX1_addNets 38 = .ok (.goto (-31), 3) := by decide +kernel
theorem dX1_addNets_41 : decode cX1_addNets 41 = .ok (.iload_n 2, 1) := by decide +kernel
theorem dX1_addNets_42 : decode cX1_addNets 42 = .ok (.ireturn, 1) := by decide +kernel
theorem dX1_addLeaf_0 : decode cX1_addLeaf 0 = .ok (.aload_n 0, 1) := by decide +kernel
theorem dX1_addLeaf_1 : decode cX1_addLeaf 1 = .ok (.getfield 20, 3) := by decide +kernel
theorem dX1_addLeaf_4 : decode cX1_addLeaf 4 = .ok (.aload_n 0, 1) := by decide +kernel
theorem dX1_addLeaf_5 : decode cX1_addLeaf 5 = .ok (.getfield 36, 3) := by decide +kernel
theorem dX1_addLeaf_8 : decode cX1_addLeaf 8 = .ok (.aload_n 1, 1) := by decide +kernel
theorem dX1_addLeaf_9 : decode cX1_addLeaf 9 = .ok (.aastore, 1) := by decide +kernel
theorem dX1_addLeaf_10 : decode cX1_addLeaf 10 = .ok (.aload_n 0, 1) := by decide +kernel
theorem dX1_addLeaf_11 : decode cX1_addLeaf 11 = .ok (.getfield 24, 3) := by decide +kernel
theorem dX1_addLeaf_14 : decode cX1_addLeaf 14 = .ok (.aload_n 0, 1) := by decide +kernel
theorem dX1_addLeaf_15 : decode cX1_addLeaf 15 = .ok (.getfield 36, 3) := by decide +kernel
theorem dX1_addLeaf_18 : decode cX1_addLeaf 18 = .ok (.iload_n 2, 1) := by decide +kernel
theorem dX1_addLeaf_19 : decode cX1_addLeaf 19 = .ok (.iastore, 1) := by decide +kernel
theorem dX1_addLeaf_20 : decode cX1_addLeaf 20 = .ok (.aload_n 0, 1) := by decide +kernel
theorem dX1_addLeaf_21 : decode cX1_addLeaf 21 = .ok (.getfield 28, 3) := by decide +kernel
theorem dX1_addLeaf_24 : decode cX1_addLeaf 24 = .ok (.aload_n 0, 1) := by decide +kernel
theorem dX1_addLeaf_25 : decode cX1_addLeaf 25 = .ok (.getfield 36, 3) := by decide +kernel
theorem dX1_addLeaf_28 : decode cX1_addLeaf 28 = .ok (.aload_n 0, 1) := by decide +kernel
theorem dX1_addLeaf_29 : decode cX1_addLeaf 29 = .ok (.getfield 15, 3) := by decide +kernel
theorem dX1_addLeaf_32 : decode cX1_addLeaf 32 = .ok (.iload_n 3, 1) := by decide +kernel
theorem dX1_addLeaf_33 : decode cX1_addLeaf 33 = .ok (.invokestatic 39, 3) := by decide +kernel
theorem dX1_addLeaf_36 : decode cX1_addLeaf 36 = .ok (.aastore, 1) := by decide +kernel
theorem dX1_addLeaf_37 : decode cX1_addLeaf 37 = .ok (.aload_n 0, 1) := by decide +kernel
theorem dX1_addLeaf_38 : decode cX1_addLeaf 38 = .ok (.dup, 1) := by decide +kernel
theorem dX1_addLeaf_39 : decode cX1_addLeaf 39 = .ok (.getfield 36, 3) := by decide +kernel
theorem dX1_addLeaf_42 : decode cX1_addLeaf 42 = .ok (.iconst 1, 1) := by decide +kernel
theorem dX1_addLeaf_43 : decode cX1_addLeaf 43 = .ok (.iadd, 1) := by decide +kernel
theorem dX1_addLeaf_44 : decode cX1_addLeaf 44 = .ok (.putfield 36, 3) := by decide +kernel
theorem dX1_addLeaf_47 : decode cX1_addLeaf 47 = .ok (.return_, 1) := by decide +kernel
theorem dX1_uniteOver_0 : decode cX1_uniteOver 0 = .ok (.aload_n 1, 1) := by decide +kernel
theorem dX1_uniteOver_1 : decode cX1_uniteOver 1 = .ok (.getfield 45, 3) := by decide +kernel
theorem dX1_uniteOver_4 : decode cX1_uniteOver 4 = .ok (.getfield 49, 3) := by decide +kernel
theorem dX1_uniteOver_7 : decode cX1_uniteOver 7 = .ok (.getfield 55, 3) := by decide +kernel
theorem dX1_uniteOver_10 : decode cX1_uniteOver 10 = .ok (.astore 4, 2) := by decide +kernel
theorem dX1_uniteOver_12 : decode cX1_uniteOver 12 = .ok (.iconst 0, 1) := by decide +kernel
theorem dX1_uniteOver_13 : decode cX1_uniteOver 13 = .ok (.istore 5, 2) := by decide +kernel
theorem dX1_uniteOver_15 : decode cX1_uniteOver 15 = .ok (.iload 5, 2) := by decide +kernel
theorem dX1_uniteOver_17 : decode cX1_uniteOver 17 = .ok (.aload_n 1, 1) := by decide +kernel
theorem dX1_uniteOver_18 : decode cX1_uniteOver 18 = .ok (.getfield 60, 3) := by decide +kernel
theorem dX1_uniteOver_21 : decode cX1_uniteOver 21 = .ok (.arraylength, 1) := by decide +kernel
theorem dX1_uniteOver_22 : decode cX1_uniteOver 22 = .ok (.if_icmp .ge 49, 3) := by decide +kernel
theorem dX1_uniteOver_25 : decode cX1_uniteOver 25 = .ok (.aload_n 1, 1) := by decide +kernel
theorem dX1_uniteOver_26 : decode cX1_uniteOver 26 = .ok (.getfield 60, 3) := by decide +kernel
theorem dX1_uniteOver_29 : decode cX1_uniteOver 29 = .ok (.iload 5, 2) := by decide +kernel
theorem dX1_uniteOver_31 : decode cX1_uniteOver 31 = .ok (.iaload, 1) := by decide +kernel
theorem dX1_uniteOver_32 : decode cX1_uniteOver 32 = .ok (.iconst (-1), 1) := by decide +kernel
theorem dX1_uniteOver_33 : decode cX1_uniteOver 33 = .ok (.if_icmp .eq 32, 3) := by decide +kernel
theorem dX1_uniteOver_36 : decode cX1_uniteOver 36 = .ok (.aload 4, 2) := by decide +kernel
theorem dX1_uniteOver_38 : decode cX1_uniteOver 38 = .ok (.iload 5, 2) := by decide +kernel
theorem dX1_uniteOver_40 : decode cX1_uniteOver 40 = .ok (.iaload, 1) := by decide +kernel
theorem dX1_uniteOver_41 : decode cX1_uniteOver 41 = .ok (.iconst (-1), 1) := by decide +kernel
theorem dX1_uniteOver_42 : decode cX1_uniteOver 42 = .ok (.if_icmp .eq 23, 3) := by decide +kernel
theorem dX1_uniteOver_45 : decode cX1_uniteOver 45 = .ok (.aload_n 0, 1) := by decide +kernel
theorem dX1_uniteOver_46 : decode cX1_uniteOver 46 = .ok (.iload_n 2, 1) := by decide +kernel
theorem dX1_uniteOver_47 : decode cX1_uniteOver 47 = .ok (.aload_n 1, 1) := by decide +kernel
theorem dX1_uniteOver_48 : decode cX1_uniteOver 48 = .ok (.getfield 60, 3) := by decide +kernel
theorem dX1_uniteOver_51 : decode cX1_uniteOver 51 = .ok (.iload 5, 2) := by decide +kernel
theorem dX1_uniteOver_53 : decode cX1_uniteOver 53 = .ok (.iaload, 1) := by decide +kernel
theorem dX1_uniteOver_54 : decode cX1_uniteOver 54 = .ok (.iadd, 1) := by decide +kernel
theorem dX1_uniteOver_55 : decode cX1_uniteOver 55 = .ok (.iload_n 3, 1) := by decide +kernel
theorem dX1_uniteOver_56 : decode cX1_uniteOver 56 = .ok (.aload 4, 2) := by decide +kernel
theorem dX1_uniteOver_58 : decode cX1_uniteOver 58 = .ok (.iload 5, 2) := by decide +kernel
theorem dX1_uniteOver_60 : decode cX1_uniteOver 60 = .ok (.iaload, 1) := by decide +kernel
theorem dX1_uniteOver_61 : decode cX1_uniteOver 61 = .ok (.iadd, 1) := by decide +kernel
theorem dX1_uniteOver_62 : decode cX1_uniteOver 62 = .ok (.invokevirtual 61, 3) := by decide +kernel
theorem dX1_uniteOver_65 : decode cX1_uniteOver 65 = .ok (.iinc 5 1, 3) := by decide +kernel
theorem dX1_uniteOver_68 : decode cX1_uniteOver 68 = .ok (.goto (-53), 3) := by decide +kernel
theorem dX1_uniteOver_71 : decode cX1_uniteOver 71 = .ok (.return_, 1) := by decide +kernel
theorem dX1_unite_0 : decode cX1_unite 0 = .ok (.aload_n 0, 1) := by decide +kernel
theorem dX1_unite_1 : decode cX1_unite 1 = .ok (.iload_n 1, 1) := by decide +kernel
theorem dX1_unite_2 : decode cX1_unite 2 = .ok (.invokevirtual 65, 3) := by decide +kernel
theorem dX1_unite_5 : decode cX1_unite 5 = .ok (.istore_n 3, 1) := by decide +kernel
theorem dX1_unite_6 : decode cX1_unite 6 = .ok (.aload_n 0, 1) := by decide +kernel
theorem dX1_unite_7 : decode cX1_unite 7 = .ok (.iload_n 2, 1) := by decide +kernel
theorem dX1_unite_8 : decode cX1_unite 8 = .ok (.invokevirtual 65, 3) := by decide +kernel
theorem dX1_unite_11 : decode cX1_unite 11 = .ok (.istore 4, 2) := by decide +kernel
theorem dX1_unite_13 : decode cX1_unite 13 = .ok (.aload_n 0, 1) := by decide +kernel
theorem dX1_unite_14 : decode cX1_unite 14 = .ok (.getfield 9, 3) := by decide +kernel
theorem dX1_unite_17 : decode cX1_unite 17 = .ok (.iload_n 3, 1) := by decide +kernel
theorem dX1_unite_18 : decode cX1_unite 18 = .ok (.iload 4, 2) := by decide +kernel
theorem dX1_unite_20 : decode cX1_unite 20 = .ok (.invokestatic 69, 3) := by decide +kernel
theorem dX1_unite_23 : decode cX1_unite 23 = .ok (.iload_n 3, 1) := by decide +kernel
theorem dX1_unite_24 : decode cX1_unite 24 = .ok (.iload 4, 2) := by decide +kernel
theorem dX1_unite_26 : decode cX1_unite 26 = .ok (.invokestatic 75, 3) := by decide +kernel
theorem dX1_unite_29 : decode cX1_unite 29 = .ok (.iastore, 1) := by decide +kernel
theorem dX1_unite_30 : decode cX1_unite 30 = .ok (.return_, 1) := by decide +kernel
theorem dX1_firstOf_0 : decode cX1_firstOf 0 = .ok (.iload_n 1, 1) := by decide +kernel
theorem dX1_firstOf_1 : decode cX1_firstOf 1 = .ok (.istore_n 2, 1) := by decide +kernel
theorem dX1_firstOf_2 : decode cX1_firstOf 2 = .ok (.iconst 0, 1) := by decide +kernel
theorem dX1_firstOf_3 : decode cX1_firstOf 3 = .ok (.istore_n 3, 1) := by decide +kernel
theorem dX1_firstOf_4 : decode cX1_firstOf 4 = .ok (.iload_n 3, 1) := by decide +kernel
theorem dX1_firstOf_5 : decode cX1_firstOf 5 = .ok (.sipush 3000, 3) := by decide +kernel
theorem dX1_firstOf_8 : decode cX1_firstOf 8 = .ok (.if_icmp .ge 43, 3) := by decide +kernel
theorem dX1_firstOf_11 : decode cX1_firstOf 11 = .ok (.aload_n 0, 1) := by decide +kernel
theorem dX1_firstOf_12 : decode cX1_firstOf 12 = .ok (.getfield 9, 3) := by decide +kernel
theorem dX1_firstOf_15 : decode cX1_firstOf 15 = .ok (.iload_n 2, 1) := by decide +kernel
theorem dX1_firstOf_16 : decode cX1_firstOf 16 = .ok (.iaload, 1) := by decide +kernel
theorem dX1_firstOf_17 : decode cX1_firstOf 17 = .ok (.iload_n 2, 1) := by decide +kernel
theorem dX1_firstOf_18 : decode cX1_firstOf 18 = .ok (.if_icmp .eq 33, 3) := by decide +kernel
theorem dX1_firstOf_21 : decode cX1_firstOf 21 = .ok (.aload_n 0, 1) := by decide +kernel
theorem dX1_firstOf_22 : decode cX1_firstOf 22 = .ok (.getfield 9, 3) := by decide +kernel
theorem dX1_firstOf_25 : decode cX1_firstOf 25 = .ok (.iload_n 2, 1) := by decide +kernel
theorem dX1_firstOf_26 : decode cX1_firstOf 26 = .ok (.aload_n 0, 1) := by decide +kernel
theorem dX1_firstOf_27 : decode cX1_firstOf 27 = .ok (.getfield 9, 3) := by decide +kernel
theorem dX1_firstOf_30 : decode cX1_firstOf 30 = .ok (.aload_n 0, 1) := by decide +kernel
theorem dX1_firstOf_31 : decode cX1_firstOf 31 = .ok (.getfield 9, 3) := by decide +kernel
theorem dX1_firstOf_34 : decode cX1_firstOf 34 = .ok (.iload_n 2, 1) := by decide +kernel
theorem dX1_firstOf_35 : decode cX1_firstOf 35 = .ok (.iaload, 1) := by decide +kernel
theorem dX1_firstOf_36 : decode cX1_firstOf 36 = .ok (.iaload, 1) := by decide +kernel
theorem dX1_firstOf_37 : decode cX1_firstOf 37 = .ok (.iastore, 1) := by decide +kernel
theorem dX1_firstOf_38 : decode cX1_firstOf 38 = .ok (.aload_n 0, 1) := by decide +kernel
theorem dX1_firstOf_39 : decode cX1_firstOf 39 = .ok (.getfield 9, 3) := by decide +kernel
theorem dX1_firstOf_42 : decode cX1_firstOf 42 = .ok (.iload_n 2, 1) := by decide +kernel
theorem dX1_firstOf_43 : decode cX1_firstOf 43 = .ok (.iaload, 1) := by decide +kernel
theorem dX1_firstOf_44 : decode cX1_firstOf 44 = .ok (.istore_n 2, 1) := by decide +kernel
theorem dX1_firstOf_45 : decode cX1_firstOf 45 = .ok (.iinc 3 1, 3) := by decide +kernel
theorem dX1_firstOf_48 : decode cX1_firstOf 48 = .ok (.goto (-44), 3) := by decide +kernel
theorem dX1_firstOf_51 : decode cX1_firstOf 51 = .ok (.iload_n 2, 1) := by decide +kernel
theorem dX1_firstOf_52 : decode cX1_firstOf 52 = .ok (.ireturn, 1) := by decide +kernel
theorem dX1_numberNets_0 : decode cX1_numberNets 0 = .ok (.iconst 0, 1) := by decide +kernel
theorem dX1_numberNets_1 : decode cX1_numberNets 1 = .ok (.istore_n 1, 1) := by decide +kernel
theorem dX1_numberNets_2 : decode cX1_numberNets 2 = .ok (.iconst 0, 1) := by decide +kernel
theorem dX1_numberNets_3 : decode cX1_numberNets 3 = .ok (.istore_n 2, 1) := by decide +kernel
theorem dX1_numberNets_4 : decode cX1_numberNets 4 = .ok (.iload_n 2, 1) := by decide +kernel
theorem dX1_numberNets_5 : decode cX1_numberNets 5 = .ok (.aload_n 0, 1) := by decide +kernel
theorem dX1_numberNets_6 : decode cX1_numberNets 6 = .ok (.getfield 32, 3) := by decide +kernel
theorem dX1_numberNets_9 : decode cX1_numberNets 9 = .ok (.if_icmp .ge 46, 3) := by decide +kernel
theorem dX1_numberNets_12 : decode cX1_numberNets 12 = .ok (.aload_n 0, 1) := by decide +kernel
theorem dX1_numberNets_13 : decode cX1_numberNets 13 = .ok (.getfield 9, 3) := by decide +kernel
theorem dX1_numberNets_16 : decode cX1_numberNets 16 = .ok (.iload_n 2, 1) := by decide +kernel
theorem dX1_numberNets_17 : decode cX1_numberNets 17 = .ok (.iaload, 1) := by decide +kernel
theorem dX1_numberNets_18 : decode cX1_numberNets 18 = .ok (.istore_n 3, 1) := by decide +kernel
theorem dX1_numberNets_19 : decode cX1_numberNets 19 = .ok (.iload_n 3, 1) := by decide +kernel
theorem dX1_numberNets_20 : decode cX1_numberNets 20 = .ok (.iload_n 2, 1) := by decide +kernel
theorem dX1_numberNets_21 : decode cX1_numberNets 21 = .ok (.if_icmp .ne 16, 3) := by decide +kernel
theorem dX1_numberNets_24 : decode cX1_numberNets 24 = .ok (.aload_n 0, 1) := by decide +kernel
theorem dX1_numberNets_25 : decode cX1_numberNets 25 = .ok (.getfield 9, 3) := by decide +kernel
theorem dX1_numberNets_28 : decode cX1_numberNets 28 = .ok (.iload_n 2, 1) := by decide +kernel
theorem dX1_numberNets_29 : decode cX1_numberNets 29 = .ok (.iload_n 1, 1) := by decide +kernel
theorem dX1_numberNets_30 : decode cX1_numberNets 30 = .ok (.iastore, 1) := by decide +kernel
theorem dX1_numberNets_31 : decode cX1_numberNets 31 = .ok (.iinc 1 1, 3) := by decide +kernel
theorem dX1_numberNets_34 : decode cX1_numberNets 34 = .ok (.goto 15, 3) := by decide +kernel
theorem dX1_numberNets_37 : decode cX1_numberNets 37 = .ok (.aload_n 0, 1) := by decide +kernel
theorem dX1_numberNets_38 : decode cX1_numberNets 38 = .ok (.getfield 9, 3) := by decide +kernel
theorem dX1_numberNets_41 : decode cX1_numberNets 41 = .ok (.iload_n 2, 1) := by decide +kernel
theorem dX1_numberNets_42 : decode cX1_numberNets 42 = .ok (.aload_n 0, 1) := by decide +kernel
theorem dX1_numberNets_43 : decode cX1_numberNets 43 = .ok (.getfield 9, 3) := by decide +kernel
theorem dX1_numberNets_46 : decode cX1_numberNets 46 = .ok (.iload_n 3, 1) := by decide +kernel
theorem dX1_numberNets_47 : decode cX1_numberNets 47 = .ok (.iaload, 1) := by decide +kernel
theorem dX1_numberNets_48 : decode cX1_numberNets 48 = .ok (.iastore, 1) := by decide +kernel
theorem dX1_numberNets_49 : decode cX1_numberNets 49 = .ok (.iinc 2 1, 3) := by decide +kernel
theorem dX1_numberNets_52 : decode cX1_numberNets 52 = .ok (.goto (-48), 3) := by decide +kernel
theorem dX1_numberNets_55 : decode cX1_numberNets 55 = .ok (.iload_n 1, 1) := by decide +kernel
theorem dX1_numberNets_56 : decode cX1_numberNets 56 = .ok (.ireturn, 1) := by decide +kernel
theorem dX1_insideFor_0 : decode cX1_insideFor 0 = .ok (.new 56, 3) := by decide +kernel
theorem dX1_insideFor_3 : decode cX1_insideFor 3 = .ok (.dup, 1) := by decide +kernel
theorem dX1_insideFor_4 : decode cX1_insideFor 4 = .ok (.invokespecial 78, 3) := by decide +kernel
theorem dX1_insideFor_7 : decode cX1_insideFor 7 = .ok (.astore_n 3, 1) := by decide +kernel
theorem dX1_insideFor_8 : decode cX1_insideFor 8 = .ok (.aload_n 3, 1) := by decide +kernel
theorem dX1_insideFor_9 : decode cX1_insideFor 9 = .ok (.iload_n 2, 1) := by decide +kernel
theorem dX1_insideFor_10 : decode cX1_insideFor 10 = .ok (.putfield 79, 3) := by decide +kernel
theorem dX1_insideFor_13 : decode cX1_insideFor 13 = .ok (.aload_n 0, 1) := by decide +kernel
theorem dX1_insideFor_14 : decode cX1_insideFor 14 = .ok (.aload_n 1, 1) := by decide +kernel
theorem dX1_insideFor_15 : decode cX1_insideFor 15 = .ok (.getfield 49, 3) := by decide +kernel
theorem dX1_insideFor_18 : decode cX1_insideFor 18 = .ok (.getfield 55, 3) := by decide +kernel
theorem dX1_insideFor_21 : decode cX1_insideFor 21 = .ok (.iconst 0, 1) := by decide +kernel
theorem dX1_insideFor_22 : decode cX1_insideFor 22 = .ok (.aload_n 3, 1) := by decide +kernel
theorem dX1_insideFor_23 : decode cX1_insideFor 23 = .ok (.getfield 55, 3) := by decide +kernel
theorem dX1_insideFor_26 : decode cX1_insideFor 26 = .ok (.invokevirtual 80, 3) := by decide +kernel
theorem dX1_insideFor_29 : decode cX1_insideFor 29 = .ok (.iconst 0, 1) := by decide +kernel
theorem dX1_insideFor_30 : decode cX1_insideFor 30 = .ok (.istore 4, 2) := by decide +kernel
theorem dX1_insideFor_32 : decode cX1_insideFor 32 = .ok (.iload 4, 2) := by decide +kernel
theorem dX1_insideFor_34 : decode cX1_insideFor 34 = .ok (.aload_n 0, 1) := by decide +kernel
theorem dX1_insideFor_35 : decode cX1_insideFor 35 = .ok (.getfield 36, 3) := by decide +kernel
theorem dX1_insideFor_38 : decode cX1_insideFor 38 = .ok (.if_icmp .ge 78, 3) := by decide +kernel
theorem dX1_insideFor_41 : decode cX1_insideFor 41 = .ok (.aload_n 0, 1) := by decide +kernel
theorem dX1_insideFor_42 : decode cX1_insideFor 42 = .ok (.getfield 20, 3) := by decide +kernel
theorem dX1_insideFor_45 : decode cX1_insideFor 45 = .ok (.iload 4, 2) := by decide +kernel
theorem dX1_insideFor_47 : decode cX1_insideFor 47 = .ok (.aaload, 1) := by decide +kernel
theorem dX1_insideFor_48 : decode cX1_insideFor 48 = .ok (.getfield 60, 3) := by decide +kernel
theorem dX1_insideFor_51 : decode cX1_insideFor 51 = .ok (.arraylength, 1) := by decide +kernel
theorem dX1_insideFor_52 : decode cX1_insideFor 52 = .ok (.newarray .int, 2) := by decide +kernel
theorem dX1_insideFor_54 : decode cX1_insideFor 54 = .ok (.astore 5, 2) := by decide +kernel
theorem dX1_insideFor_56 : decode cX1_insideFor 56 = .ok (.aload_n 0, 1) := by decide +kernel
theorem dX1_insideFor_57 : decode cX1_insideFor 57 = .ok (.aload_n 0, 1) := by decide +kernel
theorem dX1_insideFor_58 : decode cX1_insideFor 58 = .ok (.getfield 20, 3) := by decide +kernel
theorem dX1_insideFor_61 : decode cX1_insideFor 61 = .ok (.iload 4, 2) := by decide +kernel
theorem dX1_insideFor_63 : decode cX1_insideFor 63 = .ok (.aaload, 1) := by decide +kernel
theorem dX1_insideFor_64 : decode cX1_insideFor 64 = .ok (.getfield 60, 3) := by decide +kernel
theorem dX1_insideFor_67 : decode cX1_insideFor 67 = .ok (.aload_n 0, 1) := by decide +kernel
theorem dX1_insideFor_68 : decode cX1_insideFor 68 = .ok (.getfield 24, 3) := by decide +kernel
theorem dX1_insideFor_71 : decode cX1_insideFor 71 = .ok (.iload 4, 2) := by decide +kernel
theorem dX1_insideFor_73 : decode cX1_insideFor 73 = .ok (.iaload, 1) := by decide +kernel
theorem dX1_insideFor_74 : decode cX1_insideFor 74 = .ok (.aload 5, 2) := by decide +kernel
theorem dX1_insideFor_76 : decode cX1_insideFor 76 = .ok (.invokevirtual 80, 3) := by decide +kernel
theorem dX1_insideFor_79 : decode cX1_insideFor 79 = .ok (.aload_n 3, 1) := by decide +kernel
theorem dX1_insideFor_80 : decode cX1_insideFor 80 = .ok (.new 18, 3) := by decide +kernel
theorem dX1_insideFor_83 : decode cX1_insideFor 83 = .ok (.dup, 1) := by decide +kernel
theorem dX1_insideFor_84 : decode cX1_insideFor 84 = .ok (.aload_n 0, 1) := by decide +kernel
theorem dX1_insideFor_85 : decode cX1_insideFor 85 = .ok (.getfield 20, 3) := by decide +kernel
theorem dX1_insideFor_88 : decode cX1_insideFor 88 = .ok (.iload 4, 2) := by decide +kernel
theorem dX1_insideFor_90 : decode cX1_insideFor 90 = .ok (.aaload, 1) := by decide +kernel
theorem dX1_insideFor_91 : decode cX1_insideFor 91 = .ok (.getfield 45, 3) := by decide +kernel
theorem dX1_insideFor_94 : decode cX1_insideFor 94 = .ok (.aload_n 0, 1) := by decide +kernel
theorem dX1_insideFor_95 : decode cX1_insideFor 95 = .ok (.getfield 28, 3) := by decide +kernel
theorem dX1_insideFor_98 : decode cX1_insideFor 98 = .ok (.iload 4, 2) := by decide +kernel
theorem dX1_insideFor_100 : decode cX1_insideFor 100 = .ok (.aaload, 1) := by decide +kernel
theorem dX1_insideFor_101 : decode cX1_insideFor 101 = .ok (.aload 5, 2) := by decide +kernel
theorem dX1_insideFor_103 : decode cX1_insideFor 103 = .ok (.invokespecial 84, 3) := by decide +kernel
theorem dX1_insideFor_106 : decode cX1_insideFor 106 = .ok (.invokevirtual 87, 3) := by decide +kernel
theorem dX1_insideFor_109 : decode cX1_insideFor 109 = .ok (.pop, 1) := by decide +kernel
theorem dX1_insideFor_110 : decode cX1_insideFor 110 = .ok (.iinc 4 1, 3) := by decide +kernel
theorem dX1_insideFor_113 : decode cX1_insideFor 113 = .ok (.goto (-81), 3) := by decide +kernel
theorem dX1_insideFor_116 : decode cX1_insideFor 116 = .ok (.aload_n 3, 1) := by decide +kernel
theorem dX1_insideFor_117 : decode cX1_insideFor 117 = .ok (.areturn, 1) := by decide +kernel
theorem dX1_renumber_0 : decode cX1_renumber 0 = .ok (.iconst 0, 1) := by decide +kernel
theorem dX1_renumber_1 : decode cX1_renumber 1 = .ok (.istore 4, 2) := by decide +kernel
theorem dX1_renumber_3 : decode cX1_renumber 3 = .ok (.iload 4, 2) := by decide +kernel
theorem dX1_renumber_5 : decode cX1_renumber 5 = .ok (.aload_n 1, 1) := by decide +kernel
theorem dX1_renumber_6 : decode cX1_renumber 6 = .ok (.arraylength, 1) := by decide +kernel
theorem dX1_renumber_7 : decode cX1_renumber 7 = .ok (.if_icmp .ge 36, 3) := by decide +kernel
theorem dX1_renumber_10 : decode cX1_renumber 10 = .ok (.aload_n 3, 1) := by decide +kernel
theorem dX1_renumber_11 : decode cX1_renumber 11 = .ok (.iload 4, 2) := by decide +kernel
theorem dX1_renumber_13 : decode cX1_renumber 13 = .ok (.aload_n 1, 1) := by decide +kernel
theorem dX1_renumber_14 : decode cX1_renumber 14 = .ok (.iload 4, 2) := by decide +kernel
theorem dX1_renumber_16 : decode cX1_renumber 16 = .ok (.iaload, 1) := by decide +kernel
theorem dX1_renumber_17 : decode cX1_renumber 17 = .ok (.iconst (-1), 1) := by decide +kernel
theorem dX1_renumber_18 : decode cX1_renumber 18 = .ok (.if_icmp .ne 7, 3) := by decide +kernel
theorem dX1_renumber_21 : decode cX1_renumber 21 = .ok (.iconst (-1), 1) := by decide +kernel
theorem dX1_renumber_22 : decode cX1_renumber 22 = .ok (.goto 14, 3) := by decide +kernel
theorem dX1_renumber_25 : decode cX1_renumber 25 = .ok (.aload_n 0, 1) := by decide +kernel
theorem dX1_renumber_26 : decode cX1_renumber 26 = .ok (.getfield 9, 3) := by decide +kernel
theorem dX1_renumber_29 : decode cX1_renumber 29 = .ok (.iload_n 2, 1) := by decide +kernel
theorem dX1_renumber_30 : decode cX1_renumber 30 = .ok (.aload_n 1, 1) := by decide +kernel
theorem dX1_renumber_31 : decode cX1_renumber 31 = .ok (.iload 4, 2) := by decide +kernel
theorem dX1_renumber_33 : decode cX1_renumber 33 = .ok (.iaload, 1) := by decide +kernel
theorem dX1_renumber_34 : decode cX1_renumber 34 = .ok (.iadd, 1) := by decide +kernel
theorem dX1_renumber_35 : decode cX1_renumber 35 = .ok (.iaload, 1) := by decide +kernel
theorem dX1_renumber_36 : decode cX1_renumber 36 = .ok (.iastore, 1) := by decide +kernel
theorem dX1_renumber_37 : decode cX1_renumber 37 = .ok (.iinc 4 1, 3) := by decide +kernel
theorem dX1_renumber_40 : decode cX1_renumber 40 = .ok (.goto (-37), 3) := by decide +kernel
theorem dX1_renumber_43 : decode cX1_renumber 43 = .ok (.return_, 1) := by decide +kernel
theorem dX2_init_0 : decode cX2_init 0 = .ok (.aload_n 0, 1) := by decide +kernel
theorem dX2_init_1 : decode cX2_init 1 = .ok (.invokespecial 3, 3) := by decide +kernel
theorem dX2_init_4 : decode cX2_init 4 = .ok (.aload_n 0, 1) := by decide +kernel
theorem dX2_init_5 : decode cX2_init 5 = .ok (.bipush 24, 2) := by decide +kernel
theorem dX2_init_7 : decode cX2_init 7 = .ok (.anewarray 9, 3) := by decide +kernel
theorem dX2_init_10 : decode cX2_init 10 = .ok (.putfield 11, 3) := by decide +kernel
theorem dX2_init_13 : decode cX2_init 13 = .ok (.aload_n 0, 1) := by decide +kernel
theorem dX2_init_14 : decode cX2_init 14 = .ok (.bipush 24, 2) := by decide +kernel
theorem dX2_init_16 : decode cX2_init 16 = .ok (.newarray .boolean, 2) := by decide +kernel
theorem dX2_init_18 : decode cX2_init 18 = .ok (.putfield 17, 3) := by decide +kernel
theorem dX2_init_21 : decode cX2_init 21 = .ok (.aload_n 0, 1) := by decide +kernel
theorem dX2_init_22 : decode cX2_init 22 = .ok (.iconst 0, 1) := by decide +kernel
theorem dX2_init_23 : decode cX2_init 23 = .ok (.putfield 21, 3) := by decide +kernel
theorem dX2_init_26 : decode cX2_init 26 = .ok (.return_, 1) := by decide +kernel
theorem dX2_restart_0 : decode cX2_restart 0 = .ok (.aload_n 0, 1) := by decide +kernel
theorem dX2_restart_1 : decode cX2_restart 1 = .ok (.iconst 0, 1) := by decide +kernel
theorem dX2_restart_2 : decode cX2_restart 2 = .ok (.putfield 21, 3) := by decide +kernel
theorem dX2_restart_5 : decode cX2_restart 5 = .ok (.iconst 0, 1) := by decide +kernel
theorem dX2_restart_6 : decode cX2_restart 6 = .ok (.istore_n 1, 1) := by decide +kernel
theorem dX2_restart_7 : decode cX2_restart 7 = .ok (.iload_n 1, 1) := by decide +kernel
theorem dX2_restart_8 : decode cX2_restart 8 = .ok (.bipush 24, 2) := by decide +kernel
theorem dX2_restart_10 : decode cX2_restart 10 = .ok (.if_icmp .ge 16, 3) := by decide +kernel
theorem dX2_restart_13 : decode cX2_restart 13 = .ok (.aload_n 0, 1) := by decide +kernel
theorem dX2_restart_14 : decode cX2_restart 14 = .ok (.getfield 17, 3) := by decide +kernel
theorem dX2_restart_17 : decode cX2_restart 17 = .ok (.iload_n 1, 1) := by decide +kernel
theorem dX2_restart_18 : decode cX2_restart 18 = .ok (.iconst 0, 1) := by decide +kernel
theorem dX2_restart_19 : decode cX2_restart 19 = .ok (.bastore, 1) := by decide +kernel
theorem dX2_restart_20 : decode cX2_restart 20 = .ok (.iinc 1 1, 3) := by decide +kernel
theorem dX2_restart_23 : decode cX2_restart 23 = .ok (.goto (-16), 3) := by decide +kernel
theorem dX2_restart_26 : decode cX2_restart 26 = .ok (.return_, 1) := by decide +kernel
theorem dX2_add_0 : decode cX2_add 0 = .ok (.aload_n 0, 1) := by decide +kernel
theorem dX2_add_1 : decode cX2_add 1 = .ok (.getfield 11, 3) := by decide +kernel
theorem dX2_add_4 : decode cX2_add 4 = .ok (.aload_n 0, 1) := by decide +kernel
theorem dX2_add_5 : decode cX2_add 5 = .ok (.getfield 21, 3) := by decide +kernel
theorem dX2_add_8 : decode cX2_add 8 = .ok (.aload_n 1, 1) := by decide +kernel
theorem dX2_add_9 : decode cX2_add 9 = .ok (.aastore, 1) := by decide +kernel
theorem dX2_add_10 : decode cX2_add 10 = .ok (.aload_n 0, 1) := by decide +kernel
theorem dX2_add_11 : decode cX2_add 11 = .ok (.dup, 1) := by decide +kernel
theorem dX2_add_12 : decode cX2_add 12 = .ok (.getfield 21, 3) := by decide +kernel
theorem dX2_add_15 : decode cX2_add 15 = .ok (.iconst 1, 1) := by decide +kernel
theorem dX2_add_16 : decode cX2_add 16 = .ok (.iadd, 1) := by decide +kernel
theorem dX2_add_17 : decode cX2_add 17 = .ok (.putfield 21, 3) := by decide +kernel
theorem dX2_add_20 : decode cX2_add 20 = .ok (.return_, 1) := by decide +kernel
theorem dX3_init_0 : decode cX3_init 0 = .ok (.aload_n 0, 1) := by decide +kernel
theorem dX3_init_1 : decode cX3_init 1 = .ok (.invokespecial 1, 3) := by decide +kernel
theorem dX3_init_4 : decode cX3_init 4 = .ok (.aload_n 0, 1) := by decide +kernel
theorem dX3_init_5 : decode cX3_init 5 = .ok (.aload_n 1, 1) := by decide +kernel
theorem dX3_init_6 : decode cX3_init 6 = .ok (.putfield 7, 3) := by decide +kernel
theorem dX3_init_9 : decode cX3_init 9 = .ok (.aload_n 0, 1) := by decide +kernel
theorem dX3_init_10 : decode cX3_init 10 = .ok (.aload_n 2, 1) := by decide +kernel
theorem dX3_init_11 : decode cX3_init 11 = .ok (.putfield 13, 3) := by decide +kernel
theorem dX3_init_14 : decode cX3_init 14 = .ok (.aload_n 0, 1) := by decide +kernel
theorem dX3_init_15 : decode cX3_init 15 = .ok (.aload_n 3, 1) := by decide +kernel
theorem dX3_init_16 : decode cX3_init 16 = .ok (.putfield 17, 3) := by decide +kernel
theorem dX3_init_19 : decode cX3_init 19 = .ok (.return_, 1) := by decide +kernel
theorem dX4_init_0 : decode cX4_init 0 = .ok (.aload_n 0, 1) := by decide +kernel
theorem dX4_init_1 : decode cX4_init 1 = .ok (.invokespecial 3, 3) := by decide +kernel
theorem dX4_init_4 : decode cX4_init 4 = .ok (.aload_n 0, 1) := by decide +kernel
theorem dX4_init_5 : decode cX4_init 5 = .ok (.bipush 16, 2) := by decide +kernel
theorem dX4_init_7 : decode cX4_init 7 = .ok (.newarray .int, 2) := by decide +kernel
theorem dX4_init_9 : decode cX4_init 9 = .ok (.putfield 9, 3) := by decide +kernel
theorem dX4_init_12 : decode cX4_init 12 = .ok (.aload_n 0, 1) := by decide +kernel
theorem dX4_init_13 : decode cX4_init 13 = .ok (.sipush 128, 3) := by decide +kernel
theorem dX4_init_16 : decode cX4_init 16 = .ok (.newarray .boolean, 2) := by decide +kernel
theorem dX4_init_18 : decode cX4_init 18 = .ok (.putfield 15, 3) := by decide +kernel
theorem dX4_init_21 : decode cX4_init 21 = .ok (.aload_n 0, 1) := by decide +kernel
theorem dX4_init_22 : decode cX4_init 22 = .ok (.iconst 0, 1) := by decide +kernel
theorem dX4_init_23 : decode cX4_init 23 = .ok (.putfield 19, 3) := by decide +kernel
theorem dX4_init_26 : decode cX4_init 26 = .ok (.aload_n 0, 1) := by decide +kernel
theorem dX4_init_27 : decode cX4_init 27 = .ok (.iconst 0, 1) := by decide +kernel
theorem dX4_init_28 : decode cX4_init 28 = .ok (.putfield 23, 3) := by decide +kernel
theorem dX4_init_31 : decode cX4_init 31 = .ok (.aload_n 0, 1) := by decide +kernel
theorem dX4_init_32 : decode cX4_init 32 = .ok (.iconst 0, 1) := by decide +kernel
theorem dX4_init_33 : decode cX4_init 33 = .ok (.putfield 26, 3) := by decide +kernel
theorem dX4_init_36 : decode cX4_init 36 = .ok (.aload_n 0, 1) := by decide +kernel
theorem dX4_init_37 : decode cX4_init 37 = .ok (.iload_n 1, 1) := by decide +kernel
theorem dX4_init_38 : decode cX4_init 38 = .ok (.putfield 30, 3) := by decide +kernel
theorem dX4_init_41 : decode cX4_init 41 = .ok (.aload_n 0, 1) := by decide +kernel
theorem dX4_init_42 : decode cX4_init 42 = .ok (.aload_n 2, 1) := by decide +kernel
theorem dX4_init_43 : decode cX4_init 43 = .ok (.putfield 33, 3) := by decide +kernel
theorem dX4_init_46 : decode cX4_init 46 = .ok (.return_, 1) := by decide +kernel
theorem dX4_addPort_0 : decode cX4_addPort 0 = .ok (.iconst 0, 1) := by decide +kernel
theorem dX4_addPort_1 : decode cX4_addPort 1 = .ok (.istore_n 3, 1) := by decide +kernel
theorem dX4_addPort_2 : decode cX4_addPort 2 = .ok (.iload_n 3, 1) := by decide +kernel
theorem dX4_addPort_3 : decode cX4_addPort 3 = .ok (.iload_n 1, 1) := by decide +kernel
theorem dX4_addPort_4 : decode cX4_addPort 4 = .ok (.if_icmp .ge 21, 3) := by decide +kernel
theorem dX4_addPort_7 : decode cX4_addPort 7 = .ok (.aload_n 0, 1) := by decide +kernel
theorem dX4_addPort_8 : decode cX4_addPort 8 = .ok (.getfield 15, 3) := by decide +kernel
theorem dX4_addPort_11 : decode cX4_addPort 11 = .ok (.aload_n 0, 1) := by decide +kernel
theorem dX4_addPort_12 : decode cX4_addPort 12 = .ok (.getfield 23, 3) := by decide +kernel
theorem dX4_addPort_15 : decode cX4_addPort 15 = .ok (.iload_n 3, 1) := by decide +kernel
theorem dX4_addPort_16 : decode cX4_addPort 16 = .ok (.iadd, 1) := by decide +kernel
theorem dX4_addPort_17 : decode cX4_addPort 17 = .ok (.iload_n 2, 1) := by decide +kernel
theorem dX4_addPort_18 : decode cX4_addPort 18 = .ok (.bastore, 1) := by decide +kernel
theorem dX4_addPort_19 : decode cX4_addPort 19 = .ok (.iinc 3 1, 3) := by decide +kernel
theorem dX4_addPort_22 : decode cX4_addPort 22 = .ok (.goto (-20), 3) := by decide +kernel
theorem dX4_addPort_25 : decode cX4_addPort 25 = .ok (.aload_n 0, 1) := by decide +kernel
theorem dX4_addPort_26 : decode cX4_addPort 26 = .ok (.getfield 9, 3) := by decide +kernel
theorem dX4_addPort_29 : decode cX4_addPort 29 = .ok (.aload_n 0, 1) := by decide +kernel
theorem dX4_addPort_30 : decode cX4_addPort 30 = .ok (.getfield 19, 3) := by decide +kernel
theorem dX4_addPort_33 : decode cX4_addPort 33 = .ok (.iload_n 1, 1) := by decide +kernel
theorem dX4_addPort_34 : decode cX4_addPort 34 = .ok (.iastore, 1) := by decide +kernel
theorem dX4_addPort_35 : decode cX4_addPort 35 = .ok (.aload_n 0, 1) := by decide +kernel
theorem dX4_addPort_36 : decode cX4_addPort 36 = .ok (.dup, 1) := by decide +kernel
theorem dX4_addPort_37 : decode cX4_addPort 37 = .ok (.getfield 23, 3) := by decide +kernel
theorem dX4_addPort_40 : decode cX4_addPort 40 = .ok (.iload_n 1, 1) := by decide +kernel
theorem dX4_addPort_41 : decode cX4_addPort 41 = .ok (.iadd, 1) := by decide +kernel
theorem dX4_addPort_42 : decode cX4_addPort 42 = .ok (.putfield 23, 3) := by decide +kernel
theorem dX4_addPort_45 : decode cX4_addPort 45 = .ok (.aload_n 0, 1) := by decide +kernel
theorem dX4_addPort_46 : decode cX4_addPort 46 = .ok (.dup, 1) := by decide +kernel
theorem dX4_addPort_47 : decode cX4_addPort 47 = .ok (.getfield 19, 3) := by decide +kernel
theorem dX4_addPort_50 : decode cX4_addPort 50 = .ok (.iconst 1, 1) := by decide +kernel
theorem dX4_addPort_51 : decode cX4_addPort 51 = .ok (.iadd, 1) := by decide +kernel
theorem dX4_addPort_52 : decode cX4_addPort 52 = .ok (.putfield 19, 3) := by decide +kernel
theorem dX4_addPort_55 : decode cX4_addPort 55 = .ok (.aload_n 0, 1) := by decide +kernel
theorem dX4_addPort_56 : decode cX4_addPort 56 = .ok (.getfield 19, 3) := by decide +kernel
theorem dX4_addPort_59 : decode cX4_addPort 59 = .ok (.iconst 1, 1) := by decide +kernel
theorem dX4_addPort_60 : decode cX4_addPort 60 = .ok (.isub, 1) := by decide +kernel
theorem dX4_addPort_61 : decode cX4_addPort 61 = .ok (.ireturn, 1) := by decide +kernel
theorem dX4_takePorts_0 : decode cX4_takePorts 0 = .ok (.aload_n 1, 1) := by decide +kernel
theorem dX4_takePorts_1 : decode cX4_takePorts 1 = .ok (.getfield 9, 3) := by decide +kernel
theorem dX4_takePorts_4 : decode cX4_takePorts 4 = .ok (.iconst 0, 1) := by decide +kernel
theorem dX4_takePorts_5 : decode cX4_takePorts 5 = .ok (.aload_n 0, 1) := by decide +kernel
theorem dX4_takePorts_6 : decode cX4_takePorts 6 = .ok (.getfield 9, 3) := by decide +kernel
theorem dX4_takePorts_9 : decode cX4_takePorts 9 = .ok (.iconst 0, 1) := by decide +kernel
theorem dX4_takePorts_10 : decode cX4_takePorts 10 = .ok (.bipush 16, 2) := by decide +kernel
theorem dX4_takePorts_12 : decode cX4_takePorts 12 = .ok (.invokestatic 37, 3) := by decide +kernel
theorem dX4_takePorts_15 : decode cX4_takePorts 15 = .ok (.aload_n 1, 1) := by decide +kernel
theorem dX4_takePorts_16 : decode cX4_takePorts 16 = .ok (.getfield 15, 3) := by decide +kernel
theorem dX4_takePorts_19 : decode cX4_takePorts 19 = .ok (.iconst 0, 1) := by decide +kernel
theorem dX4_takePorts_20 : decode cX4_takePorts 20 = .ok (.aload_n 0, 1) := by decide +kernel
theorem dX4_takePorts_21 : decode cX4_takePorts 21 = .ok (.getfield 15, 3) := by decide +kernel
theorem dX4_takePorts_24 : decode cX4_takePorts 24 = .ok (.iconst 0, 1) := by decide +kernel
theorem dX4_takePorts_25 : decode cX4_takePorts 25 = .ok (.sipush 128, 3) := by decide +kernel
theorem dX4_takePorts_28 : decode cX4_takePorts 28 = .ok (.invokestatic 37, 3) := by decide +kernel
theorem dX4_takePorts_31 : decode cX4_takePorts 31 = .ok (.aload_n 0, 1) := by decide +kernel
theorem dX4_takePorts_32 : decode cX4_takePorts 32 = .ok (.aload_n 1, 1) := by decide +kernel
theorem dX4_takePorts_33 : decode cX4_takePorts 33 = .ok (.getfield 19, 3) := by decide +kernel
theorem dX4_takePorts_36 : decode cX4_takePorts 36 = .ok (.putfield 19, 3) := by decide +kernel
theorem dX4_takePorts_39 : decode cX4_takePorts 39 = .ok (.aload_n 0, 1) := by decide +kernel
theorem dX4_takePorts_40 : decode cX4_takePorts 40 = .ok (.aload_n 1, 1) := by decide +kernel
theorem dX4_takePorts_41 : decode cX4_takePorts 41 = .ok (.getfield 23, 3) := by decide +kernel
theorem dX4_takePorts_44 : decode cX4_takePorts 44 = .ok (.putfield 23, 3) := by decide +kernel
theorem dX4_takePorts_47 : decode cX4_takePorts 47 = .ok (.return_, 1) := by decide +kernel
theorem dX4_hasPortsOf_0 : decode cX4_hasPortsOf 0 = .ok (.aload_n 0, 1) := by decide +kernel
theorem dX4_hasPortsOf_1 : decode cX4_hasPortsOf 1 = .ok (.getfield 19, 3) := by decide +kernel
theorem dX4_hasPortsOf_4 : decode cX4_hasPortsOf 4 = .ok (.aload_n 1, 1) := by decide +kernel
theorem dX4_hasPortsOf_5 : decode cX4_hasPortsOf 5 = .ok (.getfield 19, 3) := by decide +kernel
theorem dX4_hasPortsOf_8 : decode cX4_hasPortsOf 8 = .ok (.if_icmp .ne 17, 3) := by decide +kernel
theorem dX4_hasPortsOf_11 : decode cX4_hasPortsOf 11 = .ok (.aload_n 0, 1) := by decide +kernel
theorem dX4_hasPortsOf_12 : decode cX4_hasPortsOf 12 = .ok (.getfield 9, 3) := by decide +kernel
theorem dX4_hasPortsOf_15 : decode cX4_hasPortsOf 15 = .ok (.aload_n 1, 1) := by decide +kernel
theorem dX4_hasPortsOf_16 : decode cX4_hasPortsOf 16 = .ok (.getfield 9, 3) := by decide +kernel
theorem dX4_hasPortsOf_19 : decode cX4_hasPortsOf 19 = .ok (.invokestatic 43, 3) := by decide +kernel
theorem dX4_hasPortsOf_22 : decode cX4_hasPortsOf 22 = .ok (.ifCond .ne 5, 3) := by decide +kernel
theorem dX4_hasPortsOf_25 : decode cX4_hasPortsOf 25 = .ok (.iconst 0, 1) := by decide +kernel
theorem dX4_hasPortsOf_26 : decode cX4_hasPortsOf 26 = .ok (.ireturn, 1) := by decide +kernel
theorem dX4_hasPortsOf_27 : decode cX4_hasPortsOf 27 = .ok (.iconst 0, 1) := by decide +kernel
theorem dX4_hasPortsOf_28 : decode cX4_hasPortsOf 28 = .ok (.istore_n 2, 1) := by decide +kernel
theorem dX4_hasPortsOf_29 : decode cX4_hasPortsOf 29 = .ok (.iload_n 2, 1) := by decide +kernel
theorem dX4_hasPortsOf_30 : decode cX4_hasPortsOf 30 = .ok (.aload_n 0, 1) := by decide +kernel
theorem dX4_hasPortsOf_31 : decode cX4_hasPortsOf 31 = .ok (.getfield 23, 3) := by decide +kernel
theorem dX4_hasPortsOf_34 : decode cX4_hasPortsOf 34 = .ok (.if_icmp .ge 26, 3) := by decide +kernel
theorem dX4_hasPortsOf_37 : decode cX4_hasPortsOf 37 = .ok (.aload_n 0, 1) := by decide +kernel
theorem dX4_hasPortsOf_38 : decode cX4_hasPortsOf 38 = .ok (.getfield 15, 3) := by decide +kernel
theorem dX4_hasPortsOf_41 : decode cX4_hasPortsOf 41 = .ok (.iload_n 2, 1) := by decide +kernel
theorem dX4_hasPortsOf_42 : decode cX4_hasPortsOf 42 = .ok (.baload, 1) := by decide +kernel
theorem dX4_hasPortsOf_43 : decode cX4_hasPortsOf 43 = .ok (.aload_n 1, 1) := by decide +kernel
theorem dX4_hasPortsOf_44 : decode cX4_hasPortsOf 44 = .ok (.getfield 15, 3) := by decide +kernel
theorem dX4_hasPortsOf_47 : decode cX4_hasPortsOf 47 = .ok (.iload_n 2, 1) := by decide +kernel
theorem dX4_hasPortsOf_48 : decode cX4_hasPortsOf 48 = .ok (.baload, 1) := by decide +kernel
theorem dX4_hasPortsOf_49 : decode cX4_hasPortsOf 49 = .ok (.if_icmp .eq 5, 3) := by decide +kernel
theorem dX4_hasPortsOf_52 : decode cX4_hasPortsOf 52 = .ok (.iconst 0, 1) := by decide +kernel
theorem dX4_hasPortsOf_53 : decode cX4_hasPortsOf 53 = .ok (.ireturn, 1) := by decide +kernel
theorem dX4_hasPortsOf_54 : decode cX4_hasPortsOf 54 = .ok (.iinc 2 1, 3) := by decide +kernel
theorem dX4_hasPortsOf_57 : decode cX4_hasPortsOf 57 = .ok (.goto (-28), 3) := by decide +kernel
theorem dX4_hasPortsOf_60 : decode cX4_hasPortsOf 60 = .ok (.iconst 1, 1) := by decide +kernel
theorem dX4_hasPortsOf_61 : decode cX4_hasPortsOf 61 = .ok (.ireturn, 1) := by decide +kernel
theorem dX5_init_0 : decode cX5_init 0 = .ok (.aload_n 0, 1) := by decide +kernel
theorem dX5_init_1 : decode cX5_init 1 = .ok (.invokespecial 3, 3) := by decide +kernel
theorem dX5_init_4 : decode cX5_init 4 = .ok (.aload_n 0, 1) := by decide +kernel
theorem dX5_init_5 : decode cX5_init 5 = .ok (.bipush 24, 2) := by decide +kernel
theorem dX5_init_7 : decode cX5_init 7 = .ok (.anewarray 9, 3) := by decide +kernel
theorem dX5_init_10 : decode cX5_init 10 = .ok (.putfield 11, 3) := by decide +kernel
theorem dX5_init_13 : decode cX5_init 13 = .ok (.aload_n 0, 1) := by decide +kernel
theorem dX5_init_14 : decode cX5_init 14 = .ok (.iconst 0, 1) := by decide +kernel
theorem dX5_init_15 : decode cX5_init 15 = .ok (.putfield 15, 3) := by decide +kernel
theorem dX5_init_18 : decode cX5_init 18 = .ok (.aload_n 0, 1) := by decide +kernel
theorem dX5_init_19 : decode cX5_init 19 = .ok (.new 19, 3) := by decide +kernel
theorem dX5_init_22 : decode cX5_init 22 = .ok (.dup, 1) := by decide +kernel
theorem dX5_init_23 : decode cX5_init 23 = .ok (.invokespecial 21, 3) := by decide +kernel
theorem dX5_init_26 : decode cX5_init 26 = .ok (.putfield 22, 3) := by decide +kernel
theorem dX5_init_29 : decode cX5_init 29 = .ok (.aload_n 0, 1) := by decide +kernel
theorem dX5_init_30 : decode cX5_init 30 = .ok (.new 26, 3) := by decide +kernel
theorem dX5_init_33 : decode cX5_init 33 = .ok (.dup, 1) := by decide +kernel
theorem dX5_init_34 : decode cX5_init 34 = .ok (.invokespecial 28, 3) := by decide +kernel
theorem dX5_init_37 : decode cX5_init 37 = .ok (.putfield 29, 3) := by decide +kernel
theorem dX5_init_40 : decode cX5_init 40 = .ok (.aload_n 0, 1) := by decide +kernel
theorem dX5_init_41 : decode cX5_init 41 = .ok (.bipush 24, 2) := by decide +kernel
theorem dX5_init_43 : decode cX5_init 43 = .ok (.newarray .int, 2) := by decide +kernel
theorem dX5_init_45 : decode cX5_init 45 = .ok (.putfield 33, 3) := by decide +kernel
theorem dX5_init_48 : decode cX5_init 48 = .ok (.aload_n 0, 1) := by decide +kernel
theorem dX5_init_49 : decode cX5_init 49 = .ok (.sipush 128, 3) := by decide +kernel
theorem dX5_init_52 : decode cX5_init 52 = .ok (.newarray .int, 2) := by decide +kernel
theorem dX5_init_54 : decode cX5_init 54 = .ok (.putfield 37, 3) := by decide +kernel
theorem dX5_init_57 : decode cX5_init 57 = .ok (.aload_n 0, 1) := by decide +kernel
theorem dX5_init_58 : decode cX5_init 58 = .ok (.sipush 128, 3) := by decide +kernel
theorem dX5_init_61 : decode cX5_init 61 = .ok (.newarray .int, 2) := by decide +kernel
theorem dX5_init_63 : decode cX5_init 63 = .ok (.putfield 40, 3) := by decide +kernel
theorem dX5_init_66 : decode cX5_init 66 = .ok (.return_, 1) := by decide +kernel
theorem dX5_module_0 : decode cX5_module 0 = .ok (.aload_n 0, 1) := by decide +kernel
theorem dX5_module_1 : decode cX5_module 1 = .ok (.invokevirtual 43, 3) := by decide +kernel
theorem dX5_module_4 : decode cX5_module 4 = .ok (.aload_n 0, 1) := by decide +kernel
theorem dX5_module_5 : decode cX5_module 5 = .ok (.new 46, 3) := by decide +kernel
theorem dX5_module_8 : decode cX5_module 8 = .ok (.dup, 1) := by decide +kernel
theorem dX5_module_9 : decode cX5_module 9 = .ok (.invokespecial 48, 3) := by decide +kernel
theorem dX5_module_12 : decode cX5_module 12 = .ok (.invokevirtual 49, 3) := by decide +kernel
theorem dX5_module_15 : decode cX5_module 15 = .ok (.getfield 53, 3) := by decide +kernel
theorem dX5_module_18 : decode cX5_module 18 = .ok (.ireturn, 1) := by decide +kernel
theorem dX5_port_0 : decode cX5_port 0 = .ok (.aload_n 0, 1) := by decide +kernel
theorem dX5_port_1 : decode cX5_port 1 = .ok (.iload_n 1, 1) := by decide +kernel
theorem dX5_port_2 : decode cX5_port 2 = .ok (.invokevirtual 56, 3) := by decide +kernel
theorem dX5_port_5 : decode cX5_port 5 = .ok (.astore 4, 2) := by decide +kernel
theorem dX5_port_7 : decode cX5_port 7 = .ok (.aload 4, 2) := by decide +kernel
theorem dX5_port_9 : decode cX5_port 9 = .ok (.getfield 60, 3) := by decide +kernel
theorem dX5_port_12 : decode cX5_port 12 = .ok (.bipush 16, 2) := by decide +kernel
theorem dX5_port_14 : decode cX5_port 14 = .ok (.if_icmp .eq 11, 3) := by decide +kernel
theorem dX5_port_17 : decode cX5_port 17 = .ok (.aload 4, 2) := by decide +kernel
theorem dX5_port_19 : decode cX5_port 19 = .ok (.getfield 63, 3) := by decide +kernel
theorem dX5_port_22 : decode cX5_port 22 = .ok (.ifCond .eq 11, 3) := by decide +kernel
theorem dX5_port_25 : decode cX5_port 25 = .ok (.new 67, 3) := by decide +kernel
theorem dX5_port_28 : decode cX5_port 28 = .ok (.dup, 1) := by decide +kernel
theorem dX5_port_29 : decode cX5_port 29 = .ok (.invokespecial 69, 3) := by decide +kernel
theorem dX5_port_32 : decode cX5_port 32 = .ok (.athrow, 1) := by decide +kernel
theorem dX5_port_33 : decode cX5_port 33 = .ok (.iload_n 2, 1) := by decide +kernel
theorem dX5_port_34 : decode cX5_port 34 = .ok (.iconst 1, 1) := by decide +kernel
theorem dX5_port_35 : decode cX5_port 35 = .ok (.if_icmp .lt 9, 3) := by decide +kernel
theorem dX5_port_38 : decode cX5_port 38 = .ok (.iload_n 2, 1) := by decide +kernel
theorem dX5_port_39 : decode cX5_port 39 = .ok (.bipush 8, 2) := by decide +kernel
theorem dX5_port_41 : decode cX5_port 41 = .ok (.if_icmp .le 11, 3) := by decide +kernel
theorem dX5_port_44 : decode cX5_port 44 = .ok (.new 70, 3) := by decide +kernel
theorem dX5_port_47 : decode cX5_port 47 = .ok (.dup, 1) := by decide +kernel
theorem dX5_port_48 : decode cX5_port 48 = .ok (.invokespecial 72, 3) := by decide +kernel
theorem dX5_port_51 : decode cX5_port 51 = .ok (.athrow, 1) := by decide +kernel
theorem dX5_port_52 : decode cX5_port 52 = .ok (.aload 4, 2) := by decide +kernel
theorem dX5_port_54 : decode cX5_port 54 = .ok (.iload_n 2, 1) := by decide +kernel
theorem dX5_port_55 : decode cX5_port 55 = .ok (.iload_n 3, 1) := by decide +kernel
theorem dX5_port_56 : decode cX5_port 56 = .ok (.invokevirtual 73, 3) := by decide +kernel
theorem dX5_port_59 : decode cX5_port 59 = .ok (.ireturn, 1) := by decide +kernel
theorem dX5_instance_0 : decode cX5_instance 0 = .ok (.aload_n 0, 1) := by decide +kernel
theorem dX5_instance_1 : decode cX5_instance 1 = .ok (.iload_n 1, 1) := by decide +kernel
theorem dX5_instance_2 : decode cX5_instance 2 = .ok (.invokevirtual 56, 3) := by decide +kernel
theorem dX5_instance_5 : decode cX5_instance 5 = .ok (.astore_n 3, 1) := by decide +kernel
theorem dX5_instance_6 : decode cX5_instance 6 = .ok (.aload_n 0, 1) := by decide +kernel
theorem dX5_instance_7 : decode cX5_instance 7 = .ok (.iload_n 2, 1) := by decide +kernel
theorem dX5_instance_8 : decode cX5_instance 8 = .ok (.invokevirtual 56, 3) := by decide +kernel
theorem dX5_instance_11 : decode cX5_instance 11 = .ok (.astore 4, 2) := by decide +kernel
theorem dX5_instance_13 : decode cX5_instance 13 = .ok (.aload_n 3, 1) := by decide +kernel
theorem dX5_instance_14 : decode cX5_instance 14 = .ok (.getfield 77, 3) := by decide +kernel
theorem dX5_instance_17 : decode cX5_instance 17 = .ok (.getfield 81, 3) := by decide +kernel
theorem dX5_instance_20 : decode cX5_instance 20 = .ok (.bipush 64, 2) := by decide +kernel
theorem dX5_instance_22 : decode cX5_instance 22 = .ok (.if_icmp .ne 11, 3) := by decide +kernel
theorem dX5_instance_25 : decode cX5_instance 25 = .ok (.new 67, 3) := by decide +kernel
theorem dX5_instance_28 : decode cX5_instance 28 = .ok (.dup, 1) := by decide +kernel
theorem dX5_instance_29 : decode cX5_instance 29 = .ok (.invokespecial 69, 3) := by decide +kernel
theorem dX5_instance_32 : decode cX5_instance 32 = .ok (.athrow, 1) := by decide +kernel
theorem dX5_instance_33 : decode cX5_instance 33 = .ok (.aload_n 0, 1) := by decide +kernel
theorem dX5_instance_34 : decode cX5_instance 34 = .ok (.aload_n 3, 1) := by decide +kernel
theorem dX5_instance_35 : decode cX5_instance 35 = .ok (.aload 4, 2) := by decide +kernel
theorem dX5_instance_37 : decode cX5_instance 37 = .ok (.invokevirtual 84, 3) := by decide +kernel
theorem dX5_instance_40 : decode cX5_instance 40 = .ok (.ifCond .eq 5, 3) := by decide +kernel
theorem dX5_instance_43 : decode cX5_instance 43 = .ok (.iconst (-1), 1) := by decide +kernel
theorem dX5_instance_44 : decode cX5_instance 44 = .ok (.ireturn, 1) := by decide +kernel
theorem dX5_instance_45 : decode cX5_instance 45 = .ok (.aload_n 3, 1) := by decide +kernel
theorem dX5_instance_46 : decode cX5_instance 46 = .ok (.invokestatic 88, 3) := by decide +kernel
theorem dX5_instance_49 : decode cX5_instance 49 = .ok (.astore 5, 2) := by decide +kernel
theorem dX5_instance_51 : decode cX5_instance 51 = .ok (.iconst 1, 1) := by decide +kernel
theorem dX5_instance_52 : decode cX5_instance 52 = .ok (.newarray .int, 2) := by decide +kernel
theorem dX5_instance_54 : decode cX5_instance 54 = .ok (.dup, 1) := by decide +kernel
theorem dX5_instance_55 : decode cX5_instance 55 = .ok (.iconst 0, 1) := by decide +kernel
theorem dX5_instance_56 : decode cX5_instance 56 = .ok (.aload 5, 2) := by decide +kernel
theorem dX5_instance_58 : decode cX5_instance 58 = .ok (.getfield 81, 3) := by decide +kernel
theorem dX5_instance_61 : decode cX5_instance 61 = .ok (.iastore, 1) := by decide +kernel
theorem dX5_instance_62 : decode cX5_instance 62 = .ok (.astore 6, 2) := by decide +kernel
theorem dX5_instance_64 : decode cX5_instance 64 = .ok (.aload 4, 2) := by decide +kernel
theorem dX5_instance_66 : decode cX5_instance 66 = .ok (.getfield 92, 3) := by decide +kernel
theorem dX5_instance_69 : decode cX5_instance 69 = .ok (.newarray .int, 2) := by decide +kernel
theorem dX5_instance_71 : decode cX5_instance 71 = .ok (.astore 7, 2) := by decide +kernel
theorem dX5_instance_73 : decode cX5_instance 73 = .ok (.aload 7, 2) := by decide +kernel
theorem dX5_instance_75 : decode cX5_instance 75 = .ok (.iconst (-1), 1) := by decide +kernel
theorem dX5_instance_76 : decode cX5_instance 76 = .ok (.invokestatic 95, 3) := by decide +kernel
theorem dX5_instance_79 : decode cX5_instance 79 = .ok (.aload 4, 2) := by decide +kernel
theorem dX5_instance_81 : decode cX5_instance 81 = .ok (.iconst 1, 1) := by decide +kernel
theorem dX5_instance_82 : decode cX5_instance 82 = .ok (.putfield 63, 3) := by decide +kernel
theorem dX5_instance_85 : decode cX5_instance 85 = .ok (.aload 5, 2) := by decide +kernel
theorem dX5_instance_87 : decode cX5_instance 87 = .ok (.new 101, 3) := by decide +kernel
theorem dX5_instance_90 : decode cX5_instance 90 = .ok (.dup, 1) := by decide +kernel
theorem dX5_instance_91 : decode cX5_instance 91 = .ok (.aload 4, 2) := by decide +kernel
theorem dX5_instance_93 : decode cX5_instance 93 = .ok (.aload 6, 2) := by decide +kernel
theorem dX5_instance_95 : decode cX5_instance 95 = .ok (.aload 7, 2) := by decide +kernel
theorem dX5_instance_97 : decode cX5_instance 97 = .ok (.invokespecial 103, 3) := by decide +kernel
theorem dX5_instance_100 : decode cX5_instance 100 = .ok (.invokevirtual 106, 3) := by decide +kernel
theorem dX5_instance_103 : decode cX5_instance 103 = .ok (.ireturn, 1) := by decide +kernel
theorem dX5_net_0 : decode cX5_net 0 = .ok (.aload_n 0, 1) := by decide +kernel
theorem dX5_net_1 : decode cX5_net 1 = .ok (.iload_n 1, 1) := by decide +kernel
theorem dX5_net_2 : decode cX5_net 2 = .ok (.invokevirtual 56, 3) := by decide +kernel
theorem dX5_net_5 : decode cX5_net 5 = .ok (.astore_n 2, 1) := by decide +kernel
theorem dX5_net_6 : decode cX5_net 6 = .ok (.aload_n 2, 1) := by decide +kernel
theorem dX5_net_7 : decode cX5_net 7 = .ok (.getfield 77, 3) := by decide +kernel
theorem dX5_net_10 : decode cX5_net 10 = .ok (.getfield 110, 3) := by decide +kernel
theorem dX5_net_13 : decode cX5_net 13 = .ok (.sipush 128, 3) := by decide +kernel
theorem dX5_net_16 : decode cX5_net 16 = .ok (.if_icmp .ne 11, 3) := by decide +kernel
theorem dX5_net_19 : decode cX5_net 19 = .ok (.new 67, 3) := by decide +kernel
theorem dX5_net_22 : decode cX5_net 22 = .ok (.dup, 1) := by decide +kernel
theorem dX5_net_23 : decode cX5_net 23 = .ok (.invokespecial 69, 3) := by decide +kernel
theorem dX5_net_26 : decode cX5_net 26 = .ok (.athrow, 1) := by decide +kernel
theorem dX5_net_27 : decode cX5_net 27 = .ok (.aload_n 2, 1) := by decide +kernel
theorem dX5_net_28 : decode cX5_net 28 = .ok (.invokestatic 88, 3) := by decide +kernel
theorem dX5_net_31 : decode cX5_net 31 = .ok (.invokevirtual 113, 3) := by decide +kernel
theorem dX5_net_34 : decode cX5_net 34 = .ok (.ireturn, 1) := by decide +kernel
theorem dX5_join_0 : decode cX5_join 0 = .ok (.aload_n 0, 1) := by decide +kernel
theorem dX5_join_1 : decode cX5_join 1 = .ok (.iload_n 1, 1) := by decide +kernel
theorem dX5_join_2 : decode cX5_join 2 = .ok (.invokevirtual 56, 3) := by decide +kernel
theorem dX5_join_5 : decode cX5_join 5 = .ok (.astore 5, 2) := by decide +kernel
theorem dX5_join_7 : decode cX5_join 7 = .ok (.aload 5, 2) := by decide +kernel
theorem dX5_join_9 : decode cX5_join 9 = .ok (.iload_n 2, 1) := by decide +kernel
theorem dX5_join_10 : decode cX5_join 10 = .ok (.invokestatic 117, 3) := by decide +kernel
theorem dX5_join_13 : decode cX5_join 13 = .ok (.iload_n 2, 1) := by decide +kernel
theorem dX5_join_14 : decode cX5_join 14 = .ok (.aload 5, 2) := by decide +kernel
theorem dX5_join_16 : decode cX5_join 16 = .ok (.iload_n 3, 1) := by decide +kernel
theorem dX5_join_17 : decode cX5_join 17 = .ok (.iload 4, 2) := by decide +kernel
theorem dX5_join_19 : decode cX5_join 19 = .ok (.invokestatic 121, 3) := by decide +kernel
theorem dX5_join_22 : decode cX5_join 22 = .ok (.ireturn, 1) := by decide +kernel
theorem dX5_part_0 : decode cX5_part 0 = .ok (.iconst (-1), 1) := by decide +kernel
theorem dX5_part_1 : decode cX5_part 1 = .ok (.aload_n 0, 1) := by decide +kernel
theorem dX5_part_2 : decode cX5_part 2 = .ok (.iload_n 1, 1) := by decide +kernel
theorem dX5_part_3 : decode cX5_part 3 = .ok (.invokevirtual 56, 3) := by decide +kernel
theorem dX5_part_6 : decode cX5_part 6 = .ok (.iload_n 2, 1) := by decide +kernel
theorem dX5_part_7 : decode cX5_part 7 = .ok (.iload_n 3, 1) := by decide +kernel
theorem dX5_part_8 : decode cX5_part 8 = .ok (.invokestatic 121, 3) := by decide +kernel
theorem dX5_part_11 : decode cX5_part 11 = .ok (.ireturn, 1) := by decide +kernel
theorem dX5_netOf_0 : decode cX5_netOf 0 = .ok (.aload_n 0, 1) := by decide +kernel
theorem dX5_netOf_1 : decode cX5_netOf 1 = .ok (.iload_n 1, 1) := by decide +kernel
theorem dX5_netOf_2 : decode cX5_netOf 2 = .ok (.invokevirtual 56, 3) := by decide +kernel
theorem dX5_netOf_5 : decode cX5_netOf 5 = .ok (.iload_n 2, 1) := by decide +kernel
theorem dX5_netOf_6 : decode cX5_netOf 6 = .ok (.iload_n 3, 1) := by decide +kernel
theorem dX5_netOf_7 : decode cX5_netOf 7 = .ok (.invokestatic 125, 3) := by decide +kernel
theorem dX5_netOf_10 : decode cX5_netOf 10 = .ok (.ireturn, 1) := by decide +kernel
theorem dX5_pins_0 : decode cX5_pins 0 = .ok (.aload_n 0, 1) := by decide +kernel
theorem dX5_pins_1 : decode cX5_pins 1 = .ok (.iload_n 1, 1) := by decide +kernel
theorem dX5_pins_2 : decode cX5_pins 2 = .ok (.invokevirtual 56, 3) := by decide +kernel
theorem dX5_pins_5 : decode cX5_pins 5 = .ok (.astore_n 3, 1) := by decide +kernel
theorem dX5_pins_6 : decode cX5_pins 6 = .ok (.aload_n 3, 1) := by decide +kernel
theorem dX5_pins_7 : decode cX5_pins 7 = .ok (.iload_n 2, 1) := by decide +kernel
theorem dX5_pins_8 : decode cX5_pins 8 = .ok (.invokestatic 117, 3) := by decide +kernel
theorem dX5_pins_11 : decode cX5_pins 11 = .ok (.iconst 0, 1) := by decide +kernel
theorem dX5_pins_12 : decode cX5_pins 12 = .ok (.istore 4, 2) := by decide +kernel
theorem dX5_pins_14 : decode cX5_pins 14 = .ok (.iconst (-1), 1) := by decide +kernel
theorem dX5_pins_15 : decode cX5_pins 15 = .ok (.istore 5, 2) := by decide +kernel
theorem dX5_pins_17 : decode cX5_pins 17 = .ok (.iload 5, 2) := by decide +kernel
theorem dX5_pins_19 : decode cX5_pins 19 = .ok (.aload_n 3, 1) := by decide +kernel
theorem dX5_pins_20 : decode cX5_pins 20 = .ok (.getfield 77, 3) := by decide +kernel
theorem dX5_pins_23 : decode cX5_pins 23 = .ok (.getfield 81, 3) := by decide +kernel
theorem dX5_pins_26 : decode cX5_pins 26 = .ok (.if_icmp .ge 57, 3) := by decide +kernel
theorem dX5_pins_29 : decode cX5_pins 29 = .ok (.aload_n 3, 1) := by decide +kernel
theorem dX5_pins_30 : decode cX5_pins 30 = .ok (.getfield 77, 3) := by decide +kernel
theorem dX5_pins_33 : decode cX5_pins 33 = .ok (.iload 5, 2) := by decide +kernel
theorem dX5_pins_35 : decode cX5_pins 35 = .ok (.invokevirtual 129, 3) := by decide +kernel
theorem dX5_pins_38 : decode cX5_pins 38 = .ok (.astore 6, 2) := by decide +kernel
theorem dX5_pins_40 : decode cX5_pins 40 = .ok (.aload 6, 2) := by decide +kernel
theorem dX5_pins_42 : decode cX5_pins 42 = .ok (.arraylength, 1) := by decide +kernel
theorem dX5_pins_43 : decode cX5_pins 43 = .ok (.istore 7, 2) := by decide +kernel
theorem dX5_pins_45 : decode cX5_pins 45 = .ok (.iconst 0, 1) := by decide +kernel
theorem dX5_pins_46 : decode cX5_pins 46 = .ok (.istore 8, 2) := by decide +kernel
theorem dX5_pins_48 : decode cX5_pins 48 = .ok (.iload 8, 2) := by decide +kernel
theorem dX5_pins_50 : decode cX5_pins 50 = .ok (.iload 7, 2) := by decide +kernel
theorem dX5_pins_52 : decode cX5_pins 52 = .ok (.if_icmp .ge 25, 3) := by decide +kernel
theorem dX5_pins_55 : decode cX5_pins 55 = .ok (.aload 6, 2) := by decide +kernel
theorem dX5_pins_57 : decode cX5_pins 57 = .ok (.iload 8, 2) := by decide +kernel
theorem dX5_pins_59 : decode cX5_pins 59 = .ok (.iaload, 1) := by decide +kernel
theorem dX5_pins_60 : decode cX5_pins 60 = .ok (.istore 9, 2) := by decide +kernel
theorem dX5_pins_62 : decode cX5_pins 62 = .ok (.iload 9, 2) := by decide +kernel
theorem dX5_pins_64 : decode cX5_pins 64 = .ok (.iload_n 2, 1) := by decide +kernel
theorem dX5_pins_65 : decode cX5_pins 65 = .ok (.if_icmp .ne 6, 3) := by decide +kernel
theorem dX5_pins_68 : decode cX5_pins 68 = .ok (.iinc 4 1, 3) := by decide +kernel
theorem dX5_pins_71 : decode cX5_pins 71 = .ok (.iinc 8 1, 3) := by decide +kernel
theorem dX5_pins_74 : decode cX5_pins 74 = .ok (.goto (-26), 3) := by decide +kernel
theorem dX5_pins_77 : decode cX5_pins 77 = .ok (.iinc 5 1, 3) := by decide +kernel
theorem dX5_pins_80 : decode cX5_pins 80 = .ok (.goto (-63), 3) := by decide +kernel
theorem dX5_pins_83 : decode cX5_pins 83 = .ok (.iload 4, 2) := by decide +kernel
theorem dX5_pins_85 : decode cX5_pins 85 = .ok (.ireturn, 1) := by decide +kernel
theorem dX5_pin_0 : decode cX5_pin 0 = .ok (.aload_n 0, 1) := by decide +kernel
theorem dX5_pin_1 : decode cX5_pin 1 = .ok (.iload_n 1, 1) := by decide +kernel
theorem dX5_pin_2 : decode cX5_pin 2 = .ok (.invokevirtual 56, 3) := by decide +kernel
theorem dX5_pin_5 : decode cX5_pin 5 = .ok (.astore 5, 2) := by decide +kernel
theorem dX5_pin_7 : decode cX5_pin 7 = .ok (.aload 5, 2) := by decide +kernel
theorem dX5_pin_9 : decode cX5_pin 9 = .ok (.iload_n 2, 1) := by decide +kernel
theorem dX5_pin_10 : decode cX5_pin 10 = .ok (.invokestatic 117, 3) := by decide +kernel
theorem dX5_pin_13 : decode cX5_pin 13 = .ok (.iload 4, 2) := by decide +kernel
theorem dX5_pin_15 : decode cX5_pin 15 = .ok (.iconst 3, 1) := by decide +kernel
theorem dX5_pin_16 : decode cX5_pin 16 = .ok (.invokestatic 133, 3) := by decide +kernel
theorem dX5_pin_19 : decode cX5_pin 19 = .ok (.aload 5, 2) := by decide +kernel
theorem dX5_pin_21 : decode cX5_pin 21 = .ok (.getfield 77, 3) := by decide +kernel
theorem dX5_pin_24 : decode cX5_pin 24 = .ok (.iload_n 2, 1) := by decide +kernel
theorem dX5_pin_25 : decode cX5_pin 25 = .ok (.iload_n 3, 1) := by decide +kernel
theorem dX5_pin_26 : decode cX5_pin 26 = .ok (.invokestatic 137, 3) := by decide +kernel
theorem dX5_pin_29 : decode cX5_pin 29 = .ok (.istore 6, 2) := by decide +kernel
theorem dX5_pin_31 : decode cX5_pin 31 = .ok (.iload 6, 2) := by decide +kernel
theorem dX5_pin_33 : decode cX5_pin 33 = .ok (.iconst (-1), 1) := by decide +kernel
theorem dX5_pin_34 : decode cX5_pin 34 = .ok (.if_icmp .ne 11, 3) := by decide +kernel
theorem dX5_pin_37 : decode cX5_pin 37 = .ok (.new 141, 3) := by decide +kernel
theorem dX5_pin_40 : decode cX5_pin 40 = .ok (.dup, 1) := by decide +kernel
theorem dX5_pin_41 : decode cX5_pin 41 = .ok (.invokespecial 143, 3) := by decide +kernel
theorem dX5_pin_44 : decode cX5_pin 44 = .ok (.athrow, 1) := by decide +kernel
theorem dX5_pin_45 : decode cX5_pin 45 = .ok (.iload 6, 2) := by decide +kernel
theorem dX5_pin_47 : decode cX5_pin 47 = .ok (.sipush 128, 3) := by decide +kernel
theorem dX5_pin_50 : decode cX5_pin 50 = .ok (.idiv, 1) := by decide +kernel
theorem dX5_pin_51 : decode cX5_pin 51 = .ok (.iconst 1, 1) := by decide +kernel
theorem dX5_pin_52 : decode cX5_pin 52 = .ok (.isub, 1) := by decide +kernel
theorem dX5_pin_53 : decode cX5_pin 53 = .ok (.istore 7, 2) := by decide +kernel
theorem dX5_pin_55 : decode cX5_pin 55 = .ok (.iload 6, 2) := by decide +kernel
theorem dX5_pin_57 : decode cX5_pin 57 = .ok (.sipush 128, 3) := by decide +kernel
theorem dX5_pin_60 : decode cX5_pin 60 = .ok (.irem, 1) := by decide +kernel
theorem dX5_pin_61 : decode cX5_pin 61 = .ok (.istore 8, 2) := by decide +kernel
theorem dX5_pin_63 : decode cX5_pin 63 = .ok (.iload 4, 2) := by decide +kernel
theorem dX5_pin_65 : decode cX5_pin 65 = .ok (.ifCond .ne 6, 3) := by decide +kernel
theorem dX5_pin_68 : decode cX5_pin 68 = .ok (.iload 7, 2) := by decide +kernel
theorem dX5_pin_70 : decode cX5_pin 70 = .ok (.ireturn, 1) := by decide +kernel
theorem dX5_pin_71 : decode cX5_pin 71 = .ok (.iload 4, 2) := by decide +kernel
theorem dX5_pin_73 : decode cX5_pin 73 = .ok (.iconst 1, 1) := by decide +kernel
theorem dX5_pin_74 : decode cX5_pin 74 = .ok (.if_icmp .ne 6, 3) := by decide +kernel
theorem dX5_pin_77 : decode cX5_pin 77 = .ok (.iload 8, 2) := by decide +kernel
theorem dX5_pin_79 : decode cX5_pin 79 = .ok (.ireturn, 1) := by decide +kernel
theorem dX5_pin_80 : decode cX5_pin 80 = .ok (.aload 5, 2) := by decide +kernel
theorem dX5_pin_82 : decode cX5_pin 82 = .ok (.iload 7, 2) := by decide +kernel
theorem dX5_pin_84 : decode cX5_pin 84 = .ok (.iload 8, 2) := by decide +kernel
theorem dX5_pin_86 : decode cX5_pin 86 = .ok (.invokestatic 144, 3) := by decide +kernel
theorem dX5_pin_89 : decode cX5_pin 89 = .ok (.ifCond .eq 7, 3) := by decide +kernel
theorem dX5_pin_92 : decode cX5_pin 92 = .ok (.iconst 1, 1) := by decide +kernel
theorem dX5_pin_93 : decode cX5_pin 93 = .ok (.goto 4, 3) := by decide +kernel
theorem dX5_pin_96 : decode cX5_pin 96 = .ok (.iconst 0, 1) := by decide +kernel
theorem dX5_pin_97 : decode cX5_pin 97 = .ok (.ireturn, 1) := by decide +kernel
theorem dX5_copy_0 : decode cX5_copy 0 = .ok (.aload_n 0, 1) := by decide +kernel
theorem dX5_copy_1 : decode cX5_copy 1 = .ok (.iload_n 1, 1) := by decide +kernel
theorem dX5_copy_2 : decode cX5_copy 2 = .ok (.invokevirtual 56, 3) := by decide +kernel
theorem dX5_copy_5 : decode cX5_copy 5 = .ok (.astore_n 2, 1) := by decide +kernel
theorem dX5_copy_6 : decode cX5_copy 6 = .ok (.aload_n 0, 1) := by decide +kernel
theorem dX5_copy_7 : decode cX5_copy 7 = .ok (.invokevirtual 43, 3) := by decide +kernel
theorem dX5_copy_10 : decode cX5_copy 10 = .ok (.aload_n 2, 1) := by decide +kernel
theorem dX5_copy_11 : decode cX5_copy 11 = .ok (.getfield 77, 3) := by decide +kernel
theorem dX5_copy_14 : decode cX5_copy 14 = .ok (.dup, 1) := by decide +kernel
theorem dX5_copy_15 : decode cX5_copy 15 = .ok (.getfield 148, 3) := by decide +kernel
theorem dX5_copy_18 : decode cX5_copy 18 = .ok (.iconst 1, 1) := by decide +kernel
theorem dX5_copy_19 : decode cX5_copy 19 = .ok (.iadd, 1) := by decide +kernel
theorem dX5_copy_20 : decode cX5_copy 20 = .ok (.putfield 148, 3) := by decide +kernel
theorem dX5_copy_23 : decode cX5_copy 23 = .ok (.aload_n 0, 1) := by decide +kernel
theorem dX5_copy_24 : decode cX5_copy 24 = .ok (.aload_n 2, 1) := by decide +kernel
theorem dX5_copy_25 : decode cX5_copy 25 = .ok (.getfield 77, 3) := by decide +kernel
theorem dX5_copy_28 : decode cX5_copy 28 = .ok (.invokevirtual 49, 3) := by decide +kernel
theorem dX5_copy_31 : decode cX5_copy 31 = .ok (.astore_n 3, 1) := by decide +kernel
theorem dX5_copy_32 : decode cX5_copy 32 = .ok (.aload_n 3, 1) := by decide +kernel
theorem dX5_copy_33 : decode cX5_copy 33 = .ok (.aload_n 2, 1) := by decide +kernel
theorem dX5_copy_34 : decode cX5_copy 34 = .ok (.invokevirtual 151, 3) := by decide +kernel
theorem dX5_copy_37 : decode cX5_copy 37 = .ok (.aload_n 3, 1) := by decide +kernel
theorem dX5_copy_38 : decode cX5_copy 38 = .ok (.getfield 53, 3) := by decide +kernel
theorem dX5_copy_41 : decode cX5_copy 41 = .ok (.ireturn, 1) := by decide +kernel
theorem dX5_shared_0 : decode cX5_shared 0 = .ok (.aload_n 0, 1) := by decide +kernel
theorem dX5_shared_1 : decode cX5_shared 1 = .ok (.iload_n 1, 1) := by decide +kernel
theorem dX5_shared_2 : decode cX5_shared 2 = .ok (.invokevirtual 56, 3) := by decide +kernel
theorem dX5_shared_5 : decode cX5_shared 5 = .ok (.getfield 77, 3) := by decide +kernel
theorem dX5_shared_8 : decode cX5_shared 8 = .ok (.aload_n 0, 1) := by decide +kernel
theorem dX5_shared_9 : decode cX5_shared 9 = .ok (.iload_n 2, 1) := by decide +kernel
theorem dX5_shared_10 : decode cX5_shared 10 = .ok (.invokevirtual 56, 3) := by decide +kernel
theorem dX5_shared_13 : decode cX5_shared 13 = .ok (.getfield 77, 3) := by decide +kernel
theorem dX5_shared_16 : decode cX5_shared 16 = .ok (.if_acmp .ne 7, 3) := by decide +kernel
theorem dX5_shared_19 : decode cX5_shared 19 = .ok (.iconst 1, 1) := by decide +kernel
theorem dX5_shared_20 : decode cX5_shared 20 = .ok (.goto 4, 3) := by decide +kernel
theorem dX5_shared_23 : decode cX5_shared 23 = .ok (.iconst 0, 1) := by decide +kernel
theorem dX5_shared_24 : decode cX5_shared 24 = .ok (.ireturn, 1) := by decide +kernel
theorem dX5_flat_0 : decode cX5_flat 0 = .ok (.aload_n 0, 1) := by decide +kernel
theorem dX5_flat_1 : decode cX5_flat 1 = .ok (.iload_n 1, 1) := by decide +kernel
theorem dX5_flat_2 : decode cX5_flat 2 = .ok (.invokevirtual 56, 3) := by decide +kernel
theorem dX5_flat_5 : decode cX5_flat 5 = .ok (.astore_n 2, 1) := by decide +kernel
theorem dX5_flat_6 : decode cX5_flat 6 = .ok (.aload_n 0, 1) := by decide +kernel
theorem dX5_flat_7 : decode cX5_flat 7 = .ok (.invokevirtual 43, 3) := by decide +kernel
theorem dX5_flat_10 : decode cX5_flat 10 = .ok (.aload_n 0, 1) := by decide +kernel
theorem dX5_flat_11 : decode cX5_flat 11 = .ok (.aload_n 2, 1) := by decide +kernel
theorem dX5_flat_12 : decode cX5_flat 12 = .ok (.invokevirtual 155, 3) := by decide +kernel
theorem dX5_flat_15 : decode cX5_flat 15 = .ok (.bipush 64, 2) := by decide +kernel
theorem dX5_flat_17 : decode cX5_flat 17 = .ok (.if_icmp .gt 14, 3) := by decide +kernel
theorem dX5_flat_20 : decode cX5_flat 20 = .ok (.aload_n 0, 1) := by decide +kernel
theorem dX5_flat_21 : decode cX5_flat 21 = .ok (.aload_n 2, 1) := by decide +kernel
theorem dX5_flat_22 : decode cX5_flat 22 = .ok (.invokevirtual 159, 3) := by decide +kernel
theorem dX5_flat_25 : decode cX5_flat 25 = .ok (.sipush 3000, 3) := by decide +kernel
theorem dX5_flat_28 : decode cX5_flat 28 = .ok (.if_icmp .le 11, 3) := by decide +kernel
theorem dX5_flat_31 : decode cX5_flat 31 = .ok (.new 162, 3) := by decide +kernel
theorem dX5_flat_34 : decode cX5_flat 34 = .ok (.dup, 1) := by decide +kernel
theorem dX5_flat_35 : decode cX5_flat 35 = .ok (.invokespecial 164, 3) := by decide +kernel
theorem dX5_flat_38 : decode cX5_flat 38 = .ok (.athrow, 1) := by decide +kernel
theorem dX5_flat_39 : decode cX5_flat 39 = .ok (.aload_n 0, 1) := by decide +kernel
theorem dX5_flat_40 : decode cX5_flat 40 = .ok (.getfield 29, 3) := by decide +kernel
theorem dX5_flat_43 : decode cX5_flat 43 = .ok (.invokevirtual 165, 3) := by decide +kernel
theorem dX5_flat_46 : decode cX5_flat 46 = .ok (.aload_n 2, 1) := by decide +kernel
theorem dX5_flat_47 : decode cX5_flat 47 = .ok (.aload_n 0, 1) := by decide +kernel
theorem dX5_flat_48 : decode cX5_flat 48 = .ok (.getfield 29, 3) := by decide +kernel
theorem dX5_flat_51 : decode cX5_flat 51 = .ok (.aload_n 2, 1) := by decide +kernel
theorem dX5_flat_52 : decode cX5_flat 52 = .ok (.getfield 77, 3) := by decide +kernel
theorem dX5_flat_55 : decode cX5_flat 55 = .ok (.getfield 110, 3) := by decide +kernel
theorem dX5_flat_58 : decode cX5_flat 58 = .ok (.invokevirtual 168, 3) := by decide +kernel
theorem dX5_flat_61 : decode cX5_flat 61 = .ok (.aload_n 0, 1) := by decide +kernel
theorem dX5_flat_62 : decode cX5_flat 62 = .ok (.getfield 29, 3) := by decide +kernel
theorem dX5_flat_65 : decode cX5_flat 65 = .ok (.iconst 0, 1) := by decide +kernel
theorem dX5_flat_66 : decode cX5_flat 66 = .ok (.invokestatic 172, 3) := by decide +kernel
theorem dX5_flat_69 : decode cX5_flat 69 = .ok (.aload_n 0, 1) := by decide +kernel
theorem dX5_flat_70 : decode cX5_flat 70 = .ok (.getfield 29, 3) := by decide +kernel
theorem dX5_flat_73 : decode cX5_flat 73 = .ok (.invokevirtual 176, 3) := by decide +kernel
theorem dX5_flat_76 : decode cX5_flat 76 = .ok (.istore_n 3, 1) := by decide +kernel
theorem dX5_flat_77 : decode cX5_flat 77 = .ok (.iload_n 3, 1) := by decide +kernel
theorem dX5_flat_78 : decode cX5_flat 78 = .ok (.sipush 128, 3) := by decide +kernel
theorem dX5_flat_81 : decode cX5_flat 81 = .ok (.if_icmp .le 11, 3) := by decide +kernel
theorem dX5_flat_84 : decode cX5_flat 84 = .ok (.new 162, 3) := by decide +kernel
theorem dX5_flat_87 : decode cX5_flat 87 = .ok (.dup, 1) := by decide +kernel
theorem dX5_flat_88 : decode cX5_flat 88 = .ok (.invokespecial 164, 3) := by decide +kernel
theorem dX5_flat_91 : decode cX5_flat 91 = .ok (.athrow, 1) := by decide +kernel
theorem dX5_flat_92 : decode cX5_flat 92 = .ok (.aload_n 0, 1) := by decide +kernel
theorem dX5_flat_93 : decode cX5_flat 93 = .ok (.aload_n 0, 1) := by decide +kernel
theorem dX5_flat_94 : decode cX5_flat 94 = .ok (.getfield 29, 3) := by decide +kernel
theorem dX5_flat_97 : decode cX5_flat 97 = .ok (.aload_n 2, 1) := by decide +kernel
theorem dX5_flat_98 : decode cX5_flat 98 = .ok (.iload_n 3, 1) := by decide +kernel
theorem dX5_flat_99 : decode cX5_flat 99 = .ok (.invokevirtual 179, 3) := by decide +kernel
theorem dX5_flat_102 : decode cX5_flat 102 = .ok (.invokevirtual 49, 3) := by decide +kernel
theorem dX5_flat_105 : decode cX5_flat 105 = .ok (.astore 4, 2) := by decide +kernel
theorem dX5_flat_107 : decode cX5_flat 107 = .ok (.aload 4, 2) := by decide +kernel
theorem dX5_flat_109 : decode cX5_flat 109 = .ok (.aload_n 2, 1) := by decide +kernel
theorem dX5_flat_110 : decode cX5_flat 110 = .ok (.invokevirtual 151, 3) := by decide +kernel
theorem dX5_flat_113 : decode cX5_flat 113 = .ok (.aload 4, 2) := by decide +kernel
theorem dX5_flat_115 : decode cX5_flat 115 = .ok (.getfield 53, 3) := by decide +kernel
theorem dX5_flat_118 : decode cX5_flat 118 = .ok (.ireturn, 1) := by decide +kernel
theorem dX5_path_0 : decode cX5_path 0 = .ok (.aload_n 0, 1) := by decide +kernel
theorem dX5_path_1 : decode cX5_path 1 = .ok (.iload_n 1, 1) := by decide +kernel
theorem dX5_path_2 : decode cX5_path 2 = .ok (.invokevirtual 56, 3) := by decide +kernel
theorem dX5_path_5 : decode cX5_path 5 = .ok (.iload_n 2, 1) := by decide +kernel
theorem dX5_path_6 : decode cX5_path 6 = .ok (.invokestatic 183, 3) := by decide +kernel
theorem dX5_path_9 : decode cX5_path 9 = .ok (.getfield 187, 3) := by decide +kernel
theorem dX5_path_12 : decode cX5_path 12 = .ok (.astore 4, 2) := by decide +kernel
theorem dX5_path_14 : decode cX5_path 14 = .ok (.iload_n 3, 1) := by decide +kernel
theorem dX5_path_15 : decode cX5_path 15 = .ok (.ifCond .ge 11, 3) := by decide +kernel
theorem dX5_path_18 : decode cX5_path 18 = .ok (.new 141, 3) := by decide +kernel
theorem dX5_path_21 : decode cX5_path 21 = .ok (.dup, 1) := by decide +kernel
theorem dX5_path_22 : decode cX5_path 22 = .ok (.invokespecial 143, 3) := by decide +kernel
theorem dX5_path_25 : decode cX5_path 25 = .ok (.athrow, 1) := by decide +kernel
theorem dX5_path_26 : decode cX5_path 26 = .ok (.iload_n 3, 1) := by decide +kernel
theorem dX5_path_27 : decode cX5_path 27 = .ok (.aload 4, 2) := by decide +kernel
theorem dX5_path_29 : decode cX5_path 29 = .ok (.arraylength, 1) := by decide +kernel
theorem dX5_path_30 : decode cX5_path 30 = .ok (.if_icmp .ge 10, 3) := by decide +kernel
theorem dX5_path_33 : decode cX5_path 33 = .ok (.aload 4, 2) := by decide +kernel
theorem dX5_path_35 : decode cX5_path 35 = .ok (.iload_n 3, 1) := by decide +kernel
theorem dX5_path_36 : decode cX5_path 36 = .ok (.iaload, 1) := by decide +kernel
theorem dX5_path_37 : decode cX5_path 37 = .ok (.goto 4, 3) := by decide +kernel
theorem dX5_path_40 : decode cX5_path 40 = .ok (.iconst (-1), 1) := by decide +kernel
theorem dX5_path_41 : decode cX5_path 41 = .ok (.ireturn, 1) := by decide +kernel
theorem dX5_doubled_0 : decode cX5_doubled 0 = .ok (.aload_n 0, 1) := by decide +kernel
theorem dX5_doubled_1 : decode cX5_doubled 1 = .ok (.aload_n 0, 1) := by decide +kernel
theorem dX5_doubled_2 : decode cX5_doubled 2 = .ok (.iload_n 1, 1) := by decide +kernel
theorem dX5_doubled_3 : decode cX5_doubled 3 = .ok (.invokevirtual 56, 3) := by decide +kernel
theorem dX5_doubled_6 : decode cX5_doubled 6 = .ok (.iload_n 2, 1) := by decide +kernel
theorem dX5_doubled_7 : decode cX5_doubled 7 = .ok (.iconst 1, 1) := by decide +kernel
theorem dX5_doubled_8 : decode cX5_doubled 8 = .ok (.invokevirtual 190, 3) := by decide +kernel
theorem dX5_doubled_11 : decode cX5_doubled 11 = .ok (.ireturn, 1) := by decide +kernel
theorem dX5_open_0 : decode cX5_open 0 = .ok (.aload_n 0, 1) := by decide +kernel
theorem dX5_open_1 : decode cX5_open 1 = .ok (.aload_n 0, 1) := by decide +kernel
theorem dX5_open_2 : decode cX5_open 2 = .ok (.iload_n 1, 1) := by decide +kernel
theorem dX5_open_3 : decode cX5_open 3 = .ok (.invokevirtual 56, 3) := by decide +kernel
theorem dX5_open_6 : decode cX5_open 6 = .ok (.iload_n 2, 1) := by decide +kernel
theorem dX5_open_7 : decode cX5_open 7 = .ok (.iconst 0, 1) := by decide +kernel
theorem dX5_open_8 : decode cX5_open 8 = .ok (.invokevirtual 190, 3) := by decide +kernel
theorem dX5_open_11 : decode cX5_open 11 = .ok (.ireturn, 1) := by decide +kernel
theorem dX5_alike_0 : decode cX5_alike 0 = .ok (.aload_n 0, 1) := by decide +kernel
theorem dX5_alike_1 : decode cX5_alike 1 = .ok (.iload_n 1, 1) := by decide +kernel
theorem dX5_alike_2 : decode cX5_alike 2 = .ok (.invokevirtual 56, 3) := by decide +kernel
theorem dX5_alike_5 : decode cX5_alike 5 = .ok (.astore_n 3, 1) := by decide +kernel
theorem dX5_alike_6 : decode cX5_alike 6 = .ok (.aload_n 0, 1) := by decide +kernel
theorem dX5_alike_7 : decode cX5_alike 7 = .ok (.iload_n 2, 1) := by decide +kernel
theorem dX5_alike_8 : decode cX5_alike 8 = .ok (.invokevirtual 56, 3) := by decide +kernel
theorem dX5_alike_11 : decode cX5_alike 11 = .ok (.astore 4, 2) := by decide +kernel
theorem dX5_alike_13 : decode cX5_alike 13 = .ok (.aload_n 0, 1) := by decide +kernel
theorem dX5_alike_14 : decode cX5_alike 14 = .ok (.getfield 22, 3) := by decide +kernel
theorem dX5_alike_17 : decode cX5_alike 17 = .ok (.invokevirtual 194, 3) := by decide +kernel
theorem dX5_alike_20 : decode cX5_alike 20 = .ok (.aload_n 3, 1) := by decide +kernel
theorem dX5_alike_21 : decode cX5_alike 21 = .ok (.aload_n 0, 1) := by decide +kernel
theorem dX5_alike_22 : decode cX5_alike 22 = .ok (.getfield 22, 3) := by decide +kernel
theorem dX5_alike_25 : decode cX5_alike 25 = .ok (.iconst 0, 1) := by decide +kernel
theorem dX5_alike_26 : decode cX5_alike 26 = .ok (.invokestatic 195, 3) := by decide +kernel
theorem dX5_alike_29 : decode cX5_alike 29 = .ok (.aload 4, 2) := by decide +kernel
theorem dX5_alike_31 : decode cX5_alike 31 = .ok (.aload_n 0, 1) := by decide +kernel
theorem dX5_alike_32 : decode cX5_alike 32 = .ok (.getfield 22, 3) := by decide +kernel
theorem dX5_alike_35 : decode cX5_alike 35 = .ok (.iconst 0, 1) := by decide +kernel
theorem dX5_alike_36 : decode cX5_alike 36 = .ok (.invokestatic 195, 3) := by decide +kernel
theorem dX5_alike_39 : decode cX5_alike 39 = .ok (.aload_n 0, 1) := by decide +kernel
theorem dX5_alike_40 : decode cX5_alike 40 = .ok (.invokevirtual 199, 3) := by decide +kernel
theorem dX5_alike_43 : decode cX5_alike 43 = .ok (.pop, 1) := by decide +kernel
theorem dX5_alike_44 : decode cX5_alike 44 = .ok (.aload_n 0, 1) := by decide +kernel
theorem dX5_alike_45 : decode cX5_alike 45 = .ok (.getfield 33, 3) := by decide +kernel
theorem dX5_alike_48 : decode cX5_alike 48 = .ok (.aload_n 3, 1) := by decide +kernel
theorem dX5_alike_49 : decode cX5_alike 49 = .ok (.getfield 53, 3) := by decide +kernel
theorem dX5_alike_52 : decode cX5_alike 52 = .ok (.iaload, 1) := by decide +kernel
theorem dX5_alike_53 : decode cX5_alike 53 = .ok (.aload_n 0, 1) := by decide +kernel
theorem dX5_alike_54 : decode cX5_alike 54 = .ok (.getfield 33, 3) := by decide +kernel
theorem dX5_alike_57 : decode cX5_alike 57 = .ok (.aload 4, 2) := by decide +kernel
theorem dX5_alike_59 : decode cX5_alike 59 = .ok (.getfield 53, 3) := by decide +kernel
theorem dX5_alike_62 : decode cX5_alike 62 = .ok (.iaload, 1) := by decide +kernel
theorem dX5_alike_63 : decode cX5_alike 63 = .ok (.if_icmp .ne 7, 3) := by decide +kernel
theorem dX5_alike_66 : decode cX5_alike 66 = .ok (.iconst 1, 1) := by decide +kernel
theorem dX5_alike_67 : decode cX5_alike 67 = .ok (.goto 4, 3) := by decide +kernel
theorem dX5_alike_70 : decode cX5_alike 70 = .ok (.iconst 0, 1) := by decide +kernel
theorem dX5_alike_71 : decode cX5_alike 71 = .ok (.ireturn, 1) := by decide +kernel
theorem dX5_count_0 : decode cX5_count 0 = .ok (.aload_n 0, 1) := by decide +kernel
theorem dX5_count_1 : decode cX5_count 1 = .ok (.iload_n 1, 1) := by decide +kernel
theorem dX5_count_2 : decode cX5_count 2 = .ok (.invokevirtual 56, 3) := by decide +kernel
theorem dX5_count_5 : decode cX5_count 5 = .ok (.astore_n 3, 1) := by decide +kernel
theorem dX5_count_6 : decode cX5_count 6 = .ok (.iload_n 2, 1) := by decide +kernel
theorem dX5_count_7 : decode cX5_count 7 = .ok (.tableswitch 75 0 5 #[37, 42, 50, 58, 63, 69], 37) := by decide +kernel
theorem dX5_count_44 : decode cX5_count 44 = .ok (.aload_n 3, 1) := by decide +kernel
theorem dX5_count_45 : decode cX5_count 45 = .ok (.getfield 60, 3) := by decide +kernel
theorem dX5_count_48 : decode cX5_count 48 = .ok (.ireturn, 1) := by decide +kernel
theorem dX5_count_49 : decode cX5_count 49 = .ok (.aload_n 3, 1) := by decide +kernel
theorem dX5_count_50 : decode cX5_count 50 = .ok (.getfield 77, 3) := by decide +kernel
theorem dX5_count_53 : decode cX5_count 53 = .ok (.getfield 81, 3) := by decide +kernel
theorem dX5_count_56 : decode cX5_count 56 = .ok (.ireturn, 1) := by decide +kernel
theorem dX5_count_57 : decode cX5_count 57 = .ok (.aload_n 3, 1) := by decide +kernel
theorem dX5_count_58 : decode cX5_count 58 = .ok (.getfield 77, 3) := by decide +kernel
theorem dX5_count_61 : decode cX5_count 61 = .ok (.getfield 110, 3) := by decide +kernel
theorem dX5_count_64 : decode cX5_count 64 = .ok (.ireturn, 1) := by decide +kernel
theorem dX5_count_65 : decode cX5_count 65 = .ok (.aload_n 3, 1) := by decide +kernel
theorem dX5_count_66 : decode cX5_count 66 = .ok (.getfield 92, 3) := by decide +kernel
theorem dX5_count_69 : decode cX5_count 69 = .ok (.ireturn, 1) := by decide +kernel
theorem dX5_count_70 : decode cX5_count 70 = .ok (.aload_n 0, 1) := by decide +kernel
theorem dX5_count_71 : decode cX5_count 71 = .ok (.aload_n 3, 1) := by decide +kernel
theorem dX5_count_72 : decode cX5_count 72 = .ok (.invokevirtual 202, 3) := by decide +kernel
theorem dX5_count_75 : decode cX5_count 75 = .ok (.ireturn, 1) := by decide +kernel
theorem dX5_count_76 : decode cX5_count 76 = .ok (.aload_n 0, 1) := by decide +kernel
theorem dX5_count_77 : decode cX5_count 77 = .ok (.aload_n 3, 1) := by decide +kernel
theorem dX5_count_78 : decode cX5_count 78 = .ok (.invokevirtual 155, 3) := by decide +kernel
theorem dX5_count_81 : decode cX5_count 81 = .ok (.ireturn, 1) := by decide +kernel
theorem dX5_count_82 : decode cX5_count 82 = .ok (.new 141, 3) := by decide +kernel
theorem dX5_count_85 : decode cX5_count 85 = .ok (.dup, 1) := by decide +kernel
theorem dX5_count_86 : decode cX5_count 86 = .ok (.invokespecial 143, 3) := by decide +kernel
theorem dX5_count_89 : decode cX5_count 89 = .ok (.athrow, 1) := by decide +kernel
theorem dX5_moduleOf_0 : decode cX5_moduleOf 0 = .ok (.aload_n 0, 1) := by decide +kernel
theorem dX5_moduleOf_1 : decode cX5_moduleOf 1 = .ok (.iload_n 1, 1) := by decide +kernel
theorem dX5_moduleOf_2 : decode cX5_moduleOf 2 = .ok (.invokevirtual 56, 3) := by decide +kernel
theorem dX5_moduleOf_5 : decode cX5_moduleOf 5 = .ok (.iload_n 2, 1) := by decide +kernel
theorem dX5_moduleOf_6 : decode cX5_moduleOf 6 = .ok (.invokestatic 183, 3) := by decide +kernel
theorem dX5_moduleOf_9 : decode cX5_moduleOf 9 = .ok (.getfield 205, 3) := by decide +kernel
theorem dX5_moduleOf_12 : decode cX5_moduleOf 12 = .ok (.getfield 53, 3) := by decide +kernel
theorem dX5_moduleOf_15 : decode cX5_moduleOf 15 = .ok (.ireturn, 1) := by decide +kernel
theorem dX5_modules_0 : decode cX5_modules 0 = .ok (.aload_n 0, 1) := by decide +kernel
theorem dX5_modules_1 : decode cX5_modules 1 = .ok (.getfield 15, 3) := by decide +kernel
theorem dX5_modules_4 : decode cX5_modules 4 = .ok (.ireturn, 1) := by decide +kernel
theorem dX5_kinds_0 : decode cX5_kinds 0 = .ok (.aload_n 0, 1) := by decide +kernel
theorem dX5_kinds_1 : decode cX5_kinds 1 = .ok (.getfield 22, 3) := by decide +kernel
theorem dX5_kinds_4 : decode cX5_kinds 4 = .ok (.invokevirtual 194, 3) := by decide +kernel
theorem dX5_kinds_7 : decode cX5_kinds 7 = .ok (.iconst 0, 1) := by decide +kernel
theorem dX5_kinds_8 : decode cX5_kinds 8 = .ok (.istore_n 1, 1) := by decide +kernel
theorem dX5_kinds_9 : decode cX5_kinds 9 = .ok (.iload_n 1, 1) := by decide +kernel
theorem dX5_kinds_10 : decode cX5_kinds 10 = .ok (.aload_n 0, 1) := by decide +kernel
theorem dX5_kinds_11 : decode cX5_kinds 11 = .ok (.getfield 15, 3) := by decide +kernel
theorem dX5_kinds_14 : decode cX5_kinds 14 = .ok (.if_icmp .ge 23, 3) := by decide +kernel
theorem dX5_kinds_17 : decode cX5_kinds 17 = .ok (.aload_n 0, 1) := by decide +kernel
theorem dX5_kinds_18 : decode cX5_kinds 18 = .ok (.getfield 11, 3) := by decide +kernel
theorem dX5_kinds_21 : decode cX5_kinds 21 = .ok (.iload_n 1, 1) := by decide +kernel
theorem dX5_kinds_22 : decode cX5_kinds 22 = .ok (.aaload, 1) := by decide +kernel
theorem dX5_kinds_23 : decode cX5_kinds 23 = .ok (.aload_n 0, 1) := by decide +kernel
theorem dX5_kinds_24 : decode cX5_kinds 24 = .ok (.getfield 22, 3) := by decide +kernel
theorem dX5_kinds_27 : decode cX5_kinds 27 = .ok (.iconst 0, 1) := by decide +kernel
theorem dX5_kinds_28 : decode cX5_kinds 28 = .ok (.invokestatic 195, 3) := by decide +kernel
theorem dX5_kinds_31 : decode cX5_kinds 31 = .ok (.iinc 1 1, 3) := by decide +kernel
theorem dX5_kinds_34 : decode cX5_kinds 34 = .ok (.goto (-25), 3) := by decide +kernel
theorem dX5_kinds_37 : decode cX5_kinds 37 = .ok (.aload_n 0, 1) := by decide +kernel
theorem dX5_kinds_38 : decode cX5_kinds 38 = .ok (.invokevirtual 199, 3) := by decide +kernel
theorem dX5_kinds_41 : decode cX5_kinds 41 = .ok (.ireturn, 1) := by decide +kernel
theorem dX5_clear_0 : decode cX5_clear 0 = .ok (.aload_n 0, 1) := by decide +kernel
theorem dX5_clear_1 : decode cX5_clear 1 = .ok (.iconst 0, 1) := by decide +kernel
theorem dX5_clear_2 : decode cX5_clear 2 = .ok (.putfield 15, 3) := by decide +kernel
theorem dX5_clear_5 : decode cX5_clear 5 = .ok (.return_, 1) := by decide +kernel
theorem dX5_requireWithin_0 : decode cX5_requireWithin 0 = .ok (.iload_n 0, 1) := by decide +kernel
theorem dX5_requireWithin_1 : decode cX5_requireWithin 1 = .ok (.ifCond .lt 8, 3) := by decide +kernel
theorem dX5_requireWithin_4 : decode cX5_requireWithin 4 = .ok (.iload_n 0, 1) := by decide +kernel
theorem dX5_requireWithin_5 : decode cX5_requireWithin 5 = .ok (.iload_n 1, 1) := by decide +kernel
theorem dX5_requireWithin_6 : decode cX5_requireWithin 6 = .ok (.if_icmp .lt 11, 3) := by decide +kernel
theorem dX5_requireWithin_9 : decode cX5_requireWithin 9 = .ok (.new 141, 3) := by decide +kernel
theorem dX5_requireWithin_12 : decode cX5_requireWithin 12 = .ok (.dup, 1) := by decide +kernel
theorem dX5_requireWithin_13 : decode cX5_requireWithin 13 = .ok (.invokespecial 143, 3) := by decide +kernel
theorem dX5_requireWithin_16 : decode cX5_requireWithin 16 = .ok (.athrow, 1) := by decide +kernel
theorem dX5_requireWithin_17 : decode cX5_requireWithin 17 = .ok (.return_, 1) := by decide +kernel
theorem dX5_requireNet_0 : decode cX5_requireNet 0 = .ok (.iload_n 1, 1) := by decide +kernel
theorem dX5_requireNet_1 : decode cX5_requireNet 1 = .ok (.aload_n 0, 1) := by decide +kernel
theorem dX5_requireNet_2 : decode cX5_requireNet 2 = .ok (.getfield 77, 3) := by decide +kernel
theorem dX5_requireNet_5 : decode cX5_requireNet 5 = .ok (.getfield 110, 3) := by decide +kernel
theorem dX5_requireNet_8 : decode cX5_requireNet 8 = .ok (.invokestatic 133, 3) := by decide +kernel
theorem dX5_requireNet_11 : decode cX5_requireNet 11 = .ok (.return_, 1) := by decide +kernel
theorem dX5_requireRoomForModule_0 : decode cX5_requireRoomForModule 0 = .ok (.aload_n 0, 1) := by decide +kernel
theorem dX5_requireRoomForModule_1 : decode cX5_requireRoomForModule 1 = .ok (.getfield 15, 3) := by decide +kernel
theorem dX5_requireRoomForModule_4 : decode cX5_requireRoomForModule 4 = .ok (.bipush 24, 2) := by decide +kernel
theorem dX5_requireRoomForModule_6 : decode cX5_requireRoomForModule 6 = .ok (.if_icmp .ne 11, 3) := by decide +kernel
theorem dX5_requireRoomForModule_9 : decode cX5_requireRoomForModule 9 = .ok (.new 67, 3) := by decide +kernel
theorem dX5_requireRoomForModule_12 : decode cX5_requireRoomForModule 12 = .ok (.dup, 1) := by decide +kernel
theorem dX5_requireRoomForModule_13 : decode cX5_requireRoomForModule 13 = .ok (.invokespecial 69, 3) := by decide +kernel
theorem dX5_requireRoomForModule_16 : decode cX5_requireRoomForModule 16 = .ok (.athrow, 1) := by decide +kernel
theorem dX5_requireRoomForModule_17 : decode cX5_requireRoomForModule 17 = .ok (.return_, 1) := by decide +kernel
theorem dX5_shellAt_0 : decode cX5_shellAt 0 = .ok (.iload_n 1, 1) := by decide +kernel
theorem dX5_shellAt_1 : decode cX5_shellAt 1 = .ok (.aload_n 0, 1) := by decide +kernel
theorem dX5_shellAt_2 : decode cX5_shellAt 2 = .ok (.getfield 15, 3) := by decide +kernel
theorem dX5_shellAt_5 : decode cX5_shellAt 5 = .ok (.invokestatic 133, 3) := by decide +kernel
theorem dX5_shellAt_8 : decode cX5_shellAt 8 = .ok (.aload_n 0, 1) := by decide +kernel
theorem dX5_shellAt_9 : decode cX5_shellAt 9 = .ok (.getfield 11, 3) := by decide +kernel
theorem dX5_shellAt_12 : decode cX5_shellAt 12 = .ok (.iload_n 1, 1) := by decide +kernel
theorem dX5_shellAt_13 : decode cX5_shellAt 13 = .ok (.aaload, 1) := by decide +kernel
theorem dX5_shellAt_14 : decode cX5_shellAt 14 = .ok (.areturn, 1) := by decide +kernel
theorem dX5_placementAt_0 : decode cX5_placementAt 0 = .ok (.iload_n 1, 1) := by decide +kernel
theorem dX5_placementAt_1 : decode cX5_placementAt 1 = .ok (.aload_n 0, 1) := by decide +kernel
theorem dX5_placementAt_2 : decode cX5_placementAt 2 = .ok (.getfield 77, 3) := by decide +kernel
theorem dX5_placementAt_5 : decode cX5_placementAt 5 = .ok (.getfield 81, 3) := by decide +kernel
theorem dX5_placementAt_8 : decode cX5_placementAt 8 = .ok (.invokestatic 133, 3) := by decide +kernel
theorem dX5_placementAt_11 : decode cX5_placementAt 11 = .ok (.aload_n 0, 1) := by decide +kernel
theorem dX5_placementAt_12 : decode cX5_placementAt 12 = .ok (.getfield 77, 3) := by decide +kernel
theorem dX5_placementAt_15 : decode cX5_placementAt 15 = .ok (.getfield 209, 3) := by decide +kernel
theorem dX5_placementAt_18 : decode cX5_placementAt 18 = .ok (.iload_n 1, 1) := by decide +kernel
theorem dX5_placementAt_19 : decode cX5_placementAt 19 = .ok (.aaload, 1) := by decide +kernel
theorem dX5_placementAt_20 : decode cX5_placementAt 20 = .ok (.areturn, 1) := by decide +kernel
theorem dX5_addShell_0 : decode cX5_addShell 0 = .ok (.new 9, 3) := by decide +kernel
theorem dX5_addShell_3 : decode cX5_addShell 3 = .ok (.dup, 1) := by decide +kernel
theorem dX5_addShell_4 : decode cX5_addShell 4 = .ok (.aload_n 0, 1) := by decide +kernel
theorem dX5_addShell_5 : decode cX5_addShell 5 = .ok (.getfield 15, 3) := by decide +kernel
theorem dX5_addShell_8 : decode cX5_addShell 8 = .ok (.aload_n 1, 1) := by decide +kernel
theorem dX5_addShell_9 : decode cX5_addShell 9 = .ok (.invokespecial 213, 3) := by decide +kernel
theorem dX5_addShell_12 : decode cX5_addShell 12 = .ok (.astore_n 2, 1) := by decide +kernel
theorem dX5_addShell_13 : decode cX5_addShell 13 = .ok (.aload_n 0, 1) := by decide +kernel
theorem dX5_addShell_14 : decode cX5_addShell 14 = .ok (.getfield 11, 3) := by decide +kernel
theorem dX5_addShell_17 : decode cX5_addShell 17 = .ok (.aload_n 0, 1) := by decide +kernel
theorem dX5_addShell_18 : decode cX5_addShell 18 = .ok (.getfield 15, 3) := by decide +kernel
theorem dX5_addShell_21 : decode cX5_addShell 21 = .ok (.aload_n 2, 1) := by decide +kernel
theorem dX5_addShell_22 : decode cX5_addShell 22 = .ok (.aastore, 1) := by decide +kernel
theorem dX5_addShell_23 : decode cX5_addShell 23 = .ok (.aload_n 0, 1) := by decide +kernel
theorem dX5_addShell_24 : decode cX5_addShell 24 = .ok (.dup, 1) := by decide +kernel
theorem dX5_addShell_25 : decode cX5_addShell 25 = .ok (.getfield 15, 3) := by decide +kernel
theorem dX5_addShell_28 : decode cX5_addShell 28 = .ok (.iconst 1, 1) := by decide +kernel
theorem dX5_addShell_29 : decode cX5_addShell 29 = .ok (.iadd, 1) := by decide +kernel
theorem dX5_addShell_30 : decode cX5_addShell 30 = .ok (.putfield 15, 3) := by decide +kernel
theorem dX5_addShell_33 : decode cX5_addShell 33 = .ok (.aload_n 2, 1) := by decide +kernel
theorem dX5_addShell_34 : decode cX5_addShell 34 = .ok (.areturn, 1) := by decide +kernel
theorem dX5_insideToChange_0 : decode cX5_insideToChange 0 = .ok (.aload_n 0, 1) := by decide +kernel
theorem dX5_insideToChange_1 : decode cX5_insideToChange 1 = .ok (.getfield 77, 3) := by decide +kernel
theorem dX5_insideToChange_4 : decode cX5_insideToChange 4 = .ok (.getfield 148, 3) := by decide +kernel
theorem dX5_insideToChange_7 : decode cX5_insideToChange 7 = .ok (.iconst 1, 1) := by decide +kernel
theorem dX5_insideToChange_8 : decode cX5_insideToChange 8 = .ok (.if_icmp .le 27, 3) := by decide +kernel
theorem dX5_insideToChange_11 : decode cX5_insideToChange 11 = .ok (.aload_n 0, 1) := by decide +kernel
theorem dX5_insideToChange_12 : decode cX5_insideToChange 12 = .ok (.getfield 77, 3) := by decide +kernel
theorem dX5_insideToChange_15 : decode cX5_insideToChange 15 = .ok (.dup, 1) := by decide +kernel
theorem dX5_insideToChange_16 : decode cX5_insideToChange 16 = .ok (.getfield 148, 3) := by decide +kernel
theorem dX5_insideToChange_19 : decode cX5_insideToChange 19 = .ok (.iconst 1, 1) := by decide +kernel
theorem dX5_insideToChange_20 : decode cX5_insideToChange 20 = .ok (.isub, 1) := by decide +kernel
theorem dX5_insideToChange_21 : decode cX5_insideToChange 21 = .ok (.putfield 148, 3) := by decide +kernel
theorem dX5_insideToChange_24 : decode cX5_insideToChange 24 = .ok (.aload_n 0, 1) := by decide +kernel
theorem dX5_insideToChange_25 : decode cX5_insideToChange 25 = .ok (.aload_n 0, 1) := by decide +kernel
theorem dX5_insideToChange_26 : decode cX5_insideToChange 26 = .ok (.getfield 77, 3) := by decide +kernel
theorem dX5_insideToChange_29 : decode cX5_insideToChange 29 = .ok (.invokevirtual 216, 3) := by decide +kernel
theorem dX5_insideToChange_32 : decode cX5_insideToChange 32 = .ok (.putfield 77, 3) := by decide +kernel
theorem dX5_insideToChange_35 : decode cX5_insideToChange 35 = .ok (.aload_n 0, 1) := by decide +kernel
theorem dX5_insideToChange_36 : decode cX5_insideToChange 36 = .ok (.getfield 77, 3) := by decide +kernel
theorem dX5_insideToChange_39 : decode cX5_insideToChange 39 = .ok (.areturn, 1) := by decide +kernel
theorem dX5_netAt_0 : decode cX5_netAt 0 = .ok (.iload_n 1, 1) := by decide +kernel
theorem dX5_netAt_1 : decode cX5_netAt 1 = .ok (.iconst (-1), 1) := by decide +kernel
theorem dX5_netAt_2 : decode cX5_netAt 2 = .ok (.if_icmp .ne 10, 3) := by decide +kernel
theorem dX5_netAt_5 : decode cX5_netAt 5 = .ok (.aload_n 0, 1) := by decide +kernel
theorem dX5_netAt_6 : decode cX5_netAt 6 = .ok (.getfield 92, 3) := by decide +kernel
theorem dX5_netAt_9 : decode cX5_netAt 9 = .ok (.goto 12, 3) := by decide +kernel
theorem dX5_netAt_12 : decode cX5_netAt 12 = .ok (.aload_n 0, 1) := by decide +kernel
theorem dX5_netAt_13 : decode cX5_netAt 13 = .ok (.iload_n 1, 1) := by decide +kernel
theorem dX5_netAt_14 : decode cX5_netAt 14 = .ok (.invokestatic 183, 3) := by decide +kernel
theorem dX5_netAt_17 : decode cX5_netAt 17 = .ok (.getfield 220, 3) := by decide +kernel
theorem dX5_netAt_20 : decode cX5_netAt 20 = .ok (.arraylength, 1) := by decide +kernel
theorem dX5_netAt_21 : decode cX5_netAt 21 = .ok (.istore_n 3, 1) := by decide +kernel
theorem dX5_netAt_22 : decode cX5_netAt 22 = .ok (.iload_n 2, 1) := by decide +kernel
theorem dX5_netAt_23 : decode cX5_netAt 23 = .ok (.iload_n 3, 1) := by decide +kernel
theorem dX5_netAt_24 : decode cX5_netAt 24 = .ok (.invokestatic 133, 3) := by decide +kernel
theorem dX5_netAt_27 : decode cX5_netAt 27 = .ok (.aload_n 0, 1) := by decide +kernel
theorem dX5_netAt_28 : decode cX5_netAt 28 = .ok (.getfield 77, 3) := by decide +kernel
theorem dX5_netAt_31 : decode cX5_netAt 31 = .ok (.iload_n 1, 1) := by decide +kernel
theorem dX5_netAt_32 : decode cX5_netAt 32 = .ok (.invokevirtual 129, 3) := by decide +kernel
theorem dX5_netAt_35 : decode cX5_netAt 35 = .ok (.iload_n 2, 1) := by decide +kernel
theorem dX5_netAt_36 : decode cX5_netAt 36 = .ok (.iaload, 1) := by decide +kernel
theorem dX5_netAt_37 : decode cX5_netAt 37 = .ok (.ireturn, 1) := by decide +kernel
theorem dX5_moveTo_0 : decode cX5_moveTo 0 = .ok (.aload_n 1, 1) := by decide +kernel
theorem dX5_moveTo_1 : decode cX5_moveTo 1 = .ok (.iload_n 2, 1) := by decide +kernel
theorem dX5_moveTo_2 : decode cX5_moveTo 2 = .ok (.iload_n 3, 1) := by decide +kernel
theorem dX5_moveTo_3 : decode cX5_moveTo 3 = .ok (.invokestatic 125, 3) := by decide +kernel
theorem dX5_moveTo_6 : decode cX5_moveTo 6 = .ok (.iload_n 0, 1) := by decide +kernel
theorem dX5_moveTo_7 : decode cX5_moveTo 7 = .ok (.if_icmp .ne 5, 3) := by decide +kernel
theorem dX5_moveTo_10 : decode cX5_moveTo 10 = .ok (.iconst 0, 1) := by decide +kernel
theorem dX5_moveTo_11 : decode cX5_moveTo 11 = .ok (.ireturn, 1) := by decide +kernel
theorem dX5_moveTo_12 : decode cX5_moveTo 12 = .ok (.aload_n 1, 1) := by decide +kernel
theorem dX5_moveTo_13 : decode cX5_moveTo 13 = .ok (.invokestatic 88, 3) := by decide +kernel
theorem dX5_moveTo_16 : decode cX5_moveTo 16 = .ok (.iload_n 2, 1) := by decide +kernel
theorem dX5_moveTo_17 : decode cX5_moveTo 17 = .ok (.invokevirtual 129, 3) := by decide +kernel
theorem dX5_moveTo_20 : decode cX5_moveTo 20 = .ok (.iload_n 3, 1) := by decide +kernel
theorem dX5_moveTo_21 : decode cX5_moveTo 21 = .ok (.iload_n 0, 1) := by decide +kernel
theorem dX5_moveTo_22 : decode cX5_moveTo 22 = .ok (.iastore, 1) := by decide +kernel
theorem dX5_moveTo_23 : decode cX5_moveTo 23 = .ok (.iconst 1, 1) := by decide +kernel
theorem dX5_moveTo_24 : decode cX5_moveTo 24 = .ok (.ireturn, 1) := by decide +kernel
theorem dX5_placeOf_0 : decode cX5_placeOf 0 = .ok (.iload_n 2, 1) := by decide +kernel
theorem dX5_placeOf_1 : decode cX5_placeOf 1 = .ok (.istore_n 3, 1) := by decide +kernel
theorem dX5_placeOf_2 : decode cX5_placeOf 2 = .ok (.iconst (-1), 1) := by decide +kernel
theorem dX5_placeOf_3 : decode cX5_placeOf 3 = .ok (.istore 4, 2) := by decide +kernel
theorem dX5_placeOf_5 : decode cX5_placeOf 5 = .ok (.iload 4, 2) := by decide +kernel
theorem dX5_placeOf_7 : decode cX5_placeOf 7 = .ok (.aload_n 0, 1) := by decide +kernel
theorem dX5_placeOf_8 : decode cX5_placeOf 8 = .ok (.getfield 81, 3) := by decide +kernel
theorem dX5_placeOf_11 : decode cX5_placeOf 11 = .ok (.if_icmp .ge 62, 3) := by decide +kernel
theorem dX5_placeOf_14 : decode cX5_placeOf 14 = .ok (.aload_n 0, 1) := by decide +kernel
theorem dX5_placeOf_15 : decode cX5_placeOf 15 = .ok (.iload 4, 2) := by decide +kernel
theorem dX5_placeOf_17 : decode cX5_placeOf 17 = .ok (.invokevirtual 129, 3) := by decide +kernel
theorem dX5_placeOf_20 : decode cX5_placeOf 20 = .ok (.astore 5, 2) := by decide +kernel
theorem dX5_placeOf_22 : decode cX5_placeOf 22 = .ok (.iconst 0, 1) := by decide +kernel
theorem dX5_placeOf_23 : decode cX5_placeOf 23 = .ok (.istore 6, 2) := by decide +kernel
theorem dX5_placeOf_25 : decode cX5_placeOf 25 = .ok (.iload 6, 2) := by decide +kernel
theorem dX5_placeOf_27 : decode cX5_placeOf 27 = .ok (.aload 5, 2) := by decide +kernel
theorem dX5_placeOf_29 : decode cX5_placeOf 29 = .ok (.arraylength, 1) := by decide +kernel
theorem dX5_placeOf_30 : decode cX5_placeOf 30 = .ok (.if_icmp .ge 37, 3) := by decide +kernel
theorem dX5_placeOf_33 : decode cX5_placeOf 33 = .ok (.aload 5, 2) := by decide +kernel
theorem dX5_placeOf_35 : decode cX5_placeOf 35 = .ok (.iload 6, 2) := by decide +kernel
theorem dX5_placeOf_37 : decode cX5_placeOf 37 = .ok (.iaload, 1) := by decide +kernel
theorem dX5_placeOf_38 : decode cX5_placeOf 38 = .ok (.iload_n 1, 1) := by decide +kernel
theorem dX5_placeOf_39 : decode cX5_placeOf 39 = .ok (.if_icmp .ne 22, 3) := by decide +kernel
theorem dX5_placeOf_42 : decode cX5_placeOf 42 = .ok (.iload_n 3, 1) := by decide +kernel
theorem dX5_placeOf_43 : decode cX5_placeOf 43 = .ok (.ifCond .ne 15, 3) := by decide +kernel
theorem dX5_placeOf_46 : decode cX5_placeOf 46 = .ok (.iload 4, 2) := by decide +kernel
theorem dX5_placeOf_48 : decode cX5_placeOf 48 = .ok (.iconst 1, 1) := by decide +kernel
theorem dX5_placeOf_49 : decode cX5_placeOf 49 = .ok (.iadd, 1) := by decide +kernel
theorem dX5_placeOf_50 : decode cX5_placeOf 50 = .ok (.sipush 128, 3) := by decide +kernel
theorem dX5_placeOf_53 : decode cX5_placeOf 53 = .ok (.imul, 1) := by decide +kernel
theorem dX5_placeOf_54 : decode cX5_placeOf 54 = .ok (.iload 6, 2) := by decide +kernel
theorem dX5_placeOf_56 : decode cX5_placeOf 56 = .ok (.iadd, 1) := by decide +kernel
theorem dX5_placeOf_57 : decode cX5_placeOf 57 = .ok (.ireturn, 1) := by decide +kernel
theorem dX5_placeOf_58 : decode cX5_placeOf 58 = .ok (.iinc 3 (-1), 3) := by decide +kernel
theorem dX5_placeOf_61 : decode cX5_placeOf 61 = .ok (.iinc 6 1, 3) := by decide +kernel
theorem dX5_placeOf_64 : decode cX5_placeOf 64 = .ok (.goto (-39), 3) := by decide +kernel
theorem dX5_placeOf_67 : decode cX5_placeOf 67 = .ok (.iinc 4 1, 3) := by decide +kernel
theorem dX5_placeOf_70 : decode cX5_placeOf 70 = .ok (.goto (-65), 3) := by decide +kernel
theorem dX5_placeOf_73 : decode cX5_placeOf 73 = .ok (.iconst (-1), 1) := by decide +kernel
theorem dX5_placeOf_74 : decode cX5_placeOf 74 = .ok (.ireturn, 1) := by decide +kernel
theorem dX5_isDriver_0 : decode cX5_isDriver 0 = .ok (.iload_n 1, 1) := by decide +kernel
theorem dX5_isDriver_1 : decode cX5_isDriver 1 = .ok (.iconst (-1), 1) := by decide +kernel
theorem dX5_isDriver_2 : decode cX5_isDriver 2 = .ok (.if_icmp .ne 20, 3) := by decide +kernel
theorem dX5_isDriver_5 : decode cX5_isDriver 5 = .ok (.aload_n 0, 1) := by decide +kernel
theorem dX5_isDriver_6 : decode cX5_isDriver 6 = .ok (.getfield 223, 3) := by decide +kernel
theorem dX5_isDriver_9 : decode cX5_isDriver 9 = .ok (.iload_n 2, 1) := by decide +kernel
theorem dX5_isDriver_10 : decode cX5_isDriver 10 = .ok (.baload, 1) := by decide +kernel
theorem dX5_isDriver_11 : decode cX5_isDriver 11 = .ok (.ifCond .ne 7, 3) := by decide +kernel
theorem dX5_isDriver_14 : decode cX5_isDriver 14 = .ok (.iconst 1, 1) := by decide +kernel
theorem dX5_isDriver_15 : decode cX5_isDriver 15 = .ok (.goto 24, 3) := by decide +kernel
theorem dX5_isDriver_18 : decode cX5_isDriver 18 = .ok (.iconst 0, 1) := by decide +kernel
theorem dX5_isDriver_19 : decode cX5_isDriver 19 = .ok (.goto 20, 3) := by decide +kernel
theorem dX5_isDriver_22 : decode cX5_isDriver 22 = .ok (.aload_n 0, 1) := by decide +kernel
theorem dX5_isDriver_23 : decode cX5_isDriver 23 = .ok (.getfield 77, 3) := by decide +kernel
theorem dX5_isDriver_26 : decode cX5_isDriver 26 = .ok (.getfield 209, 3) := by decide +kernel
theorem dX5_isDriver_29 : decode cX5_isDriver 29 = .ok (.iload_n 1, 1) := by decide +kernel
theorem dX5_isDriver_30 : decode cX5_isDriver 30 = .ok (.aaload, 1) := by decide +kernel
theorem dX5_isDriver_31 : decode cX5_isDriver 31 = .ok (.getfield 205, 3) := by decide +kernel
theorem dX5_isDriver_34 : decode cX5_isDriver 34 = .ok (.getfield 223, 3) := by decide +kernel
theorem dX5_isDriver_37 : decode cX5_isDriver 37 = .ok (.iload_n 2, 1) := by decide +kernel
theorem dX5_isDriver_38 : decode cX5_isDriver 38 = .ok (.baload, 1) := by decide +kernel
theorem dX5_isDriver_39 : decode cX5_isDriver 39 = .ok (.ireturn, 1) := by decide +kernel
theorem dX5_tally_0 : decode cX5_tally 0 = .ok (.aload_n 0, 1) := by decide +kernel
theorem dX5_tally_1 : decode cX5_tally 1 = .ok (.getfield 37, 3) := by decide +kernel
theorem dX5_tally_4 : decode cX5_tally 4 = .ok (.iconst 0, 1) := by decide +kernel
theorem dX5_tally_5 : decode cX5_tally 5 = .ok (.invokestatic 95, 3) := by decide +kernel
theorem dX5_tally_8 : decode cX5_tally 8 = .ok (.aload_n 0, 1) := by decide +kernel
theorem dX5_tally_9 : decode cX5_tally 9 = .ok (.getfield 40, 3) := by decide +kernel
theorem dX5_tally_12 : decode cX5_tally 12 = .ok (.iconst 0, 1) := by decide +kernel
theorem dX5_tally_13 : decode cX5_tally 13 = .ok (.invokestatic 95, 3) := by decide +kernel
theorem dX5_tally_16 : decode cX5_tally 16 = .ok (.iconst (-1), 1) := by decide +kernel
theorem dX5_tally_17 : decode cX5_tally 17 = .ok (.istore_n 2, 1) := by decide +kernel
theorem dX5_tally_18 : decode cX5_tally 18 = .ok (.iload_n 2, 1) := by decide +kernel
theorem dX5_tally_19 : decode cX5_tally 19 = .ok (.aload_n 1, 1) := by decide +kernel
theorem dX5_tally_20 : decode cX5_tally 20 = .ok (.getfield 77, 3) := by decide +kernel
theorem dX5_tally_23 : decode cX5_tally 23 = .ok (.getfield 81, 3) := by decide +kernel
theorem dX5_tally_26 : decode cX5_tally 26 = .ok (.if_icmp .ge 82, 3) := by decide +kernel
theorem dX5_tally_29 : decode cX5_tally 29 = .ok (.aload_n 1, 1) := by decide +kernel
theorem dX5_tally_30 : decode cX5_tally 30 = .ok (.getfield 77, 3) := by decide +kernel
theorem dX5_tally_33 : decode cX5_tally 33 = .ok (.iload_n 2, 1) := by decide +kernel
theorem dX5_tally_34 : decode cX5_tally 34 = .ok (.invokevirtual 129, 3) := by decide +kernel
theorem dX5_tally_37 : decode cX5_tally 37 = .ok (.astore_n 3, 1) := by decide +kernel
theorem dX5_tally_38 : decode cX5_tally 38 = .ok (.iconst 0, 1) := by decide +kernel
theorem dX5_tally_39 : decode cX5_tally 39 = .ok (.istore 4, 2) := by decide +kernel
theorem dX5_tally_41 : decode cX5_tally 41 = .ok (.iload 4, 2) := by decide +kernel
theorem dX5_tally_43 : decode cX5_tally 43 = .ok (.aload_n 3, 1) := by decide +kernel
theorem dX5_tally_44 : decode cX5_tally 44 = .ok (.arraylength, 1) := by decide +kernel
theorem dX5_tally_45 : decode cX5_tally 45 = .ok (.if_icmp .ge 57, 3) := by decide +kernel
theorem dX5_tally_48 : decode cX5_tally 48 = .ok (.aload_n 3, 1) := by decide +kernel
theorem dX5_tally_49 : decode cX5_tally 49 = .ok (.iload 4, 2) := by decide +kernel
theorem dX5_tally_51 : decode cX5_tally 51 = .ok (.iaload, 1) := by decide +kernel
theorem dX5_tally_52 : decode cX5_tally 52 = .ok (.iconst (-1), 1) := by decide +kernel
theorem dX5_tally_53 : decode cX5_tally 53 = .ok (.if_icmp .eq 43, 3) := by decide +kernel
theorem dX5_tally_56 : decode cX5_tally 56 = .ok (.aload_n 0, 1) := by decide +kernel
theorem dX5_tally_57 : decode cX5_tally 57 = .ok (.getfield 37, 3) := by decide +kernel
theorem dX5_tally_60 : decode cX5_tally 60 = .ok (.aload_n 3, 1) := by decide +kernel
theorem dX5_tally_61 : decode cX5_tally 61 = .ok (.iload 4, 2) := by decide +kernel
theorem dX5_tally_63 : decode cX5_tally 63 = .ok (.iaload, 1) := by decide +kernel
theorem dX5_tally_64 : decode cX5_tally 64 = .ok (.dup2, 1) := by decide +kernel
theorem dX5_tally_65 : decode cX5_tally 65 = .ok (.iaload, 1) := by decide +kernel
theorem dX5_tally_66 : decode cX5_tally 66 = .ok (.iconst 1, 1) := by decide +kernel
theorem dX5_tally_67 : decode cX5_tally 67 = .ok (.iadd, 1) := by decide +kernel
theorem dX5_tally_68 : decode cX5_tally 68 = .ok (.iastore, 1) := by decide +kernel
theorem dX5_tally_69 : decode cX5_tally 69 = .ok (.aload_n 0, 1) := by decide +kernel
theorem dX5_tally_70 : decode cX5_tally 70 = .ok (.getfield 40, 3) := by decide +kernel
theorem dX5_tally_73 : decode cX5_tally 73 = .ok (.aload_n 3, 1) := by decide +kernel
theorem dX5_tally_74 : decode cX5_tally 74 = .ok (.iload 4, 2) := by decide +kernel
theorem dX5_tally_76 : decode cX5_tally 76 = .ok (.iaload, 1) := by decide +kernel
theorem dX5_tally_77 : decode cX5_tally 77 = .ok (.dup2, 1) := by decide +kernel
theorem dX5_tally_78 : decode cX5_tally 78 = .ok (.iaload, 1) := by decide +kernel
theorem dX5_tally_79 : decode cX5_tally 79 = .ok (.aload_n 1, 1) := by decide +kernel
theorem dX5_tally_80 : decode cX5_tally 80 = .ok (.iload_n 2, 1) := by decide +kernel
theorem dX5_tally_81 : decode cX5_tally 81 = .ok (.iload 4, 2) := by decide +kernel
theorem dX5_tally_83 : decode cX5_tally 83 = .ok (.invokestatic 144, 3) := by decide +kernel
theorem dX5_tally_86 : decode cX5_tally 86 = .ok (.ifCond .eq 7, 3) := by decide +kernel
theorem dX5_tally_89 : decode cX5_tally 89 = .ok (.iconst 1, 1) := by decide +kernel
theorem dX5_tally_90 : decode cX5_tally 90 = .ok (.goto 4, 3) := by decide +kernel
theorem dX5_tally_93 : decode cX5_tally 93 = .ok (.iconst 0, 1) := by decide +kernel
theorem dX5_tally_94 : decode cX5_tally 94 = .ok (.iadd, 1) := by decide +kernel
theorem dX5_tally_95 : decode cX5_tally 95 = .ok (.iastore, 1) := by decide +kernel
theorem dX5_tally_96 : decode cX5_tally 96 = .ok (.iinc 4 1, 3) := by decide +kernel
theorem dX5_tally_99 : decode cX5_tally 99 = .ok (.goto (-58), 3) := by decide +kernel
theorem dX5_tally_102 : decode cX5_tally 102 = .ok (.iinc 2 1, 3) := by decide +kernel
theorem dX5_tally_105 : decode cX5_tally 105 = .ok (.goto (-87), 3) := by decide +kernel
theorem dX5_tally_108 : decode cX5_tally 108 = .ok (.return_, 1) := by decide +kernel
theorem dX5_tallied_0 : decode cX5_tallied 0 = .ok (.iload_n 2, 1) := by decide +kernel
theorem dX5_tallied_1 : decode cX5_tallied 1 = .ok (.ifCond .ge 11, 3) := by decide +kernel
theorem dX5_tallied_4 : decode cX5_tallied 4 = .ok (.new 141, 3) := by decide +kernel
theorem dX5_tallied_7 : decode cX5_tallied 7 = .ok (.dup, 1) := by decide +kernel
theorem dX5_tallied_8 : decode cX5_tallied 8 = .ok (.invokespecial 143, 3) := by decide +kernel
theorem dX5_tallied_11 : decode cX5_tallied 11 = .ok (.athrow, 1) := by decide +kernel
theorem dX5_tallied_12 : decode cX5_tallied 12 = .ok (.aload_n 0, 1) := by decide +kernel
theorem dX5_tallied_13 : decode cX5_tallied 13 = .ok (.aload_n 1, 1) := by decide +kernel
theorem dX5_tallied_14 : decode cX5_tallied 14 = .ok (.invokevirtual 227, 3) := by decide +kernel
theorem dX5_tallied_17 : decode cX5_tallied 17 = .ok (.iload_n 2, 1) := by decide +kernel
theorem dX5_tallied_18 : decode cX5_tallied 18 = .ok (.istore 4, 2) := by decide +kernel
theorem dX5_tallied_20 : decode cX5_tallied 20 = .ok (.iconst 0, 1) := by decide +kernel
theorem dX5_tallied_21 : decode cX5_tallied 21 = .ok (.istore 5, 2) := by decide +kernel
theorem dX5_tallied_23 : decode cX5_tallied 23 = .ok (.iload 5, 2) := by decide +kernel
theorem dX5_tallied_25 : decode cX5_tallied 25 = .ok (.aload_n 1, 1) := by decide +kernel
theorem dX5_tallied_26 : decode cX5_tallied 26 = .ok (.getfield 77, 3) := by decide +kernel
theorem dX5_tallied_29 : decode cX5_tallied 29 = .ok (.getfield 110, 3) := by decide +kernel
theorem dX5_tallied_32 : decode cX5_tallied 32 = .ok (.if_icmp .ge 70, 3) := by decide +kernel
theorem dX5_tallied_35 : decode cX5_tallied 35 = .ok (.aload_n 0, 1) := by decide +kernel
theorem dX5_tallied_36 : decode cX5_tallied 36 = .ok (.getfield 37, 3) := by decide +kernel
theorem dX5_tallied_39 : decode cX5_tallied 39 = .ok (.iload 5, 2) := by decide +kernel
theorem dX5_tallied_41 : decode cX5_tallied 41 = .ok (.iaload, 1) := by decide +kernel
theorem dX5_tallied_42 : decode cX5_tallied 42 = .ok (.ifCond .le 17, 3) := by decide +kernel
theorem dX5_tallied_45 : decode cX5_tallied 45 = .ok (.aload_n 0, 1) := by decide +kernel
theorem dX5_tallied_46 : decode cX5_tallied 46 = .ok (.getfield 40, 3) := by decide +kernel
theorem dX5_tallied_49 : decode cX5_tallied 49 = .ok (.iload 5, 2) := by decide +kernel
theorem dX5_tallied_51 : decode cX5_tallied 51 = .ok (.iaload, 1) := by decide +kernel
theorem dX5_tallied_52 : decode cX5_tallied 52 = .ok (.ifCond .ne 7, 3) := by decide +kernel
theorem dX5_tallied_55 : decode cX5_tallied 55 = .ok (.iconst 1, 1) := by decide +kernel
theorem dX5_tallied_56 : decode cX5_tallied 56 = .ok (.goto 4, 3) := by decide +kernel
theorem dX5_tallied_59 : decode cX5_tallied 59 = .ok (.iconst 0, 1) := by decide +kernel
theorem dX5_tallied_60 : decode cX5_tallied 60 = .ok (.istore 6, 2) := by decide +kernel
theorem dX5_tallied_62 : decode cX5_tallied 62 = .ok (.iload_n 3, 1) := by decide +kernel
theorem dX5_tallied_63 : decode cX5_tallied 63 = .ok (.ifCond .eq 17, 3) := by decide +kernel
theorem dX5_tallied_66 : decode cX5_tallied 66 = .ok (.aload_n 0, 1) := by decide +kernel
theorem dX5_tallied_67 : decode cX5_tallied 67 = .ok (.getfield 40, 3) := by decide +kernel
theorem dX5_tallied_70 : decode cX5_tallied 70 = .ok (.iload 5, 2) := by decide +kernel
theorem dX5_tallied_72 : decode cX5_tallied 72 = .ok (.iaload, 1) := by decide +kernel
theorem dX5_tallied_73 : decode cX5_tallied 73 = .ok (.iconst 2, 1) := by decide +kernel
theorem dX5_tallied_74 : decode cX5_tallied 74 = .ok (.if_icmp .lt 22, 3) := by decide +kernel
theorem dX5_tallied_77 : decode cX5_tallied 77 = .ok (.goto 8, 3) := by decide +kernel
theorem dX5_tallied_80 : decode cX5_tallied 80 = .ok (.iload 6, 2) := by decide +kernel
theorem dX5_tallied_82 : decode cX5_tallied 82 = .ok (.ifCond .eq 14, 3) := by decide +kernel
theorem dX5_tallied_85 : decode cX5_tallied 85 = .ok (.iload 4, 2) := by decide +kernel
theorem dX5_tallied_87 : decode cX5_tallied 87 = .ok (.ifCond .ne 6, 3) := by decide +kernel
theorem dX5_tallied_90 : decode cX5_tallied 90 = .ok (.iload 5, 2) := by decide +kernel
theorem dX5_tallied_92 : decode cX5_tallied 92 = .ok (.ireturn, 1) := by decide +kernel
theorem dX5_tallied_93 : decode cX5_tallied 93 = .ok (.iinc 4 (-1), 3) := by decide +kernel
theorem dX5_tallied_96 : decode cX5_tallied 96 = .ok (.iinc 5 1, 3) := by decide +kernel
theorem dX5_tallied_99 : decode cX5_tallied 99 = .ok (.goto (-76), 3) := by decide +kernel
theorem dX5_tallied_102 : decode cX5_tallied 102 = .ok (.iconst (-1), 1) := by decide +kernel
theorem dX5_tallied_103 : decode cX5_tallied 103 = .ok (.ireturn, 1) := by decide +kernel
theorem dX5_putBehindParts_0 : decode cX5_putBehindParts 0 = .ok (.iload_n 2, 1) := by decide +kernel
theorem dX5_putBehindParts_1 : decode cX5_putBehindParts 1 = .ok (.bipush 24, 2) := by decide +kernel
theorem dX5_putBehindParts_3 : decode cX5_putBehindParts 3 = .ok (.if_icmp .ge 15, 3) := by decide +kernel
theorem dX5_putBehindParts_6 : decode cX5_putBehindParts 6 = .ok (.aload_n 1, 1) := by decide +kernel
theorem dX5_putBehindParts_7 : decode cX5_putBehindParts 7 = .ok (.getfield 230, 3) := by decide +kernel
theorem dX5_putBehindParts_10 : decode cX5_putBehindParts 10 = .ok (.aload_n 0, 1) := by decide +kernel
theorem dX5_putBehindParts_11 : decode cX5_putBehindParts 11 = .ok (.getfield 53, 3) := by decide +kernel
theorem dX5_putBehindParts_14 : decode cX5_putBehindParts 14 = .ok (.baload, 1) := by decide +kernel
theorem dX5_putBehindParts_15 : decode cX5_putBehindParts 15 = .ok (.ifCond .eq 4, 3) := by decide +kernel
theorem dX5_putBehindParts_18 : decode cX5_putBehindParts 18 = .ok (.return_, 1) := by decide +kernel
theorem dX5_putBehindParts_19 : decode cX5_putBehindParts 19 = .ok (.aload_n 1, 1) := by decide +kernel
theorem dX5_putBehindParts_20 : decode cX5_putBehindParts 20 = .ok (.getfield 230, 3) := by decide +kernel
theorem dX5_putBehindParts_23 : decode cX5_putBehindParts 23 = .ok (.aload_n 0, 1) := by decide +kernel
theorem dX5_putBehindParts_24 : decode cX5_putBehindParts 24 = .ok (.getfield 53, 3) := by decide +kernel
theorem dX5_putBehindParts_27 : decode cX5_putBehindParts 27 = .ok (.iconst 1, 1) := by decide +kernel
theorem dX5_putBehindParts_28 : decode cX5_putBehindParts 28 = .ok (.bastore, 1) := by decide +kernel
theorem dX5_putBehindParts_29 : decode cX5_putBehindParts 29 = .ok (.iconst 0, 1) := by decide +kernel
theorem dX5_putBehindParts_30 : decode cX5_putBehindParts 30 = .ok (.istore_n 3, 1) := by decide +kernel
theorem dX5_putBehindParts_31 : decode cX5_putBehindParts 31 = .ok (.iload_n 3, 1) := by decide +kernel
theorem dX5_putBehindParts_32 : decode cX5_putBehindParts 32 = .ok (.aload_n 0, 1) := by decide +kernel
theorem dX5_putBehindParts_33 : decode cX5_putBehindParts 33 = .ok (.getfield 77, 3) := by decide +kernel
theorem dX5_putBehindParts_36 : decode cX5_putBehindParts 36 = .ok (.getfield 81, 3) := by decide +kernel
theorem dX5_putBehindParts_39 : decode cX5_putBehindParts 39 = .ok (.if_icmp .ge 28, 3) := by decide +kernel
theorem dX5_putBehindParts_42 : decode cX5_putBehindParts 42 = .ok (.aload_n 0, 1) := by decide +kernel
theorem dX5_putBehindParts_43 : decode cX5_putBehindParts 43 = .ok (.getfield 77, 3) := by decide +kernel
theorem dX5_putBehindParts_46 : decode cX5_putBehindParts 46 = .ok (.getfield 209, 3) := by decide +kernel
theorem dX5_putBehindParts_49 : decode cX5_putBehindParts 49 = .ok (.iload_n 3, 1) := by decide +kernel
theorem dX5_putBehindParts_50 : decode cX5_putBehindParts 50 = .ok (.aaload, 1) := by decide +kernel
theorem dX5_putBehindParts_51 : decode cX5_putBehindParts 51 = .ok (.getfield 205, 3) := by decide +kernel
theorem dX5_putBehindParts_54 : decode cX5_putBehindParts 54 = .ok (.aload_n 1, 1) := by decide +kernel
theorem dX5_putBehindParts_55 : decode cX5_putBehindParts 55 = .ok (.iload_n 2, 1) := by decide +kernel
theorem dX5_putBehindParts_56 : decode cX5_putBehindParts 56 = .ok (.iconst 1, 1) := by decide +kernel
theorem dX5_putBehindParts_57 : decode cX5_putBehindParts 57 = .ok (.iadd, 1) := by decide +kernel
theorem dX5_putBehindParts_58 : decode cX5_putBehindParts 58 = .ok (.invokestatic 195, 3) := by decide +kernel
theorem dX5_putBehindParts_61 : decode cX5_putBehindParts 61 = .ok (.iinc 3 1, 3) := by decide +kernel
theorem dX5_putBehindParts_64 : decode cX5_putBehindParts 64 = .ok (.goto (-33), 3) := by decide +kernel
theorem dX5_putBehindParts_67 : decode cX5_putBehindParts 67 = .ok (.aload_n 1, 1) := by decide +kernel
theorem dX5_putBehindParts_68 : decode cX5_putBehindParts 68 = .ok (.aload_n 0, 1) := by decide +kernel
theorem dX5_putBehindParts_69 : decode cX5_putBehindParts 69 = .ok (.invokevirtual 233, 3) := by decide +kernel
theorem dX5_putBehindParts_72 : decode cX5_putBehindParts 72 = .ok (.return_, 1) := by decide +kernel
theorem dX5_orderFrom_0 : decode cX5_orderFrom 0 = .ok (.aload_n 0, 1) := by decide +kernel
theorem dX5_orderFrom_1 : decode cX5_orderFrom 1 = .ok (.getfield 22, 3) := by decide +kernel
theorem dX5_orderFrom_4 : decode cX5_orderFrom 4 = .ok (.invokevirtual 194, 3) := by decide +kernel
theorem dX5_orderFrom_7 : decode cX5_orderFrom 7 = .ok (.aload_n 1, 1) := by decide +kernel
theorem dX5_orderFrom_8 : decode cX5_orderFrom 8 = .ok (.aload_n 0, 1) := by decide +kernel
theorem dX5_orderFrom_9 : decode cX5_orderFrom 9 = .ok (.getfield 22, 3) := by decide +kernel
theorem dX5_orderFrom_12 : decode cX5_orderFrom 12 = .ok (.iconst 0, 1) := by decide +kernel
theorem dX5_orderFrom_13 : decode cX5_orderFrom 13 = .ok (.invokestatic 195, 3) := by decide +kernel
theorem dX5_orderFrom_16 : decode cX5_orderFrom 16 = .ok (.return_, 1) := by decide +kernel
theorem dX5_isWithin_0 : decode cX5_isWithin 0 = .ok (.aload_n 0, 1) := by decide +kernel
theorem dX5_isWithin_1 : decode cX5_isWithin 1 = .ok (.aload_n 2, 1) := by decide +kernel
theorem dX5_isWithin_2 : decode cX5_isWithin 2 = .ok (.invokevirtual 236, 3) := by decide +kernel
theorem dX5_isWithin_5 : decode cX5_isWithin 5 = .ok (.aload_n 0, 1) := by decide +kernel
theorem dX5_isWithin_6 : decode cX5_isWithin 6 = .ok (.getfield 22, 3) := by decide +kernel
theorem dX5_isWithin_9 : decode cX5_isWithin 9 = .ok (.getfield 230, 3) := by decide +kernel
theorem dX5_isWithin_12 : decode cX5_isWithin 12 = .ok (.aload_n 1, 1) := by decide +kernel
theorem dX5_isWithin_13 : decode cX5_isWithin 13 = .ok (.getfield 53, 3) := by decide +kernel
theorem dX5_isWithin_16 : decode cX5_isWithin 16 = .ok (.baload, 1) := by decide +kernel
theorem dX5_isWithin_17 : decode cX5_isWithin 17 = .ok (.ireturn, 1) := by decide +kernel
theorem dX5_layersBelow_0 : decode cX5_layersBelow 0 = .ok (.aload_n 0, 1) := by decide +kernel
theorem dX5_layersBelow_1 : decode cX5_layersBelow 1 = .ok (.aload_n 1, 1) := by decide +kernel
theorem dX5_layersBelow_2 : decode cX5_layersBelow 2 = .ok (.invokevirtual 236, 3) := by decide +kernel
theorem dX5_layersBelow_5 : decode cX5_layersBelow 5 = .ok (.iconst 0, 1) := by decide +kernel
theorem dX5_layersBelow_6 : decode cX5_layersBelow 6 = .ok (.istore_n 2, 1) := by decide +kernel
theorem dX5_layersBelow_7 : decode cX5_layersBelow 7 = .ok (.iload_n 2, 1) := by decide +kernel
theorem dX5_layersBelow_8 : decode cX5_layersBelow 8 = .ok (.aload_n 0, 1) := by decide +kernel
theorem dX5_layersBelow_9 : decode cX5_layersBelow 9 = .ok (.getfield 22, 3) := by decide +kernel
theorem dX5_layersBelow_12 : decode cX5_layersBelow 12 = .ok (.getfield 239, 3) := by decide +kernel
theorem dX5_layersBelow_15 : decode cX5_layersBelow 15 = .ok (.if_icmp .ge 89, 3) := by decide +kernel
theorem dX5_layersBelow_18 : decode cX5_layersBelow 18 = .ok (.aload_n 0, 1) := by decide +kernel
theorem dX5_layersBelow_19 : decode cX5_layersBelow 19 = .ok (.getfield 22, 3) := by decide +kernel
theorem dX5_layersBelow_22 : decode cX5_layersBelow 22 = .ok (.getfield 242, 3) := by decide +kernel
theorem dX5_layersBelow_25 : decode cX5_layersBelow 25 = .ok (.iload_n 2, 1) := by decide +kernel
theorem dX5_layersBelow_26 : decode cX5_layersBelow 26 = .ok (.aaload, 1) := by decide +kernel
theorem dX5_layersBelow_27 : decode cX5_layersBelow 27 = .ok (.getfield 77, 3) := by decide +kernel
theorem dX5_layersBelow_30 : decode cX5_layersBelow 30 = .ok (.astore_n 3, 1) := by decide +kernel
theorem dX5_layersBelow_31 : decode cX5_layersBelow 31 = .ok (.iconst 0, 1) := by decide +kernel
theorem dX5_layersBelow_32 : decode cX5_layersBelow 32 = .ok (.istore 4, 2) := by decide +kernel
theorem dX5_layersBelow_34 : decode cX5_layersBelow 34 = .ok (.iconst 0, 1) := by decide +kernel
theorem dX5_layersBelow_35 : decode cX5_layersBelow 35 = .ok (.istore 5, 2) := by decide +kernel
theorem dX5_layersBelow_37 : decode cX5_layersBelow 37 = .ok (.iload 5, 2) := by decide +kernel
theorem dX5_layersBelow_39 : decode cX5_layersBelow 39 = .ok (.aload_n 3, 1) := by decide +kernel
theorem dX5_layersBelow_40 : decode cX5_layersBelow 40 = .ok (.getfield 81, 3) := by decide +kernel
theorem dX5_layersBelow_43 : decode cX5_layersBelow 43 = .ok (.if_icmp .ge 36, 3) := by decide +kernel
theorem dX5_layersBelow_46 : decode cX5_layersBelow 46 = .ok (.iload 4, 2) := by decide +kernel
theorem dX5_layersBelow_48 : decode cX5_layersBelow 48 = .ok (.iconst 1, 1) := by decide +kernel
theorem dX5_layersBelow_49 : decode cX5_layersBelow 49 = .ok (.aload_n 0, 1) := by decide +kernel
theorem dX5_layersBelow_50 : decode cX5_layersBelow 50 = .ok (.getfield 33, 3) := by decide +kernel
theorem dX5_layersBelow_53 : decode cX5_layersBelow 53 = .ok (.aload_n 3, 1) := by decide +kernel
theorem dX5_layersBelow_54 : decode cX5_layersBelow 54 = .ok (.getfield 209, 3) := by decide +kernel
theorem dX5_layersBelow_57 : decode cX5_layersBelow 57 = .ok (.iload 5, 2) := by decide +kernel
theorem dX5_layersBelow_59 : decode cX5_layersBelow 59 = .ok (.aaload, 1) := by decide +kernel
theorem dX5_layersBelow_60 : decode cX5_layersBelow 60 = .ok (.getfield 205, 3) := by decide +kernel
theorem dX5_layersBelow_63 : decode cX5_layersBelow 63 = .ok (.getfield 53, 3) := by decide +kernel
theorem dX5_layersBelow_66 : decode cX5_layersBelow 66 = .ok (.iaload, 1) := by decide +kernel
theorem dX5_layersBelow_67 : decode cX5_layersBelow 67 = .ok (.iadd, 1) := by decide +kernel
theorem dX5_layersBelow_68 : decode cX5_layersBelow 68 = .ok (.invokestatic 245, 3) := by decide +kernel
theorem dX5_layersBelow_71 : decode cX5_layersBelow 71 = .ok (.istore 4, 2) := by decide +kernel
theorem dX5_layersBelow_73 : decode cX5_layersBelow 73 = .ok (.iinc 5 1, 3) := by decide +kernel
theorem dX5_layersBelow_76 : decode cX5_layersBelow 76 = .ok (.goto (-39), 3) := by decide +kernel
theorem dX5_layersBelow_79 : decode cX5_layersBelow 79 = .ok (.aload_n 0, 1) := by decide +kernel
theorem dX5_layersBelow_80 : decode cX5_layersBelow 80 = .ok (.getfield 33, 3) := by decide +kernel
theorem dX5_layersBelow_83 : decode cX5_layersBelow 83 = .ok (.aload_n 0, 1) := by decide +kernel
theorem dX5_layersBelow_84 : decode cX5_layersBelow 84 = .ok (.getfield 22, 3) := by decide +kernel
theorem dX5_layersBelow_87 : decode cX5_layersBelow 87 = .ok (.getfield 242, 3) := by decide +kernel
theorem dX5_layersBelow_90 : decode cX5_layersBelow 90 = .ok (.iload_n 2, 1) := by decide +kernel
theorem dX5_layersBelow_91 : decode cX5_layersBelow 91 = .ok (.aaload, 1) := by decide +kernel
theorem dX5_layersBelow_92 : decode cX5_layersBelow 92 = .ok (.getfield 53, 3) := by decide +kernel
theorem dX5_layersBelow_95 : decode cX5_layersBelow 95 = .ok (.iload 4, 2) := by decide +kernel
theorem dX5_layersBelow_97 : decode cX5_layersBelow 97 = .ok (.iastore, 1) := by decide +kernel
theorem dX5_layersBelow_98 : decode cX5_layersBelow 98 = .ok (.iinc 2 1, 3) := by decide +kernel
theorem dX5_layersBelow_101 : decode cX5_layersBelow 101 = .ok (.goto (-94), 3) := by decide +kernel
theorem dX5_layersBelow_104 : decode cX5_layersBelow 104 = .ok (.aload_n 0, 1) := by decide +kernel
theorem dX5_layersBelow_105 : decode cX5_layersBelow 105 = .ok (.getfield 33, 3) := by decide +kernel
theorem dX5_layersBelow_108 : decode cX5_layersBelow 108 = .ok (.aload_n 1, 1) := by decide +kernel
theorem dX5_layersBelow_109 : decode cX5_layersBelow 109 = .ok (.getfield 53, 3) := by decide +kernel
theorem dX5_layersBelow_112 : decode cX5_layersBelow 112 = .ok (.iaload, 1) := by decide +kernel
theorem dX5_layersBelow_113 : decode cX5_layersBelow 113 = .ok (.ireturn, 1) := by decide +kernel
theorem dX5_leavesIn_0 : decode cX5_leavesIn 0 = .ok (.aload_n 0, 1) := by decide +kernel
theorem dX5_leavesIn_1 : decode cX5_leavesIn 1 = .ok (.aload_n 1, 1) := by decide +kernel
theorem dX5_leavesIn_2 : decode cX5_leavesIn 2 = .ok (.invokevirtual 236, 3) := by decide +kernel
theorem dX5_leavesIn_5 : decode cX5_leavesIn 5 = .ok (.iconst 0, 1) := by decide +kernel
theorem dX5_leavesIn_6 : decode cX5_leavesIn 6 = .ok (.istore_n 2, 1) := by decide +kernel
theorem dX5_leavesIn_7 : decode cX5_leavesIn 7 = .ok (.iload_n 2, 1) := by decide +kernel
theorem dX5_leavesIn_8 : decode cX5_leavesIn 8 = .ok (.aload_n 0, 1) := by decide +kernel
theorem dX5_leavesIn_9 : decode cX5_leavesIn 9 = .ok (.getfield 22, 3) := by decide +kernel
theorem dX5_leavesIn_12 : decode cX5_leavesIn 12 = .ok (.getfield 239, 3) := by decide +kernel
theorem dX5_leavesIn_15 : decode cX5_leavesIn 15 = .ok (.if_icmp .ge 101, 3) := by decide +kernel
theorem dX5_leavesIn_18 : decode cX5_leavesIn 18 = .ok (.aload_n 0, 1) := by decide +kernel
theorem dX5_leavesIn_19 : decode cX5_leavesIn 19 = .ok (.getfield 22, 3) := by decide +kernel
theorem dX5_leavesIn_22 : decode cX5_leavesIn 22 = .ok (.getfield 242, 3) := by decide +kernel
theorem dX5_leavesIn_25 : decode cX5_leavesIn 25 = .ok (.iload_n 2, 1) := by decide +kernel
theorem dX5_leavesIn_26 : decode cX5_leavesIn 26 = .ok (.aaload, 1) := by decide +kernel
theorem dX5_leavesIn_27 : decode cX5_leavesIn 27 = .ok (.getfield 77, 3) := by decide +kernel
theorem dX5_leavesIn_30 : decode cX5_leavesIn 30 = .ok (.astore_n 3, 1) := by decide +kernel
theorem dX5_leavesIn_31 : decode cX5_leavesIn 31 = .ok (.aload_n 3, 1) := by decide +kernel
theorem dX5_leavesIn_32 : decode cX5_leavesIn 32 = .ok (.invokevirtual 251, 3) := by decide +kernel
theorem dX5_leavesIn_35 : decode cX5_leavesIn 35 = .ok (.ifCond .eq 7, 3) := by decide +kernel
theorem dX5_leavesIn_38 : decode cX5_leavesIn 38 = .ok (.iconst 1, 1) := by decide +kernel
theorem dX5_leavesIn_39 : decode cX5_leavesIn 39 = .ok (.goto 4, 3) := by decide +kernel
theorem dX5_leavesIn_42 : decode cX5_leavesIn 42 = .ok (.iconst 0, 1) := by decide +kernel
theorem dX5_leavesIn_43 : decode cX5_leavesIn 43 = .ok (.istore 4, 2) := by decide +kernel
theorem dX5_leavesIn_45 : decode cX5_leavesIn 45 = .ok (.iconst 0, 1) := by decide +kernel
theorem dX5_leavesIn_46 : decode cX5_leavesIn 46 = .ok (.istore 5, 2) := by decide +kernel
theorem dX5_leavesIn_48 : decode cX5_leavesIn 48 = .ok (.iload 5, 2) := by decide +kernel
theorem dX5_leavesIn_50 : decode cX5_leavesIn 50 = .ok (.aload_n 3, 1) := by decide +kernel
theorem dX5_leavesIn_51 : decode cX5_leavesIn 51 = .ok (.getfield 81, 3) := by decide +kernel
theorem dX5_leavesIn_54 : decode cX5_leavesIn 54 = .ok (.if_icmp .ge 32, 3) := by decide +kernel
theorem dX5_leavesIn_57 : decode cX5_leavesIn 57 = .ok (.iload 4, 2) := by decide +kernel
theorem dX5_leavesIn_59 : decode cX5_leavesIn 59 = .ok (.aload_n 0, 1) := by decide +kernel
theorem dX5_leavesIn_60 : decode cX5_leavesIn 60 = .ok (.getfield 33, 3) := by decide +kernel
theorem dX5_leavesIn_63 : decode cX5_leavesIn 63 = .ok (.aload_n 3, 1) := by decide +kernel
theorem dX5_leavesIn_64 : decode cX5_leavesIn 64 = .ok (.getfield 209, 3) := by decide +kernel
theorem dX5_leavesIn_67 : decode cX5_leavesIn 67 = .ok (.iload 5, 2) := by decide +kernel
theorem dX5_leavesIn_69 : decode cX5_leavesIn 69 = .ok (.aaload, 1) := by decide +kernel
theorem dX5_leavesIn_70 : decode cX5_leavesIn 70 = .ok (.getfield 205, 3) := by decide +kernel
theorem dX5_leavesIn_73 : decode cX5_leavesIn 73 = .ok (.getfield 53, 3) := by decide +kernel
theorem dX5_leavesIn_76 : decode cX5_leavesIn 76 = .ok (.iaload, 1) := by decide +kernel
theorem dX5_leavesIn_77 : decode cX5_leavesIn 77 = .ok (.iadd, 1) := by decide +kernel
theorem dX5_leavesIn_78 : decode cX5_leavesIn 78 = .ok (.istore 4, 2) := by decide +kernel
theorem dX5_leavesIn_80 : decode cX5_leavesIn 80 = .ok (.iinc 5 1, 3) := by decide +kernel
theorem dX5_leavesIn_83 : decode cX5_leavesIn 83 = .ok (.goto (-35), 3) := by decide +kernel
theorem dX5_leavesIn_86 : decode cX5_leavesIn 86 = .ok (.aload_n 0, 1) := by decide +kernel
theorem dX5_leavesIn_87 : decode cX5_leavesIn 87 = .ok (.getfield 33, 3) := by decide +kernel
theorem dX5_leavesIn_90 : decode cX5_leavesIn 90 = .ok (.aload_n 0, 1) := by decide +kernel
theorem dX5_leavesIn_91 : decode cX5_leavesIn 91 = .ok (.getfield 22, 3) := by decide +kernel
theorem dX5_leavesIn_94 : decode cX5_leavesIn 94 = .ok (.getfield 242, 3) := by decide +kernel
theorem dX5_leavesIn_97 : decode cX5_leavesIn 97 = .ok (.iload_n 2, 1) := by decide +kernel
theorem dX5_leavesIn_98 : decode cX5_leavesIn 98 = .ok (.aaload, 1) := by decide +kernel
theorem dX5_leavesIn_99 : decode cX5_leavesIn 99 = .ok (.getfield 53, 3) := by decide +kernel
theorem dX5_leavesIn_102 : decode cX5_leavesIn 102 = .ok (.iload 4, 2) := by decide +kernel
theorem dX5_leavesIn_104 : decode cX5_leavesIn 104 = .ok (.ldc 255, 2) := by decide +kernel
theorem dX5_leavesIn_106 : decode cX5_leavesIn 106 = .ok (.invokestatic 256, 3) := by decide +kernel
theorem dX5_leavesIn_109 : decode cX5_leavesIn 109 = .ok (.iastore, 1) := by decide +kernel
theorem dX5_leavesIn_110 : decode cX5_leavesIn 110 = .ok (.iinc 2 1, 3) := by decide +kernel
theorem dX5_leavesIn_113 : decode cX5_leavesIn 113 = .ok (.goto (-106), 3) := by decide +kernel
theorem dX5_leavesIn_116 : decode cX5_leavesIn 116 = .ok (.aload_n 0, 1) := by decide +kernel
theorem dX5_leavesIn_117 : decode cX5_leavesIn 117 = .ok (.getfield 33, 3) := by decide +kernel
theorem dX5_leavesIn_120 : decode cX5_leavesIn 120 = .ok (.aload_n 1, 1) := by decide +kernel
theorem dX5_leavesIn_121 : decode cX5_leavesIn 121 = .ok (.getfield 53, 3) := by decide +kernel
theorem dX5_leavesIn_124 : decode cX5_leavesIn 124 = .ok (.iaload, 1) := by decide +kernel
theorem dX5_leavesIn_125 : decode cX5_leavesIn 125 = .ok (.ireturn, 1) := by decide +kernel
theorem dX5_netsOfOccurrences_0 : decode cX5_netsOfOccurrences 0 = .ok (.aload_n 0, 1) := by decide +kernel
theorem dX5_netsOfOccurrences_1 : decode cX5_netsOfOccurrences 1 = .ok (.aload_n 1, 1) := by decide +kernel
theorem dX5_netsOfOccurrences_2 : decode cX5_netsOfOccurrences 2 = .ok (.invokevirtual 236, 3) := by decide +kernel
theorem dX5_netsOfOccurrences_5 : decode cX5_netsOfOccurrences 5 = .ok (.iconst 0, 1) := by decide +kernel
theorem dX5_netsOfOccurrences_6 : decode cX5_netsOfOccurrences 6 = .ok (.istore_n 2, 1) := by decide +kernel
theorem dX5_netsOfOccurrences_7 : decode cX5_netsOfOccurrences 7 = .ok (.iload_n 2, 1) := by decide +kernel
theorem dX5_netsOfOccurrences_8 : decode cX5_netsOfOccurrences 8 = .ok (.aload_n 0, 1) := by decide +kernel
theorem dX5_netsOfOccurrences_9 : decode cX5_netsOfOccurrences 9 = .ok (.getfield 22, 3) := by decide +kernel
theorem dX5_netsOfOccurrences_12 : decode cX5_netsOfOccurrences 12 = .ok (.getfield 239, 3) := by decide +kernel
theorem dX5_netsOfOccurrences_15 : decode cX5_netsOfOccurrences 15 = .ok (.if_icmp .ge 113, 3) := by decide +kernel
theorem dX5_netsOfOccurrences_18 : decode cX5_netsOfOccurrences 18 = .ok (.aload_n 0, 1) := by decide +kernel
theorem dX5_netsOfOccurrences_19 : decode cX5_netsOfOccurrences 19 = .ok (.getfield 22, 3) := by decide +kernel
theorem dX5_netsOfOccurrences_22 : decode cX5_netsOfOccurrences 22 = .ok (.getfield 242, 3) := by decide +kernel
theorem dX5_netsOfOccurrences_25 : decode cX5_netsOfOccurrences 25 = .ok (.iload_n 2, 1) := by decide +kernel
theorem dX5_netsOfOccurrences_26 : decode cX5_netsOfOccurrences 26 = .ok (.aaload, 1) := by decide +kernel
theorem dX5_netsOfOccurrences_27 : decode cX5_netsOfOccurrences 27 = .ok (.getfield 77, 3) := by decide +kernel
theorem dX5_netsOfOccurrences_30 : decode cX5_netsOfOccurrences 30 = .ok (.astore_n 3, 1) := by decide +kernel
theorem dX5_netsOfOccurrences_31 : decode cX5_netsOfOccurrences 31 = .ok (.aload_n 3, 1) := by decide +kernel
theorem dX5_netsOfOccurrences_32 : decode cX5_netsOfOccurrences 32 = .ok (.getfield 110, 3) := by decide +kernel
theorem dX5_netsOfOccurrences_35 : decode cX5_netsOfOccurrences 35 = .ok (.istore 4, 2) := by decide +kernel
theorem dX5_netsOfOccurrences_37 : decode cX5_netsOfOccurrences 37 = .ok (.iconst 0, 1) := by decide +kernel
theorem dX5_netsOfOccurrences_38 : decode cX5_netsOfOccurrences 38 = .ok (.istore 5, 2) := by decide +kernel
theorem dX5_netsOfOccurrences_40 : decode cX5_netsOfOccurrences 40 = .ok (.iload 5, 2) := by decide +kernel
theorem dX5_netsOfOccurrences_42 : decode cX5_netsOfOccurrences 42 = .ok (.aload_n 3, 1) := by decide +kernel
theorem dX5_netsOfOccurrences_43 : decode cX5_netsOfOccurrences 43 = .ok (.getfield 81, 3) := by decide +kernel
theorem dX5_netsOfOccurrences_46 : decode cX5_netsOfOccurrences 46 = .ok (.if_icmp .ge 51, 3) := by decide +kernel
theorem dX5_netsOfOccurrences_49 : decode cX5_netsOfOccurrences 49 = .ok (.aload_n 3, 1) := by decide +kernel
theorem dX5_netsOfOccurrences_50 : decode cX5_netsOfOccurrences 50 = .ok (.getfield 209, 3) := by decide +kernel
theorem dX5_netsOfOccurrences_53 : decode cX5_netsOfOccurrences 53 = .ok (.iload 5, 2) := by decide +kernel
theorem dX5_netsOfOccurrences_55 : decode cX5_netsOfOccurrences 55 = .ok (.aaload, 1) := by decide +kernel
theorem dX5_netsOfOccurrences_56 : decode cX5_netsOfOccurrences 56 = .ok (.getfield 205, 3) := by decide +kernel
theorem dX5_netsOfOccurrences_59 : decode cX5_netsOfOccurrences 59 = .ok (.astore 6, 2) := by decide +kernel
theorem dX5_netsOfOccurrences_61 : decode cX5_netsOfOccurrences 61 = .ok (.iload 4, 2) := by decide +kernel
theorem dX5_netsOfOccurrences_63 : decode cX5_netsOfOccurrences 63 = .ok (.aload 6, 2) := by decide +kernel
theorem dX5_netsOfOccurrences_65 : decode cX5_netsOfOccurrences 65 = .ok (.getfield 77, 3) := by decide +kernel
theorem dX5_netsOfOccurrences_68 : decode cX5_netsOfOccurrences 68 = .ok (.invokevirtual 251, 3) := by decide +kernel
theorem dX5_netsOfOccurrences_71 : decode cX5_netsOfOccurrences 71 = .ok (.ifCond .eq 7, 3) := by decide +kernel
theorem dX5_netsOfOccurrences_74 : decode cX5_netsOfOccurrences 74 = .ok (.iconst 0, 1) := by decide +kernel
theorem dX5_netsOfOccurrences_75 : decode cX5_netsOfOccurrences 75 = .ok (.goto 13, 3) := by decide +kernel
theorem dX5_netsOfOccurrences_78 : decode cX5_netsOfOccurrences 78 = .ok (.aload_n 0, 1) := by decide +kernel
theorem dX5_netsOfOccurrences_79 : decode cX5_netsOfOccurrences 79 = .ok (.getfield 33, 3) := by decide +kernel
theorem dX5_netsOfOccurrences_82 : decode cX5_netsOfOccurrences 82 = .ok (.aload 6, 2) := by decide +kernel
theorem dX5_netsOfOccurrences_84 : decode cX5_netsOfOccurrences 84 = .ok (.getfield 53, 3) := by decide +kernel
theorem dX5_netsOfOccurrences_87 : decode cX5_netsOfOccurrences 87 = .ok (.iaload, 1) := by decide +kernel
theorem dX5_netsOfOccurrences_88 : decode cX5_netsOfOccurrences 88 = .ok (.iadd, 1) := by decide +kernel
theorem dX5_netsOfOccurrences_89 : decode cX5_netsOfOccurrences 89 = .ok (.istore 4, 2) := by decide +kernel
theorem dX5_netsOfOccurrences_91 : decode cX5_netsOfOccurrences 91 = .ok (.iinc 5 1, 3) := by decide +kernel
theorem dX5_netsOfOccurrences_94 : decode cX5_netsOfOccurrences 94 = .ok (.goto (-54), 3) := by decide +kernel
theorem dX5_netsOfOccurrences_97 : decode cX5_netsOfOccurrences 97 = .ok (.aload_n 0, 1) := by decide +kernel
theorem dX5_netsOfOccurrences_98 : decode cX5_netsOfOccurrences 98 = .ok (.getfield 33, 3) := by decide +kernel
theorem dX5_netsOfOccurrences_101 : decode cX5_netsOfOccurrences 101 = .ok (.aload_n 0, 1) := by decide +kernel
theorem dX5_netsOfOccurrences_102 : decode cX5_netsOfOccurrences 102 = .ok (.getfield 22, 3) := by decide +kernel
theorem dX5_netsOfOccurrences_105 : decode cX5_netsOfOccurrences 105 = .ok (.getfield 242, 3) := by decide +kernel
theorem dX5_netsOfOccurrences_108 : decode cX5_netsOfOccurrences 108 = .ok (.iload_n 2, 1) := by decide +kernel
theorem dX5_netsOfOccurrences_109 : decode cX5_netsOfOccurrences 109 = .ok (.aaload, 1) := by decide +kernel
theorem dX5_netsOfOccurrences_110 : decode cX5_netsOfOccurrences 110 = .ok (.getfield 53, 3) := by decide +kernel
theorem dX5_netsOfOccurrences_113 : decode cX5_netsOfOccurrences 113 = .ok (.iload 4, 2) := by decide +kernel
theorem dX5_netsOfOccurrences_115 : decode cX5_netsOfOccurrences 115 = .ok (.sipush 3001, 3) := by decide +kernel
theorem dX5_netsOfOccurrences_118 : decode cX5_netsOfOccurrences 118 = .ok (.invokestatic 256, 3) := by decide +kernel
theorem dX5_netsOfOccurrences_121 : decode cX5_netsOfOccurrences 121 = .ok (.iastore, 1) := by decide +kernel
theorem dX5_netsOfOccurrences_122 : decode cX5_netsOfOccurrences 122 = .ok (.iinc 2 1, 3) := by decide +kernel
theorem dX5_netsOfOccurrences_125 : decode cX5_netsOfOccurrences 125 = .ok (.goto (-118), 3) := by decide +kernel
theorem dX5_netsOfOccurrences_128 : decode cX5_netsOfOccurrences 128 = .ok (.aload_n 0, 1) := by decide +kernel
theorem dX5_netsOfOccurrences_129 : decode cX5_netsOfOccurrences 129 = .ok (.getfield 33, 3) := by decide +kernel
theorem dX5_netsOfOccurrences_132 : decode cX5_netsOfOccurrences 132 = .ok (.aload_n 1, 1) := by decide +kernel
theorem dX5_netsOfOccurrences_133 : decode cX5_netsOfOccurrences 133 = .ok (.getfield 53, 3) := by decide +kernel
theorem dX5_netsOfOccurrences_136 : decode cX5_netsOfOccurrences 136 = .ok (.iaload, 1) := by decide +kernel
theorem dX5_netsOfOccurrences_137 : decode cX5_netsOfOccurrences 137 = .ok (.ireturn, 1) := by decide +kernel
theorem dX5_layOut_0 : decode cX5_layOut 0 = .ok (.iload_n 3, 1) := by decide +kernel
theorem dX5_layOut_1 : decode cX5_layOut 1 = .ok (.bipush 24, 2) := by decide +kernel
theorem dX5_layOut_3 : decode cX5_layOut 3 = .ok (.if_icmp .lt 4, 3) := by decide +kernel
theorem dX5_layOut_6 : decode cX5_layOut 6 = .ok (.return_, 1) := by decide +kernel
theorem dX5_layOut_7 : decode cX5_layOut 7 = .ok (.iconst 0, 1) := by decide +kernel
theorem dX5_layOut_8 : decode cX5_layOut 8 = .ok (.istore 4, 2) := by decide +kernel
theorem dX5_layOut_10 : decode cX5_layOut 10 = .ok (.iload 4, 2) := by decide +kernel
theorem dX5_layOut_12 : decode cX5_layOut 12 = .ok (.aload_n 0, 1) := by decide +kernel
theorem dX5_layOut_13 : decode cX5_layOut 13 = .ok (.getfield 77, 3) := by decide +kernel
theorem dX5_layOut_16 : decode cX5_layOut 16 = .ok (.getfield 81, 3) := by decide +kernel
theorem dX5_layOut_19 : decode cX5_layOut 19 = .ok (.if_icmp .ge 94, 3) := by decide +kernel
theorem dX5_layOut_22 : decode cX5_layOut 22 = .ok (.aload_n 0, 1) := by decide +kernel
theorem dX5_layOut_23 : decode cX5_layOut 23 = .ok (.getfield 77, 3) := by decide +kernel
theorem dX5_layOut_26 : decode cX5_layOut 26 = .ok (.getfield 209, 3) := by decide +kernel
theorem dX5_layOut_29 : decode cX5_layOut 29 = .ok (.iload 4, 2) := by decide +kernel
theorem dX5_layOut_31 : decode cX5_layOut 31 = .ok (.aaload, 1) := by decide +kernel
theorem dX5_layOut_32 : decode cX5_layOut 32 = .ok (.astore 5, 2) := by decide +kernel
theorem dX5_layOut_34 : decode cX5_layOut 34 = .ok (.aload 5, 2) := by decide +kernel
theorem dX5_layOut_36 : decode cX5_layOut 36 = .ok (.getfield 205, 3) := by decide +kernel
theorem dX5_layOut_39 : decode cX5_layOut 39 = .ok (.getfield 77, 3) := by decide +kernel
theorem dX5_layOut_42 : decode cX5_layOut 42 = .ok (.astore 6, 2) := by decide +kernel
theorem dX5_layOut_44 : decode cX5_layOut 44 = .ok (.aload_n 2, 1) := by decide +kernel
theorem dX5_layOut_45 : decode cX5_layOut 45 = .ok (.getfield 259, 3) := by decide +kernel
theorem dX5_layOut_48 : decode cX5_layOut 48 = .ok (.iload_n 3, 1) := by decide +kernel
theorem dX5_layOut_49 : decode cX5_layOut 49 = .ok (.iload 4, 2) := by decide +kernel
theorem dX5_layOut_51 : decode cX5_layOut 51 = .ok (.iastore, 1) := by decide +kernel
theorem dX5_layOut_52 : decode cX5_layOut 52 = .ok (.aload 6, 2) := by decide +kernel
theorem dX5_layOut_54 : decode cX5_layOut 54 = .ok (.invokevirtual 251, 3) := by decide +kernel
theorem dX5_layOut_57 : decode cX5_layOut 57 = .ok (.ifCond .eq 16, 3) := by decide +kernel
theorem dX5_layOut_60 : decode cX5_layOut 60 = .ok (.aload_n 2, 1) := by decide +kernel
theorem dX5_layOut_61 : decode cX5_layOut 61 = .ok (.aload 5, 2) := by decide +kernel
theorem dX5_layOut_63 : decode cX5_layOut 63 = .ok (.iload_n 1, 1) := by decide +kernel
theorem dX5_layOut_64 : decode cX5_layOut 64 = .ok (.iload_n 3, 1) := by decide +kernel
theorem dX5_layOut_65 : decode cX5_layOut 65 = .ok (.iconst 1, 1) := by decide +kernel
theorem dX5_layOut_66 : decode cX5_layOut 66 = .ok (.iadd, 1) := by decide +kernel
theorem dX5_layOut_67 : decode cX5_layOut 67 = .ok (.invokevirtual 260, 3) := by decide +kernel
theorem dX5_layOut_70 : decode cX5_layOut 70 = .ok (.goto 37, 3) := by decide +kernel
theorem dX5_layOut_73 : decode cX5_layOut 73 = .ok (.aload_n 2, 1) := by decide +kernel
theorem dX5_layOut_74 : decode cX5_layOut 74 = .ok (.aload 6, 2) := by decide +kernel
theorem dX5_layOut_76 : decode cX5_layOut 76 = .ok (.getfield 110, 3) := by decide +kernel
theorem dX5_layOut_79 : decode cX5_layOut 79 = .ok (.invokevirtual 168, 3) := by decide +kernel
theorem dX5_layOut_82 : decode cX5_layOut 82 = .ok (.istore 7, 2) := by decide +kernel
theorem dX5_layOut_84 : decode cX5_layOut 84 = .ok (.aload_n 2, 1) := by decide +kernel
theorem dX5_layOut_85 : decode cX5_layOut 85 = .ok (.aload 5, 2) := by decide +kernel
theorem dX5_layOut_87 : decode cX5_layOut 87 = .ok (.iload_n 1, 1) := by decide +kernel
theorem dX5_layOut_88 : decode cX5_layOut 88 = .ok (.iload 7, 2) := by decide +kernel
theorem dX5_layOut_90 : decode cX5_layOut 90 = .ok (.invokevirtual 264, 3) := by decide +kernel
theorem dX5_layOut_93 : decode cX5_layOut 93 = .ok (.aload 5, 2) := by decide +kernel
theorem dX5_layOut_95 : decode cX5_layOut 95 = .ok (.getfield 205, 3) := by decide +kernel
theorem dX5_layOut_98 : decode cX5_layOut 98 = .ok (.iload 7, 2) := by decide +kernel
theorem dX5_layOut_100 : decode cX5_layOut 100 = .ok (.aload_n 2, 1) := by decide +kernel
theorem dX5_layOut_101 : decode cX5_layOut 101 = .ok (.iload_n 3, 1) := by decide +kernel
theorem dX5_layOut_102 : decode cX5_layOut 102 = .ok (.iconst 1, 1) := by decide +kernel
theorem dX5_layOut_103 : decode cX5_layOut 103 = .ok (.iadd, 1) := by decide +kernel
theorem dX5_layOut_104 : decode cX5_layOut 104 = .ok (.invokestatic 172, 3) := by decide +kernel
theorem dX5_layOut_107 : decode cX5_layOut 107 = .ok (.iinc 4 1, 3) := by decide +kernel
theorem dX5_layOut_110 : decode cX5_layOut 110 = .ok (.goto (-100), 3) := by decide +kernel
theorem dX5_layOut_113 : decode cX5_layOut 113 = .ok (.return_, 1) := by decide +kernel
theorem dX5_sortIntoKinds_0 : decode cX5_sortIntoKinds 0 = .ok (.iconst 0, 1) := by decide +kernel
theorem dX5_sortIntoKinds_1 : decode cX5_sortIntoKinds 1 = .ok (.istore_n 1, 1) := by decide +kernel
theorem dX5_sortIntoKinds_2 : decode cX5_sortIntoKinds 2 = .ok (.iconst 0, 1) := by decide +kernel
theorem dX5_sortIntoKinds_3 : decode cX5_sortIntoKinds 3 = .ok (.istore_n 2, 1) := by decide +kernel
theorem dX5_sortIntoKinds_4 : decode cX5_sortIntoKinds 4 = .ok (.iload_n 2, 1) := by decide +kernel
theorem dX5_sortIntoKinds_5 : decode cX5_sortIntoKinds 5 = .ok (.aload_n 0, 1) := by decide +kernel
theorem dX5_sortIntoKinds_6 : decode cX5_sortIntoKinds 6 = .ok (.getfield 22, 3) := by decide +kernel
theorem dX5_sortIntoKinds_9 : decode cX5_sortIntoKinds 9 = .ok (.getfield 239, 3) := by decide +kernel
theorem dX5_sortIntoKinds_12 : decode cX5_sortIntoKinds 12 = .ok (.if_icmp .ge 49, 3) := by decide +kernel
theorem dX5_sortIntoKinds_15 : decode cX5_sortIntoKinds 15 = .ok (.aload_n 0, 1) := by decide +kernel
theorem dX5_sortIntoKinds_16 : decode cX5_sortIntoKinds 16 = .ok (.getfield 22, 3) := by decide +kernel
theorem dX5_sortIntoKinds_19 : decode cX5_sortIntoKinds 19 = .ok (.getfield 242, 3) := by decide +kernel
theorem dX5_sortIntoKinds_22 : decode cX5_sortIntoKinds 22 = .ok (.iload_n 2, 1) := by decide +kernel
theorem dX5_sortIntoKinds_23 : decode cX5_sortIntoKinds 23 = .ok (.aaload, 1) := by decide +kernel
theorem dX5_sortIntoKinds_24 : decode cX5_sortIntoKinds 24 = .ok (.astore_n 3, 1) := by decide +kernel
theorem dX5_sortIntoKinds_25 : decode cX5_sortIntoKinds 25 = .ok (.aload_n 0, 1) := by decide +kernel
theorem dX5_sortIntoKinds_26 : decode cX5_sortIntoKinds 26 = .ok (.iload_n 2, 1) := by decide +kernel
theorem dX5_sortIntoKinds_27 : decode cX5_sortIntoKinds 27 = .ok (.invokevirtual 267, 3) := by decide +kernel
theorem dX5_sortIntoKinds_30 : decode cX5_sortIntoKinds 30 = .ok (.astore 4, 2) := by decide +kernel
theorem dX5_sortIntoKinds_32 : decode cX5_sortIntoKinds 32 = .ok (.aload_n 0, 1) := by decide +kernel
theorem dX5_sortIntoKinds_33 : decode cX5_sortIntoKinds 33 = .ok (.getfield 33, 3) := by decide +kernel
theorem dX5_sortIntoKinds_36 : decode cX5_sortIntoKinds 36 = .ok (.aload_n 3, 1) := by decide +kernel
theorem dX5_sortIntoKinds_37 : decode cX5_sortIntoKinds 37 = .ok (.getfield 53, 3) := by decide +kernel
theorem dX5_sortIntoKinds_40 : decode cX5_sortIntoKinds 40 = .ok (.aload 4, 2) := by decide +kernel
theorem dX5_sortIntoKinds_42 : decode cX5_sortIntoKinds 42 = .ok (.getfield 53, 3) := by decide +kernel
theorem dX5_sortIntoKinds_45 : decode cX5_sortIntoKinds 45 = .ok (.iastore, 1) := by decide +kernel
theorem dX5_sortIntoKinds_46 : decode cX5_sortIntoKinds 46 = .ok (.aload 4, 2) := by decide +kernel
theorem dX5_sortIntoKinds_48 : decode cX5_sortIntoKinds 48 = .ok (.aload_n 3, 1) := by decide +kernel
theorem dX5_sortIntoKinds_49 : decode cX5_sortIntoKinds 49 = .ok (.if_acmp .ne 6, 3) := by decide +kernel
theorem dX5_sortIntoKinds_52 : decode cX5_sortIntoKinds 52 = .ok (.iinc 1 1, 3) := by decide +kernel
theorem dX5_sortIntoKinds_55 : decode cX5_sortIntoKinds 55 = .ok (.iinc 2 1, 3) := by decide +kernel
theorem dX5_sortIntoKinds_58 : decode cX5_sortIntoKinds 58 = .ok (.goto (-54), 3) := by decide +kernel
theorem dX5_sortIntoKinds_61 : decode cX5_sortIntoKinds 61 = .ok (.iload_n 1, 1) := by decide +kernel
theorem dX5_sortIntoKinds_62 : decode cX5_sortIntoKinds 62 = .ok (.ireturn, 1) := by decide +kernel
theorem dX5_firstAlike_0 : decode cX5_firstAlike 0 = .ok (.aload_n 0, 1) := by decide +kernel
theorem dX5_firstAlike_1 : decode cX5_firstAlike 1 = .ok (.getfield 22, 3) := by decide +kernel
theorem dX5_firstAlike_4 : decode cX5_firstAlike 4 = .ok (.getfield 242, 3) := by decide +kernel
theorem dX5_firstAlike_7 : decode cX5_firstAlike 7 = .ok (.iload_n 1, 1) := by decide +kernel
theorem dX5_firstAlike_8 : decode cX5_firstAlike 8 = .ok (.aaload, 1) := by decide +kernel
theorem dX5_firstAlike_9 : decode cX5_firstAlike 9 = .ok (.astore_n 2, 1) := by decide +kernel
theorem dX5_firstAlike_10 : decode cX5_firstAlike 10 = .ok (.iconst 0, 1) := by decide +kernel
theorem dX5_firstAlike_11 : decode cX5_firstAlike 11 = .ok (.istore_n 3, 1) := by decide +kernel
theorem dX5_firstAlike_12 : decode cX5_firstAlike 12 = .ok (.iload_n 3, 1) := by decide +kernel
theorem dX5_firstAlike_13 : decode cX5_firstAlike 13 = .ok (.iload_n 1, 1) := by decide +kernel
theorem dX5_firstAlike_14 : decode cX5_firstAlike 14 = .ok (.if_icmp .ge 51, 3) := by decide +kernel
theorem dX5_firstAlike_17 : decode cX5_firstAlike 17 = .ok (.aload_n 0, 1) := by decide +kernel
theorem dX5_firstAlike_18 : decode cX5_firstAlike 18 = .ok (.getfield 22, 3) := by decide +kernel
theorem dX5_firstAlike_21 : decode cX5_firstAlike 21 = .ok (.getfield 242, 3) := by decide +kernel
theorem dX5_firstAlike_24 : decode cX5_firstAlike 24 = .ok (.iload_n 3, 1) := by decide +kernel
theorem dX5_firstAlike_25 : decode cX5_firstAlike 25 = .ok (.aaload, 1) := by decide +kernel
theorem dX5_firstAlike_26 : decode cX5_firstAlike 26 = .ok (.astore 4, 2) := by decide +kernel
theorem dX5_firstAlike_28 : decode cX5_firstAlike 28 = .ok (.aload_n 0, 1) := by decide +kernel
theorem dX5_firstAlike_29 : decode cX5_firstAlike 29 = .ok (.getfield 33, 3) := by decide +kernel
theorem dX5_firstAlike_32 : decode cX5_firstAlike 32 = .ok (.aload 4, 2) := by decide +kernel
theorem dX5_firstAlike_34 : decode cX5_firstAlike 34 = .ok (.getfield 53, 3) := by decide +kernel
theorem dX5_firstAlike_37 : decode cX5_firstAlike 37 = .ok (.iaload, 1) := by decide +kernel
theorem dX5_firstAlike_38 : decode cX5_firstAlike 38 = .ok (.aload 4, 2) := by decide +kernel
theorem dX5_firstAlike_40 : decode cX5_firstAlike 40 = .ok (.getfield 53, 3) := by decide +kernel
theorem dX5_firstAlike_43 : decode cX5_firstAlike 43 = .ok (.if_icmp .ne 16, 3) := by decide +kernel
theorem dX5_firstAlike_46 : decode cX5_firstAlike 46 = .ok (.aload_n 0, 1) := by decide +kernel
theorem dX5_firstAlike_47 : decode cX5_firstAlike 47 = .ok (.aload_n 2, 1) := by decide +kernel
theorem dX5_firstAlike_48 : decode cX5_firstAlike 48 = .ok (.aload 4, 2) := by decide +kernel
theorem dX5_firstAlike_50 : decode cX5_firstAlike 50 = .ok (.invokevirtual 270, 3) := by decide +kernel
theorem dX5_firstAlike_53 : decode cX5_firstAlike 53 = .ok (.ifCond .eq 6, 3) := by decide +kernel
theorem dX5_firstAlike_56 : decode cX5_firstAlike 56 = .ok (.aload 4, 2) := by decide +kernel
theorem dX5_firstAlike_58 : decode cX5_firstAlike 58 = .ok (.areturn, 1) := by decide +kernel
theorem dX5_firstAlike_59 : decode cX5_firstAlike 59 = .ok (.iinc 3 1, 3) := by decide +kernel
theorem dX5_firstAlike_62 : decode cX5_firstAlike 62 = .ok (.goto (-50), 3) := by decide +kernel
theorem dX5_firstAlike_65 : decode cX5_firstAlike 65 = .ok (.aload_n 2, 1) := by decide +kernel
theorem dX5_firstAlike_66 : decode cX5_firstAlike 66 = .ok (.areturn, 1) := by decide +kernel
theorem dX5_isSame_0 : decode cX5_isSame 0 = .ok (.aload_n 1, 1) := by decide +kernel
theorem dX5_isSame_1 : decode cX5_isSame 1 = .ok (.aload_n 2, 1) := by decide +kernel
theorem dX5_isSame_2 : decode cX5_isSame 2 = .ok (.invokevirtual 273, 3) := by decide +kernel
theorem dX5_isSame_5 : decode cX5_isSame 5 = .ok (.ifCond .eq 33, 3) := by decide +kernel
theorem dX5_isSame_8 : decode cX5_isSame 8 = .ok (.aload_n 1, 1) := by decide +kernel
theorem dX5_isSame_9 : decode cX5_isSame 9 = .ok (.getfield 77, 3) := by decide +kernel
theorem dX5_isSame_12 : decode cX5_isSame 12 = .ok (.aload_n 2, 1) := by decide +kernel
theorem dX5_isSame_13 : decode cX5_isSame 13 = .ok (.getfield 77, 3) := by decide +kernel
theorem dX5_isSame_16 : decode cX5_isSame 16 = .ok (.if_acmp .eq 18, 3) := by decide +kernel
theorem dX5_isSame_19 : decode cX5_isSame 19 = .ok (.aload_n 0, 1) := by decide +kernel
theorem dX5_isSame_20 : decode cX5_isSame 20 = .ok (.aload_n 1, 1) := by decide +kernel
theorem dX5_isSame_21 : decode cX5_isSame 21 = .ok (.getfield 77, 3) := by decide +kernel
theorem dX5_isSame_24 : decode cX5_isSame 24 = .ok (.aload_n 2, 1) := by decide +kernel
theorem dX5_isSame_25 : decode cX5_isSame 25 = .ok (.getfield 77, 3) := by decide +kernel
theorem dX5_isSame_28 : decode cX5_isSame 28 = .ok (.invokevirtual 277, 3) := by decide +kernel
theorem dX5_isSame_31 : decode cX5_isSame 31 = .ok (.ifCond .eq 7, 3) := by decide +kernel
theorem dX5_isSame_34 : decode cX5_isSame 34 = .ok (.iconst 1, 1) := by decide +kernel
theorem dX5_isSame_35 : decode cX5_isSame 35 = .ok (.goto 4, 3) := by decide +kernel
theorem dX5_isSame_38 : decode cX5_isSame 38 = .ok (.iconst 0, 1) := by decide +kernel
theorem dX5_isSame_39 : decode cX5_isSame 39 = .ok (.ireturn, 1) := by decide +kernel
theorem dX5_isSameInside_0 : decode cX5_isSameInside 0 = .ok (.aload_n 1, 1) := by decide +kernel
theorem dX5_isSameInside_1 : decode cX5_isSameInside 1 = .ok (.getfield 81, 3) := by decide +kernel
theorem dX5_isSameInside_4 : decode cX5_isSameInside 4 = .ok (.aload_n 2, 1) := by decide +kernel
theorem dX5_isSameInside_5 : decode cX5_isSameInside 5 = .ok (.getfield 81, 3) := by decide +kernel
theorem dX5_isSameInside_8 : decode cX5_isSameInside 8 = .ok (.if_icmp .ne 14, 3) := by decide +kernel
theorem dX5_isSameInside_11 : decode cX5_isSameInside 11 = .ok (.aload_n 1, 1) := by decide +kernel
theorem dX5_isSameInside_12 : decode cX5_isSameInside 12 = .ok (.getfield 110, 3) := by decide +kernel
theorem dX5_isSameInside_15 : decode cX5_isSameInside 15 = .ok (.aload_n 2, 1) := by decide +kernel
theorem dX5_isSameInside_16 : decode cX5_isSameInside 16 = .ok (.getfield 110, 3) := by decide +kernel
theorem dX5_isSameInside_19 : decode cX5_isSameInside 19 = .ok (.if_icmp .eq 5, 3) := by decide +kernel
theorem dX5_isSameInside_22 : decode cX5_isSameInside 22 = .ok (.iconst 0, 1) := by decide +kernel
theorem dX5_isSameInside_23 : decode cX5_isSameInside 23 = .ok (.ireturn, 1) := by decide +kernel
theorem dX5_isSameInside_24 : decode cX5_isSameInside 24 = .ok (.aload_n 1, 1) := by decide +kernel
theorem dX5_isSameInside_25 : decode cX5_isSameInside 25 = .ok (.getfield 281, 3) := by decide +kernel
theorem dX5_isSameInside_28 : decode cX5_isSameInside 28 = .ok (.aload_n 2, 1) := by decide +kernel
theorem dX5_isSameInside_29 : decode cX5_isSameInside 29 = .ok (.getfield 281, 3) := by decide +kernel
theorem dX5_isSameInside_32 : decode cX5_isSameInside 32 = .ok (.invokestatic 284, 3) := by decide +kernel
theorem dX5_isSameInside_35 : decode cX5_isSameInside 35 = .ok (.ifCond .ne 5, 3) := by decide +kernel
theorem dX5_isSameInside_38 : decode cX5_isSameInside 38 = .ok (.iconst 0, 1) := by decide +kernel
theorem dX5_isSameInside_39 : decode cX5_isSameInside 39 = .ok (.ireturn, 1) := by decide +kernel
theorem dX5_isSameInside_40 : decode cX5_isSameInside 40 = .ok (.iconst 0, 1) := by decide +kernel
theorem dX5_isSameInside_41 : decode cX5_isSameInside 41 = .ok (.istore_n 3, 1) := by decide +kernel
theorem dX5_isSameInside_42 : decode cX5_isSameInside 42 = .ok (.iload_n 3, 1) := by decide +kernel
theorem dX5_isSameInside_43 : decode cX5_isSameInside 43 = .ok (.aload_n 1, 1) := by decide +kernel
theorem dX5_isSameInside_44 : decode cX5_isSameInside 44 = .ok (.getfield 81, 3) := by decide +kernel
theorem dX5_isSameInside_47 : decode cX5_isSameInside 47 = .ok (.if_icmp .ge 72, 3) := by decide +kernel
theorem dX5_isSameInside_50 : decode cX5_isSameInside 50 = .ok (.aload_n 1, 1) := by decide +kernel
theorem dX5_isSameInside_51 : decode cX5_isSameInside 51 = .ok (.getfield 209, 3) := by decide +kernel
theorem dX5_isSameInside_54 : decode cX5_isSameInside 54 = .ok (.iload_n 3, 1) := by decide +kernel
theorem dX5_isSameInside_55 : decode cX5_isSameInside 55 = .ok (.aaload, 1) := by decide +kernel
theorem dX5_isSameInside_56 : decode cX5_isSameInside 56 = .ok (.astore 4, 2) := by decide +kernel
theorem dX5_isSameInside_58 : decode cX5_isSameInside 58 = .ok (.aload_n 2, 1) := by decide +kernel
theorem dX5_isSameInside_59 : decode cX5_isSameInside 59 = .ok (.getfield 209, 3) := by decide +kernel
theorem dX5_isSameInside_62 : decode cX5_isSameInside 62 = .ok (.iload_n 3, 1) := by decide +kernel
theorem dX5_isSameInside_63 : decode cX5_isSameInside 63 = .ok (.aaload, 1) := by decide +kernel
theorem dX5_isSameInside_64 : decode cX5_isSameInside 64 = .ok (.astore 5, 2) := by decide +kernel
theorem dX5_isSameInside_66 : decode cX5_isSameInside 66 = .ok (.aload_n 0, 1) := by decide +kernel
theorem dX5_isSameInside_67 : decode cX5_isSameInside 67 = .ok (.getfield 33, 3) := by decide +kernel
theorem dX5_isSameInside_70 : decode cX5_isSameInside 70 = .ok (.aload 4, 2) := by decide +kernel
theorem dX5_isSameInside_72 : decode cX5_isSameInside 72 = .ok (.getfield 205, 3) := by decide +kernel
theorem dX5_isSameInside_75 : decode cX5_isSameInside 75 = .ok (.getfield 53, 3) := by decide +kernel
theorem dX5_isSameInside_78 : decode cX5_isSameInside 78 = .ok (.iaload, 1) := by decide +kernel
theorem dX5_isSameInside_79 : decode cX5_isSameInside 79 = .ok (.aload_n 0, 1) := by decide +kernel
theorem dX5_isSameInside_80 : decode cX5_isSameInside 80 = .ok (.getfield 33, 3) := by decide +kernel
theorem dX5_isSameInside_83 : decode cX5_isSameInside 83 = .ok (.aload 5, 2) := by decide +kernel
theorem dX5_isSameInside_85 : decode cX5_isSameInside 85 = .ok (.getfield 205, 3) := by decide +kernel
theorem dX5_isSameInside_88 : decode cX5_isSameInside 88 = .ok (.getfield 53, 3) := by decide +kernel
theorem dX5_isSameInside_91 : decode cX5_isSameInside 91 = .ok (.iaload, 1) := by decide +kernel
theorem dX5_isSameInside_92 : decode cX5_isSameInside 92 = .ok (.if_icmp .ne 19, 3) := by decide +kernel
theorem dX5_isSameInside_95 : decode cX5_isSameInside 95 = .ok (.aload 4, 2) := by decide +kernel
theorem dX5_isSameInside_97 : decode cX5_isSameInside 97 = .ok (.getfield 220, 3) := by decide +kernel
theorem dX5_isSameInside_100 : decode cX5_isSameInside 100 = .ok (.aload 5, 2) := by decide +kernel
theorem dX5_isSameInside_102 : decode cX5_isSameInside 102 = .ok (.getfield 220, 3) := by decide +kernel
theorem dX5_isSameInside_105 : decode cX5_isSameInside 105 = .ok (.invokestatic 284, 3) := by decide +kernel
theorem dX5_isSameInside_108 : decode cX5_isSameInside 108 = .ok (.ifCond .ne 5, 3) := by decide +kernel
theorem dX5_isSameInside_111 : decode cX5_isSameInside 111 = .ok (.iconst 0, 1) := by decide +kernel
theorem dX5_isSameInside_112 : decode cX5_isSameInside 112 = .ok (.ireturn, 1) := by decide +kernel
theorem dX5_isSameInside_113 : decode cX5_isSameInside 113 = .ok (.iinc 3 1, 3) := by decide +kernel
theorem dX5_isSameInside_116 : decode cX5_isSameInside 116 = .ok (.goto (-74), 3) := by decide +kernel
theorem dX5_isSameInside_119 : decode cX5_isSameInside 119 = .ok (.iconst 1, 1) := by decide +kernel
theorem dX5_isSameInside_120 : decode cX5_isSameInside 120 = .ok (.ireturn, 1) := by decide +kernel
theorem dX5_isSameRow_0 : decode cX5_isSameRow 0 = .ok (.aload_n 0, 1) := by decide +kernel
theorem dX5_isSameRow_1 : decode cX5_isSameRow 1 = .ok (.arraylength, 1) := by decide +kernel
theorem dX5_isSameRow_2 : decode cX5_isSameRow 2 = .ok (.aload_n 1, 1) := by decide +kernel
theorem dX5_isSameRow_3 : decode cX5_isSameRow 3 = .ok (.arraylength, 1) := by decide +kernel
theorem dX5_isSameRow_4 : decode cX5_isSameRow 4 = .ok (.if_icmp .eq 5, 3) := by decide +kernel
theorem dX5_isSameRow_7 : decode cX5_isSameRow 7 = .ok (.iconst 0, 1) := by decide +kernel
theorem dX5_isSameRow_8 : decode cX5_isSameRow 8 = .ok (.ireturn, 1) := by decide +kernel
theorem dX5_isSameRow_9 : decode cX5_isSameRow 9 = .ok (.iconst 0, 1) := by decide +kernel
theorem dX5_isSameRow_10 : decode cX5_isSameRow 10 = .ok (.istore_n 2, 1) := by decide +kernel
theorem dX5_isSameRow_11 : decode cX5_isSameRow 11 = .ok (.iload_n 2, 1) := by decide +kernel
theorem dX5_isSameRow_12 : decode cX5_isSameRow 12 = .ok (.aload_n 0, 1) := by decide +kernel
theorem dX5_isSameRow_13 : decode cX5_isSameRow 13 = .ok (.arraylength, 1) := by decide +kernel
theorem dX5_isSameRow_14 : decode cX5_isSameRow 14 = .ok (.if_icmp .ge 20, 3) := by decide +kernel
theorem dX5_isSameRow_17 : decode cX5_isSameRow 17 = .ok (.aload_n 0, 1) := by decide +kernel
theorem dX5_isSameRow_18 : decode cX5_isSameRow 18 = .ok (.iload_n 2, 1) := by decide +kernel
theorem dX5_isSameRow_19 : decode cX5_isSameRow 19 = .ok (.iaload, 1) := by decide +kernel
theorem dX5_isSameRow_20 : decode cX5_isSameRow 20 = .ok (.aload_n 1, 1) := by decide +kernel
theorem dX5_isSameRow_21 : decode cX5_isSameRow 21 = .ok (.iload_n 2, 1) := by decide +kernel
theorem dX5_isSameRow_22 : decode cX5_isSameRow 22 = .ok (.iaload, 1) := by decide +kernel
theorem dX5_isSameRow_23 : decode cX5_isSameRow 23 = .ok (.if_icmp .eq 5, 3) := by decide +kernel
theorem dX5_isSameRow_26 : decode cX5_isSameRow 26 = .ok (.iconst 0, 1) := by decide +kernel
theorem dX5_isSameRow_27 : decode cX5_isSameRow 27 = .ok (.ireturn, 1) := by decide +kernel
theorem dX5_isSameRow_28 : decode cX5_isSameRow 28 = .ok (.iinc 2 1, 3) := by decide +kernel
theorem dX5_isSameRow_31 : decode cX5_isSameRow 31 = .ok (.goto (-20), 3) := by decide +kernel
theorem dX5_isSameRow_34 : decode cX5_isSameRow 34 = .ok (.iconst 1, 1) := by decide +kernel
theorem dX5_isSameRow_35 : decode cX5_isSameRow 35 = .ok (.ireturn, 1) := by decide +kernel
theorem dJ9_max_7cf53_0 : decode cJ9_max_7cf53 0 = .ok (.iload_n 0, 1) := by decide +kernel
theorem dJ9_max_7cf53_1 : decode cJ9_max_7cf53 1 = .ok (.iload_n 1, 1) := by decide +kernel
theorem dJ9_max_7cf53_2 : decode cJ9_max_7cf53 2 = .ok (.if_icmp .lt 7, 3) := by decide +kernel
theorem dJ9_max_7cf53_5 : decode cJ9_max_7cf53 5 = .ok (.iload_n 0, 1) := by decide +kernel
theorem dJ9_max_7cf53_6 : decode cJ9_max_7cf53 6 = .ok (.goto 4, 3) := by decide +kernel
theorem dJ9_max_7cf53_9 : decode cJ9_max_7cf53 9 = .ok (.iload_n 1, 1) := by decide +kernel
theorem dJ9_max_7cf53_10 : decode cJ9_max_7cf53 10 = .ok (.ireturn, 1) := by decide +kernel
theorem dJ9_min_7cf53_0 : decode cJ9_min_7cf53 0 = .ok (.iload_n 0, 1) := by decide +kernel
theorem dJ9_min_7cf53_1 : decode cJ9_min_7cf53 1 = .ok (.iload_n 1, 1) := by decide +kernel
theorem dJ9_min_7cf53_2 : decode cJ9_min_7cf53 2 = .ok (.if_icmp .gt 7, 3) := by decide +kernel
theorem dJ9_min_7cf53_5 : decode cJ9_min_7cf53 5 = .ok (.iload_n 0, 1) := by decide +kernel
theorem dJ9_min_7cf53_6 : decode cJ9_min_7cf53 6 = .ok (.goto 4, 3) := by decide +kernel
theorem dJ9_min_7cf53_9 : decode cJ9_min_7cf53 9 = .ok (.iload_n 1, 1) := by decide +kernel
theorem dJ9_min_7cf53_10 : decode cJ9_min_7cf53 10 = .ok (.ireturn, 1) := by decide +kernel
theorem dJ7_fill_53178_0 : decode cJ7_fill_53178 0 = .ok (.iconst 0, 1) := by decide +kernel
theorem dJ7_fill_53178_1 : decode cJ7_fill_53178 1 = .ok (.istore_n 2, 1) := by decide +kernel
theorem dJ7_fill_53178_2 : decode cJ7_fill_53178 2 = .ok (.aload_n 0, 1) := by decide +kernel
theorem dJ7_fill_53178_3 : decode cJ7_fill_53178 3 = .ok (.arraylength, 1) := by decide +kernel
theorem dJ7_fill_53178_4 : decode cJ7_fill_53178 4 = .ok (.istore_n 3, 1) := by decide +kernel
theorem dJ7_fill_53178_5 : decode cJ7_fill_53178 5 = .ok (.iload_n 2, 1) := by decide +kernel
theorem dJ7_fill_53178_6 : decode cJ7_fill_53178 6 = .ok (.iload_n 3, 1) := by decide +kernel
theorem dJ7_fill_53178_7 : decode cJ7_fill_53178 7 = .ok (.if_icmp .ge 13, 3) := by decide +kernel
theorem dJ7_fill_53178_10 : decode cJ7_fill_53178 10 = .ok (.aload_n 0, 1) := by decide +kernel
theorem dJ7_fill_53178_11 : decode cJ7_fill_53178 11 = .ok (.iload_n 2, 1) := by decide +kernel
theorem dJ7_fill_53178_12 : decode cJ7_fill_53178 12 = .ok (.iload_n 1, 1) := by decide +kernel
theorem dJ7_fill_53178_13 : decode cJ7_fill_53178 13 = .ok (.iastore, 1) := by decide +kernel
theorem dJ7_fill_53178_14 : decode cJ7_fill_53178 14 = .ok (.iinc 2 1, 3) := by decide +kernel
theorem dJ7_fill_53178_17 : decode cJ7_fill_53178 17 = .ok (.goto (-12), 3) := by decide +kernel
theorem dJ7_fill_53178_20 : decode cJ7_fill_53178 20 = .ok (.return_, 1) := by decide +kernel
theorem dJ7_copyOf_59c91_0 : decode cJ7_copyOf_59c91 0 = .ok (.iload_n 1, 1) := by decide +kernel
theorem dJ7_copyOf_59c91_1 : decode cJ7_copyOf_59c91 1 = .ok (.aload_n 0, 1) := by decide +kernel
theorem dJ7_copyOf_59c91_2 : decode cJ7_copyOf_59c91 2 = .ok (.arraylength, 1) := by decide +kernel
theorem dJ7_copyOf_59c91_3 : decode cJ7_copyOf_59c91 3 = .ok (.if_icmp .ne 11, 3) := by decide +kernel
theorem dJ7_copyOf_59c91_6 : decode cJ7_copyOf_59c91 6 = .ok (.aload_n 0, 1) := by decide +kernel
theorem dJ7_copyOf_59c91_7 : decode cJ7_copyOf_59c91 7 = .ok (.invokevirtual 316, 3) := by decide +kernel
theorem dJ7_copyOf_59c91_10 : decode cJ7_copyOf_59c91 10 = .ok (.checkcast 317, 3) := by decide +kernel
theorem dJ7_copyOf_59c91_13 : decode cJ7_copyOf_59c91 13 = .ok (.areturn, 1) := by decide +kernel
theorem dJ7_copyOf_59c91_14 : decode cJ7_copyOf_59c91 14 = .ok (.iload_n 1, 1) := by decide +kernel
theorem dJ7_copyOf_59c91_15 : decode cJ7_copyOf_59c91 15 = .ok (.newarray .int, 2) := by decide +kernel
theorem dJ7_copyOf_59c91_17 : decode cJ7_copyOf_59c91 17 = .ok (.astore_n 2, 1) := by decide +kernel
theorem dJ7_copyOf_59c91_18 : decode cJ7_copyOf_59c91 18 = .ok (.aload_n 0, 1) := by decide +kernel
theorem dJ7_copyOf_59c91_19 : decode cJ7_copyOf_59c91 19 = .ok (.iconst 0, 1) := by decide +kernel
theorem dJ7_copyOf_59c91_20 : decode cJ7_copyOf_59c91 20 = .ok (.aload_n 2, 1) := by decide +kernel
theorem dJ7_copyOf_59c91_21 : decode cJ7_copyOf_59c91 21 = .ok (.iconst 0, 1) := by decide +kernel
theorem dJ7_copyOf_59c91_22 : decode cJ7_copyOf_59c91 22 = .ok (.aload_n 0, 1) := by decide +kernel
theorem dJ7_copyOf_59c91_23 : decode cJ7_copyOf_59c91 23 = .ok (.arraylength, 1) := by decide +kernel
theorem dJ7_copyOf_59c91_24 : decode cJ7_copyOf_59c91 24 = .ok (.iload_n 1, 1) := by decide +kernel
theorem dJ7_copyOf_59c91_25 : decode cJ7_copyOf_59c91 25 = .ok (.invokestatic 304, 3) := by decide +kernel
theorem dJ7_copyOf_59c91_28 : decode cJ7_copyOf_59c91 28 = .ok (.invokestatic 150, 3) := by decide +kernel
theorem dJ7_copyOf_59c91_31 : decode cJ7_copyOf_59c91 31 = .ok (.aload_n 2, 1) := by decide +kernel
theorem dJ7_copyOf_59c91_32 : decode cJ7_copyOf_59c91 32 = .ok (.areturn, 1) := by decide +kernel
