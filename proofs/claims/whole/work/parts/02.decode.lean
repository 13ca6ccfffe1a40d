theorem dX6_init_0 : decode cX6_init 0 = .ok (.aload_n 0, 1) := by decide +kernel
theorem dX6_init_1 : decode cX6_init 1 = .ok (.invokespecial 5, 3) := by decide +kernel
theorem dX6_init_4 : decode cX6_init 4 = .ok (.aload_n 0, 1) := by decide +kernel
theorem dX6_init_5 : decode cX6_init 5 = .ok (.new 11, 3) := by decide +kernel
theorem dX6_init_8 : decode cX6_init 8 = .ok (.dup, 1) := by decide +kernel
theorem dX6_init_9 : decode cX6_init 9 = .ok (.invokespecial 13, 3) := by decide +kernel
theorem dX6_init_12 : decode cX6_init 12 = .ok (.putfield 14, 3) := by decide +kernel
theorem dX6_init_15 : decode cX6_init 15 = .ok (.aload_n 0, 1) := by decide +kernel
theorem dX6_init_16 : decode cX6_init 16 = .ok (.new 18, 3) := by decide +kernel
theorem dX6_init_19 : decode cX6_init 19 = .ok (.dup, 1) := by decide +kernel
theorem dX6_init_20 : decode cX6_init 20 = .ok (.invokespecial 20, 3) := by decide +kernel
theorem dX6_init_23 : decode cX6_init 23 = .ok (.putfield 21, 3) := by decide +kernel
theorem dX6_init_26 : decode cX6_init 26 = .ok (.aload_n 0, 1) := by decide +kernel
theorem dX6_init_27 : decode cX6_init 27 = .ok (.new 18, 3) := by decide +kernel
theorem dX6_init_30 : decode cX6_init 30 = .ok (.dup, 1) := by decide +kernel
theorem dX6_init_31 : decode cX6_init 31 = .ok (.invokespecial 20, 3) := by decide +kernel
theorem dX6_init_34 : decode cX6_init 34 = .ok (.putfield 25, 3) := by decide +kernel
theorem dX6_init_37 : decode cX6_init 37 = .ok (.aload_n 0, 1) := by decide +kernel
theorem dX6_init_38 : decode cX6_init 38 = .ok (.new 28, 3) := by decide +kernel
theorem dX6_init_41 : decode cX6_init 41 = .ok (.dup, 1) := by decide +kernel
theorem dX6_init_42 : decode cX6_init 42 = .ok (.invokespecial 30, 3) := by decide +kernel
theorem dX6_init_45 : decode cX6_init 45 = .ok (.putfield 31, 3) := by decide +kernel
theorem dX6_init_48 : decode cX6_init 48 = .ok (.aload_n 0, 1) := by decide +kernel
theorem dX6_init_49 : decode cX6_init 49 = .ok (.new 35, 3) := by decide +kernel
theorem dX6_init_52 : decode cX6_init 52 = .ok (.dup, 1) := by decide +kernel
theorem dX6_init_53 : decode cX6_init 53 = .ok (.invokespecial 37, 3) := by decide +kernel
theorem dX6_init_56 : decode cX6_init 56 = .ok (.putfield 38, 3) := by decide +kernel
theorem dX6_init_59 : decode cX6_init 59 = .ok (.aload_n 0, 1) := by decide +kernel
theorem dX6_init_60 : decode cX6_init 60 = .ok (.new 35, 3) := by decide +kernel
theorem dX6_init_63 : decode cX6_init 63 = .ok (.dup, 1) := by decide +kernel
theorem dX6_init_64 : decode cX6_init 64 = .ok (.invokespecial 37, 3) := by decide +kernel
theorem dX6_init_67 : decode cX6_init 67 = .ok (.putfield 42, 3) := by decide +kernel
theorem dX6_init_70 : decode cX6_init 70 = .ok (.aload_n 0, 1) := by decide +kernel
theorem dX6_init_71 : decode cX6_init 71 = .ok (.new 45, 3) := by decide +kernel
theorem dX6_init_74 : decode cX6_init 74 = .ok (.dup, 1) := by decide +kernel
theorem dX6_init_75 : decode cX6_init 75 = .ok (.invokespecial 47, 3) := by decide +kernel
theorem dX6_init_78 : decode cX6_init 78 = .ok (.putfield 48, 3) := by decide +kernel
theorem dX6_init_81 : decode cX6_init 81 = .ok (.aload_n 0, 1) := by decide +kernel
theorem dX6_init_82 : decode cX6_init 82 = .ok (.new 52, 3) := by decide +kernel
theorem dX6_init_85 : decode cX6_init 85 = .ok (.dup, 1) := by decide +kernel
theorem dX6_init_86 : decode cX6_init 86 = .ok (.invokespecial 54, 3) := by decide +kernel
theorem dX6_init_89 : decode cX6_init 89 = .ok (.putfield 55, 3) := by decide +kernel
theorem dX6_init_92 : decode cX6_init 92 = .ok (.aload_n 0, 1) := by decide +kernel
theorem dX6_init_93 : decode cX6_init 93 = .ok (.bipush 16, 2) := by decide +kernel
theorem dX6_init_95 : decode cX6_init 95 = .ok (.newarray .int, 2) := by decide +kernel
theorem dX6_init_97 : decode cX6_init 97 = .ok (.putfield 59, 3) := by decide +kernel
theorem dX6_init_100 : decode cX6_init 100 = .ok (.aload_n 0, 1) := by decide +kernel
theorem dX6_init_101 : decode cX6_init 101 = .ok (.iconst 0, 1) := by decide +kernel
theorem dX6_init_102 : decode cX6_init 102 = .ok (.putfield 63, 3) := by decide +kernel
theorem dX6_init_105 : decode cX6_init 105 = .ok (.aload_n 0, 1) := by decide +kernel
theorem dX6_init_106 : decode cX6_init 106 = .ok (.iconst 0, 1) := by decide +kernel
theorem dX6_init_107 : decode cX6_init 107 = .ok (.putfield 67, 3) := by decide +kernel
theorem dX6_init_110 : decode cX6_init 110 = .ok (.return_, 1) := by decide +kernel
theorem dX0_init_0 : decode cX0_init 0 = .ok (.aload_n 0, 1) := by decide +kernel
theorem dX0_init_1 : decode cX0_init 1 = .ok (.invokespecial 3, 3) := by decide +kernel
theorem dX0_init_4 : decode cX0_init 4 = .ok (.aload_n 0, 1) := by decide +kernel
theorem dX0_init_5 : decode cX0_init 5 = .ok (.bipush 7, 2) := by decide +kernel
theorem dX0_init_7 : decode cX0_init 7 = .ok (.newarray .int, 2) := by decide +kernel
theorem dX0_init_9 : decode cX0_init 9 = .ok (.putfield 9, 3) := by decide +kernel
theorem dX0_init_12 : decode cX0_init 12 = .ok (.aload_n 0, 1) := by decide +kernel
theorem dX0_init_13 : decode cX0_init 13 = .ok (.bipush 7, 2) := by decide +kernel
theorem dX0_init_15 : decode cX0_init 15 = .ok (.newarray .int, 2) := by decide +kernel
theorem dX0_init_17 : decode cX0_init 17 = .ok (.putfield 15, 3) := by decide +kernel
theorem dX0_init_20 : decode cX0_init 20 = .ok (.aload_n 0, 1) := by decide +kernel
theorem dX0_init_21 : decode cX0_init 21 = .ok (.bipush 7, 2) := by decide +kernel
theorem dX0_init_23 : decode cX0_init 23 = .ok (.newarray .int, 2) := by decide +kernel
theorem dX0_init_25 : decode cX0_init 25 = .ok (.putfield 18, 3) := by decide +kernel
theorem dX0_init_28 : decode cX0_init 28 = .ok (.aload_n 0, 1) := by decide +kernel
theorem dX0_init_29 : decode cX0_init 29 = .ok (.iconst 0, 1) := by decide +kernel
theorem dX0_init_30 : decode cX0_init 30 = .ok (.putfield 21, 3) := by decide +kernel
theorem dX0_init_33 : decode cX0_init 33 = .ok (.aload_n 0, 1) := by decide +kernel
theorem dX0_init_34 : decode cX0_init 34 = .ok (.bipush 9, 2) := by decide +kernel
theorem dX0_init_36 : decode cX0_init 36 = .ok (.newarray .int, 2) := by decide +kernel
theorem dX0_init_38 : decode cX0_init 38 = .ok (.putfield 25, 3) := by decide +kernel
theorem dX0_init_41 : decode cX0_init 41 = .ok (.aload_n 0, 1) := by decide +kernel
theorem dX0_init_42 : decode cX0_init 42 = .ok (.bipush 9, 2) := by decide +kernel
theorem dX0_init_44 : decode cX0_init 44 = .ok (.newarray .int, 2) := by decide +kernel
theorem dX0_init_46 : decode cX0_init 46 = .ok (.putfield 28, 3) := by decide +kernel
theorem dX0_init_49 : decode cX0_init 49 = .ok (.aload_n 0, 1) := by decide +kernel
theorem dX0_init_50 : decode cX0_init 50 = .ok (.bipush 9, 2) := by decide +kernel
theorem dX0_init_52 : decode cX0_init 52 = .ok (.newarray .int, 2) := by decide +kernel
theorem dX0_init_54 : decode cX0_init 54 = .ok (.putfield 31, 3) := by decide +kernel
theorem dX0_init_57 : decode cX0_init 57 = .ok (.aload_n 0, 1) := by decide +kernel
theorem dX0_init_58 : decode cX0_init 58 = .ok (.bipush 9, 2) := by decide +kernel
theorem dX0_init_60 : decode cX0_init 60 = .ok (.newarray .int, 2) := by decide +kernel
theorem dX0_init_62 : decode cX0_init 62 = .ok (.putfield 34, 3) := by decide +kernel
theorem dX0_init_65 : decode cX0_init 65 = .ok (.aload_n 0, 1) := by decide +kernel
theorem dX0_init_66 : decode cX0_init 66 = .ok (.iconst 0, 1) := by decide +kernel
theorem dX0_init_67 : decode cX0_init 67 = .ok (.putfield 37, 3) := by decide +kernel
theorem dX0_init_70 : decode cX0_init 70 = .ok (.aload_n 0, 1) := by decide +kernel
theorem dX0_init_71 : decode cX0_init 71 = .ok (.bipush 7, 2) := by decide +kernel
theorem dX0_init_73 : decode cX0_init 73 = .ok (.bipush 7, 2) := by decide +kernel
theorem dX0_init_75 : decode cX0_init 75 = .ok (.multianewarray 40 2, 4) := by decide +kernel
theorem dX0_init_79 : decode cX0_init 79 = .ok (.putfield 42, 3) := by decide +kernel
theorem dX0_init_82 : decode cX0_init 82 = .ok (.return_, 1) := by decide +kernel
theorem dX4_init_0 : decode cX4_init 0 = .ok (.aload_n 0, 1) := by decide +kernel
theorem dX4_init_1 : decode cX4_init 1 = .ok (.invokespecial 3, 3) := by decide +kernel
theorem dX4_init_4 : decode cX4_init 4 = .ok (.aload_n 0, 1) := by decide +kernel
theorem dX4_init_5 : decode cX4_init 5 = .ok (.bipush 7, 2) := by decide +kernel
theorem dX4_init_7 : decode cX4_init 7 = .ok (.newarray .int, 2) := by decide +kernel
theorem dX4_init_9 : decode cX4_init 9 = .ok (.putfield 9, 3) := by decide +kernel
theorem dX4_init_12 : decode cX4_init 12 = .ok (.aload_n 0, 1) := by decide +kernel
theorem dX4_init_13 : decode cX4_init 13 = .ok (.bipush 9, 2) := by decide +kernel
theorem dX4_init_15 : decode cX4_init 15 = .ok (.newarray .int, 2) := by decide +kernel
theorem dX4_init_17 : decode cX4_init 17 = .ok (.putfield 15, 3) := by decide +kernel
theorem dX4_init_20 : decode cX4_init 20 = .ok (.aload_n 0, 1) := by decide +kernel
theorem dX4_init_21 : decode cX4_init 21 = .ok (.bipush 9, 2) := by decide +kernel
theorem dX4_init_23 : decode cX4_init 23 = .ok (.newarray .boolean, 2) := by decide +kernel
theorem dX4_init_25 : decode cX4_init 25 = .ok (.putfield 18, 3) := by decide +kernel
theorem dX4_init_28 : decode cX4_init 28 = .ok (.aload_n 0, 1) := by decide +kernel
theorem dX4_init_29 : decode cX4_init 29 = .ok (.iconst 4, 1) := by decide +kernel
theorem dX4_init_30 : decode cX4_init 30 = .ok (.newarray .int, 2) := by decide +kernel
theorem dX4_init_32 : decode cX4_init 32 = .ok (.putfield 22, 3) := by decide +kernel
theorem dX4_init_35 : decode cX4_init 35 = .ok (.return_, 1) := by decide +kernel
theorem dX3_init_0 : decode cX3_init 0 = .ok (.aload_n 0, 1) := by decide +kernel
theorem dX3_init_1 : decode cX3_init 1 = .ok (.invokespecial 3, 3) := by decide +kernel
theorem dX3_init_4 : decode cX3_init 4 = .ok (.aload_n 0, 1) := by decide +kernel
theorem dX3_init_5 : decode cX3_init 5 = .ok (.bipush 7, 2) := by decide +kernel
theorem dX3_init_7 : decode cX3_init 7 = .ok (.newarray .int, 2) := by decide +kernel
theorem dX3_init_9 : decode cX3_init 9 = .ok (.putfield 9, 3) := by decide +kernel
theorem dX3_init_12 : decode cX3_init 12 = .ok (.aload_n 0, 1) := by decide +kernel
theorem dX3_init_13 : decode cX3_init 13 = .ok (.new 15, 3) := by decide +kernel
theorem dX3_init_16 : decode cX3_init 16 = .ok (.dup, 1) := by decide +kernel
theorem dX3_init_17 : decode cX3_init 17 = .ok (.invokespecial 17, 3) := by decide +kernel
theorem dX3_init_20 : decode cX3_init 20 = .ok (.putfield 18, 3) := by decide +kernel
theorem dX3_init_23 : decode cX3_init 23 = .ok (.aload_n 0, 1) := by decide +kernel
theorem dX3_init_24 : decode cX3_init 24 = .ok (.new 15, 3) := by decide +kernel
theorem dX3_init_27 : decode cX3_init 27 = .ok (.dup, 1) := by decide +kernel
theorem dX3_init_28 : decode cX3_init 28 = .ok (.invokespecial 17, 3) := by decide +kernel
theorem dX3_init_31 : decode cX3_init 31 = .ok (.putfield 22, 3) := by decide +kernel
theorem dX3_init_34 : decode cX3_init 34 = .ok (.aload_n 0, 1) := by decide +kernel
theorem dX3_init_35 : decode cX3_init 35 = .ok (.bipush 7, 2) := by decide +kernel
theorem dX3_init_37 : decode cX3_init 37 = .ok (.newarray .int, 2) := by decide +kernel
theorem dX3_init_39 : decode cX3_init 39 = .ok (.putfield 25, 3) := by decide +kernel
theorem dX3_init_42 : decode cX3_init 42 = .ok (.aload_n 0, 1) := by decide +kernel
theorem dX3_init_43 : decode cX3_init 43 = .ok (.ldc 28, 2) := by decide +kernel
theorem dX3_init_45 : decode cX3_init 45 = .ok (.putfield 29, 3) := by decide +kernel
theorem dX3_init_48 : decode cX3_init 48 = .ok (.return_, 1) := by decide +kernel
theorem dX2_init_0 : decode cX2_init 0 = .ok (.aload_n 0, 1) := by decide +kernel
theorem dX2_init_1 : decode cX2_init 1 = .ok (.invokespecial 3, 3) := by decide +kernel
theorem dX2_init_4 : decode cX2_init 4 = .ok (.aload_n 0, 1) := by decide +kernel
theorem dX2_init_5 : decode cX2_init 5 = .ok (.bipush 7, 2) := by decide +kernel
theorem dX2_init_7 : decode cX2_init 7 = .ok (.newarray .int, 2) := by decide +kernel
theorem dX2_init_9 : decode cX2_init 9 = .ok (.putfield 9, 3) := by decide +kernel
theorem dX2_init_12 : decode cX2_init 12 = .ok (.aload_n 0, 1) := by decide +kernel
theorem dX2_init_13 : decode cX2_init 13 = .ok (.bipush 7, 2) := by decide +kernel
theorem dX2_init_15 : decode cX2_init 15 = .ok (.newarray .int, 2) := by decide +kernel
theorem dX2_init_17 : decode cX2_init 17 = .ok (.putfield 15, 3) := by decide +kernel
theorem dX2_init_20 : decode cX2_init 20 = .ok (.return_, 1) := by decide +kernel
theorem dX1_init_0 : decode cX1_init 0 = .ok (.aload_n 0, 1) := by decide +kernel
theorem dX1_init_1 : decode cX1_init 1 = .ok (.invokespecial 3, 3) := by decide +kernel
theorem dX1_init_4 : decode cX1_init 4 = .ok (.aload_n 0, 1) := by decide +kernel
theorem dX1_init_5 : decode cX1_init 5 = .ok (.iconst (-1), 1) := by decide +kernel
theorem dX1_init_6 : decode cX1_init 6 = .ok (.putfield 9, 3) := by decide +kernel
theorem dX1_init_9 : decode cX1_init 9 = .ok (.aload_n 0, 1) := by decide +kernel
theorem dX1_init_10 : decode cX1_init 10 = .ok (.bipush 7, 2) := by decide +kernel
theorem dX1_init_12 : decode cX1_init 12 = .ok (.newarray .int, 2) := by decide +kernel
theorem dX1_init_14 : decode cX1_init 14 = .ok (.putfield 15, 3) := by decide +kernel
theorem dX1_init_17 : decode cX1_init 17 = .ok (.aload_n 0, 1) := by decide +kernel
theorem dX1_init_18 : decode cX1_init 18 = .ok (.iconst 0, 1) := by decide +kernel
theorem dX1_init_19 : decode cX1_init 19 = .ok (.putfield 19, 3) := by decide +kernel
theorem dX1_init_22 : decode cX1_init 22 = .ok (.return_, 1) := by decide +kernel
theorem dX5_init_0 : decode cX5_init 0 = .ok (.aload_n 0, 1) := by decide +kernel
theorem dX5_init_1 : decode cX5_init 1 = .ok (.invokespecial 3, 3) := by decide +kernel
theorem dX5_init_4 : decode cX5_init 4 = .ok (.aload_n 0, 1) := by decide +kernel
theorem dX5_init_5 : decode cX5_init 5 = .ok (.bipush 80, 2) := by decide +kernel
theorem dX5_init_7 : decode cX5_init 7 = .ok (.newarray .char, 2) := by decide +kernel
theorem dX5_init_9 : decode cX5_init 9 = .ok (.putfield 9, 3) := by decide +kernel
theorem dX5_init_12 : decode cX5_init 12 = .ok (.aload_n 0, 1) := by decide +kernel
theorem dX5_init_13 : decode cX5_init 13 = .ok (.iconst 0, 1) := by decide +kernel
theorem dX5_init_14 : decode cX5_init 14 = .ok (.putfield 15, 3) := by decide +kernel
theorem dX5_init_17 : decode cX5_init 17 = .ok (.return_, 1) := by decide +kernel
theorem dX6_atom_0 : decode cX6_atom 0 = .ok (.iload_n 1, 1) := by decide +kernel
theorem dX6_atom_1 : decode cX6_atom 1 = .ok (.ifCond .lt 19, 3) := by decide +kernel
theorem dX6_atom_4 : decode cX6_atom 4 = .ok (.iload_n 1, 1) := by decide +kernel
theorem dX6_atom_5 : decode cX6_atom 5 = .ok (.getstatic 71, 3) := by decide +kernel
theorem dX6_atom_8 : decode cX6_atom 8 = .ok (.arraylength, 1) := by decide +kernel
theorem dX6_atom_9 : decode cX6_atom 9 = .ok (.if_icmp .ge 11, 3) := by decide +kernel
theorem dX6_atom_12 : decode cX6_atom 12 = .ok (.iload_n 2, 1) := by decide +kernel
theorem dX6_atom_13 : decode cX6_atom 13 = .ok (.iload_n 3, 1) := by decide +kernel
theorem dX6_atom_14 : decode cX6_atom 14 = .ok (.invokestatic 74, 3) := by decide +kernel
theorem dX6_atom_17 : decode cX6_atom 17 = .ok (.ifCond .ne 5, 3) := by decide +kernel
theorem dX6_atom_20 : decode cX6_atom 20 = .ok (.iconst (-1), 1) := by decide +kernel
theorem dX6_atom_21 : decode cX6_atom 21 = .ok (.ireturn, 1) := by decide +kernel
theorem dX6_atom_22 : decode cX6_atom 22 = .ok (.aload_n 0, 1) := by decide +kernel
theorem dX6_atom_23 : decode cX6_atom 23 = .ok (.getfield 14, 3) := by decide +kernel
theorem dX6_atom_26 : decode cX6_atom 26 = .ok (.getfield 78, 3) := by decide +kernel
theorem dX6_atom_29 : decode cX6_atom 29 = .ok (.bipush 7, 2) := by decide +kernel
theorem dX6_atom_31 : decode cX6_atom 31 = .ok (.if_icmp .lt 6, 3) := by decide +kernel
theorem dX6_atom_34 : decode cX6_atom 34 = .ok (.bipush (-2), 2) := by decide +kernel
theorem dX6_atom_36 : decode cX6_atom 36 = .ok (.ireturn, 1) := by decide +kernel
theorem dX6_atom_37 : decode cX6_atom 37 = .ok (.aload_n 0, 1) := by decide +kernel
theorem dX6_atom_38 : decode cX6_atom 38 = .ok (.iconst 0, 1) := by decide +kernel
theorem dX6_atom_39 : decode cX6_atom 39 = .ok (.putfield 67, 3) := by decide +kernel
theorem dX6_atom_42 : decode cX6_atom 42 = .ok (.aload_n 0, 1) := by decide +kernel
theorem dX6_atom_43 : decode cX6_atom 43 = .ok (.getfield 14, 3) := by decide +kernel
theorem dX6_atom_46 : decode cX6_atom 46 = .ok (.iload_n 1, 1) := by decide +kernel
theorem dX6_atom_47 : decode cX6_atom 47 = .ok (.iload_n 2, 1) := by decide +kernel
theorem dX6_atom_48 : decode cX6_atom 48 = .ok (.iload_n 3, 1) := by decide +kernel
theorem dX6_atom_49 : decode cX6_atom 49 = .ok (.invokevirtual 81, 3) := by decide +kernel
theorem dX6_atom_52 : decode cX6_atom 52 = .ok (.ireturn, 1) := by decide +kernel
theorem dX6_isPlace_0 : decode cX6_isPlace 0 = .ok (.iload_n 0, 1) := by decide +kernel
theorem dX6_isPlace_1 : decode cX6_isPlace 1 = .ok (.sipush (-1000), 3) := by decide +kernel
theorem dX6_isPlace_4 : decode cX6_isPlace 4 = .ok (.if_icmp .lt 28, 3) := by decide +kernel
theorem dX6_isPlace_7 : decode cX6_isPlace 7 = .ok (.iload_n 0, 1) := by decide +kernel
theorem dX6_isPlace_8 : decode cX6_isPlace 8 = .ok (.sipush 1000, 3) := by decide +kernel
theorem dX6_isPlace_11 : decode cX6_isPlace 11 = .ok (.if_icmp .gt 21, 3) := by decide +kernel
theorem dX6_isPlace_14 : decode cX6_isPlace 14 = .ok (.iload_n 1, 1) := by decide +kernel
theorem dX6_isPlace_15 : decode cX6_isPlace 15 = .ok (.sipush (-1000), 3) := by decide +kernel
theorem dX6_isPlace_18 : decode cX6_isPlace 18 = .ok (.if_icmp .lt 14, 3) := by decide +kernel
theorem dX6_isPlace_21 : decode cX6_isPlace 21 = .ok (.iload_n 1, 1) := by decide +kernel
theorem dX6_isPlace_22 : decode cX6_isPlace 22 = .ok (.sipush 1000, 3) := by decide +kernel
theorem dX6_isPlace_25 : decode cX6_isPlace 25 = .ok (.if_icmp .gt 7, 3) := by decide +kernel
theorem dX6_isPlace_28 : decode cX6_isPlace 28 = .ok (.iconst 1, 1) := by decide +kernel
theorem dX6_isPlace_29 : decode cX6_isPlace 29 = .ok (.goto 4, 3) := by decide +kernel
theorem dX6_isPlace_32 : decode cX6_isPlace 32 = .ok (.iconst 0, 1) := by decide +kernel
theorem dX6_isPlace_33 : decode cX6_isPlace 33 = .ok (.ireturn, 1) := by decide +kernel
theorem dX0_addAtom_0 : decode cX0_addAtom 0 = .ok (.aload_n 0, 1) := by decide +kernel
theorem dX0_addAtom_1 : decode cX0_addAtom 1 = .ok (.getfield 21, 3) := by decide +kernel
theorem dX0_addAtom_4 : decode cX0_addAtom 4 = .ok (.istore 4, 2) := by decide +kernel
theorem dX0_addAtom_6 : decode cX0_addAtom 6 = .ok (.aload_n 0, 1) := by decide +kernel
theorem dX0_addAtom_7 : decode cX0_addAtom 7 = .ok (.getfield 9, 3) := by decide +kernel
theorem dX0_addAtom_10 : decode cX0_addAtom 10 = .ok (.iload 4, 2) := by decide +kernel
theorem dX0_addAtom_12 : decode cX0_addAtom 12 = .ok (.iload_n 1, 1) := by decide +kernel
theorem dX0_addAtom_13 : decode cX0_addAtom 13 = .ok (.iastore, 1) := by decide +kernel
theorem dX0_addAtom_14 : decode cX0_addAtom 14 = .ok (.aload_n 0, 1) := by decide +kernel
theorem dX0_addAtom_15 : decode cX0_addAtom 15 = .ok (.getfield 15, 3) := by decide +kernel
theorem dX0_addAtom_18 : decode cX0_addAtom 18 = .ok (.iload 4, 2) := by decide +kernel
theorem dX0_addAtom_20 : decode cX0_addAtom 20 = .ok (.iload_n 2, 1) := by decide +kernel
theorem dX0_addAtom_21 : decode cX0_addAtom 21 = .ok (.iastore, 1) := by decide +kernel
theorem dX0_addAtom_22 : decode cX0_addAtom 22 = .ok (.aload_n 0, 1) := by decide +kernel
theorem dX0_addAtom_23 : decode cX0_addAtom 23 = .ok (.getfield 18, 3) := by decide +kernel
theorem dX0_addAtom_26 : decode cX0_addAtom 26 = .ok (.iload 4, 2) := by decide +kernel
theorem dX0_addAtom_28 : decode cX0_addAtom 28 = .ok (.iload_n 3, 1) := by decide +kernel
theorem dX0_addAtom_29 : decode cX0_addAtom 29 = .ok (.iastore, 1) := by decide +kernel
theorem dX0_addAtom_30 : decode cX0_addAtom 30 = .ok (.aload_n 0, 1) := by decide +kernel
theorem dX0_addAtom_31 : decode cX0_addAtom 31 = .ok (.dup, 1) := by decide +kernel
theorem dX0_addAtom_32 : decode cX0_addAtom 32 = .ok (.getfield 21, 3) := by decide +kernel
theorem dX0_addAtom_35 : decode cX0_addAtom 35 = .ok (.iconst 1, 1) := by decide +kernel
theorem dX0_addAtom_36 : decode cX0_addAtom 36 = .ok (.iadd, 1) := by decide +kernel
theorem dX0_addAtom_37 : decode cX0_addAtom 37 = .ok (.putfield 21, 3) := by decide +kernel
theorem dX0_addAtom_40 : decode cX0_addAtom 40 = .ok (.iload 4, 2) := by decide +kernel
theorem dX0_addAtom_42 : decode cX0_addAtom 42 = .ok (.ireturn, 1) := by decide +kernel
theorem dX6_bond_0 : decode cX6_bond 0 = .ok (.aload_n 0, 1) := by decide +kernel
theorem dX6_bond_1 : decode cX6_bond 1 = .ok (.getfield 14, 3) := by decide +kernel
theorem dX6_bond_4 : decode cX6_bond 4 = .ok (.iload_n 1, 1) := by decide +kernel
theorem dX6_bond_5 : decode cX6_bond 5 = .ok (.invokevirtual 85, 3) := by decide +kernel
theorem dX6_bond_8 : decode cX6_bond 8 = .ok (.ifCond .eq 19, 3) := by decide +kernel
theorem dX6_bond_11 : decode cX6_bond 11 = .ok (.aload_n 0, 1) := by decide +kernel
theorem dX6_bond_12 : decode cX6_bond 12 = .ok (.getfield 14, 3) := by decide +kernel
theorem dX6_bond_15 : decode cX6_bond 15 = .ok (.iload_n 2, 1) := by decide +kernel
theorem dX6_bond_16 : decode cX6_bond 16 = .ok (.invokevirtual 85, 3) := by decide +kernel
theorem dX6_bond_19 : decode cX6_bond 19 = .ok (.ifCond .eq 8, 3) := by decide +kernel
theorem dX6_bond_22 : decode cX6_bond 22 = .ok (.iload_n 1, 1) := by decide +kernel
theorem dX6_bond_23 : decode cX6_bond 23 = .ok (.iload_n 2, 1) := by decide +kernel
theorem dX6_bond_24 : decode cX6_bond 24 = .ok (.if_icmp .ne 5, 3) := by decide +kernel
theorem dX6_bond_27 : decode cX6_bond 27 = .ok (.iconst (-1), 1) := by decide +kernel
theorem dX6_bond_28 : decode cX6_bond 28 = .ok (.ireturn, 1) := by decide +kernel
theorem dX6_bond_29 : decode cX6_bond 29 = .ok (.iload_n 3, 1) := by decide +kernel
theorem dX6_bond_30 : decode cX6_bond 30 = .ok (.iconst 1, 1) := by decide +kernel
theorem dX6_bond_31 : decode cX6_bond 31 = .ok (.if_icmp .lt 28, 3) := by decide +kernel
theorem dX6_bond_34 : decode cX6_bond 34 = .ok (.iload_n 3, 1) := by decide +kernel
theorem dX6_bond_35 : decode cX6_bond 35 = .ok (.iconst 3, 1) := by decide +kernel
theorem dX6_bond_36 : decode cX6_bond 36 = .ok (.if_icmp .gt 23, 3) := by decide +kernel
theorem dX6_bond_39 : decode cX6_bond 39 = .ok (.iload 4, 2) := by decide +kernel
theorem dX6_bond_41 : decode cX6_bond 41 = .ok (.invokestatic 89, 3) := by decide +kernel
theorem dX6_bond_44 : decode cX6_bond 44 = .ok (.ifCond .eq 15, 3) := by decide +kernel
theorem dX6_bond_47 : decode cX6_bond 47 = .ok (.aload_n 0, 1) := by decide +kernel
theorem dX6_bond_48 : decode cX6_bond 48 = .ok (.getfield 14, 3) := by decide +kernel
theorem dX6_bond_51 : decode cX6_bond 51 = .ok (.iload_n 1, 1) := by decide +kernel
theorem dX6_bond_52 : decode cX6_bond 52 = .ok (.iload_n 2, 1) := by decide +kernel
theorem dX6_bond_53 : decode cX6_bond 53 = .ok (.invokevirtual 92, 3) := by decide +kernel
theorem dX6_bond_56 : decode cX6_bond 56 = .ok (.ifCond .eq 5, 3) := by decide +kernel
theorem dX6_bond_59 : decode cX6_bond 59 = .ok (.iconst (-1), 1) := by decide +kernel
theorem dX6_bond_60 : decode cX6_bond 60 = .ok (.ireturn, 1) := by decide +kernel
theorem dX6_bond_61 : decode cX6_bond 61 = .ok (.aload_n 0, 1) := by decide +kernel
theorem dX6_bond_62 : decode cX6_bond 62 = .ok (.getfield 14, 3) := by decide +kernel
theorem dX6_bond_65 : decode cX6_bond 65 = .ok (.getfield 95, 3) := by decide +kernel
theorem dX6_bond_68 : decode cX6_bond 68 = .ok (.bipush 9, 2) := by decide +kernel
theorem dX6_bond_70 : decode cX6_bond 70 = .ok (.if_icmp .lt 6, 3) := by decide +kernel
theorem dX6_bond_73 : decode cX6_bond 73 = .ok (.bipush (-2), 2) := by decide +kernel
theorem dX6_bond_75 : decode cX6_bond 75 = .ok (.ireturn, 1) := by decide +kernel
theorem dX6_bond_76 : decode cX6_bond 76 = .ok (.iload_n 3, 1) := by decide +kernel
theorem dX6_bond_77 : decode cX6_bond 77 = .ok (.aload_n 0, 1) := by decide +kernel
theorem dX6_bond_78 : decode cX6_bond 78 = .ok (.getfield 14, 3) := by decide +kernel
theorem dX6_bond_81 : decode cX6_bond 81 = .ok (.iload_n 1, 1) := by decide +kernel
theorem dX6_bond_82 : decode cX6_bond 82 = .ok (.invokevirtual 98, 3) := by decide +kernel
theorem dX6_bond_85 : decode cX6_bond 85 = .ok (.if_icmp .gt 15, 3) := by decide +kernel
theorem dX6_bond_88 : decode cX6_bond 88 = .ok (.iload_n 3, 1) := by decide +kernel
theorem dX6_bond_89 : decode cX6_bond 89 = .ok (.aload_n 0, 1) := by decide +kernel
theorem dX6_bond_90 : decode cX6_bond 90 = .ok (.getfield 14, 3) := by decide +kernel
theorem dX6_bond_93 : decode cX6_bond 93 = .ok (.iload_n 2, 1) := by decide +kernel
theorem dX6_bond_94 : decode cX6_bond 94 = .ok (.invokevirtual 98, 3) := by decide +kernel
theorem dX6_bond_97 : decode cX6_bond 97 = .ok (.if_icmp .le 6, 3) := by decide +kernel
theorem dX6_bond_100 : decode cX6_bond 100 = .ok (.bipush (-3), 2) := by decide +kernel
theorem dX6_bond_102 : decode cX6_bond 102 = .ok (.ireturn, 1) := by decide +kernel
theorem dX6_bond_103 : decode cX6_bond 103 = .ok (.aload_n 0, 1) := by decide +kernel
theorem dX6_bond_104 : decode cX6_bond 104 = .ok (.iconst 0, 1) := by decide +kernel
theorem dX6_bond_105 : decode cX6_bond 105 = .ok (.putfield 67, 3) := by decide +kernel
theorem dX6_bond_108 : decode cX6_bond 108 = .ok (.aload_n 0, 1) := by decide +kernel
theorem dX6_bond_109 : decode cX6_bond 109 = .ok (.getfield 14, 3) := by decide +kernel
theorem dX6_bond_112 : decode cX6_bond 112 = .ok (.iload_n 1, 1) := by decide +kernel
theorem dX6_bond_113 : decode cX6_bond 113 = .ok (.iload_n 2, 1) := by decide +kernel
theorem dX6_bond_114 : decode cX6_bond 114 = .ok (.iload_n 3, 1) := by decide +kernel
theorem dX6_bond_115 : decode cX6_bond 115 = .ok (.iload 4, 2) := by decide +kernel
theorem dX6_bond_117 : decode cX6_bond 117 = .ok (.invokevirtual 102, 3) := by decide +kernel
theorem dX6_bond_120 : decode cX6_bond 120 = .ok (.ireturn, 1) := by decide +kernel
theorem dX0_hasAtom_0 : decode cX0_hasAtom 0 = .ok (.iload_n 1, 1) := by decide +kernel
theorem dX0_hasAtom_1 : decode cX0_hasAtom 1 = .ok (.ifCond .lt 15, 3) := by decide +kernel
theorem dX0_hasAtom_4 : decode cX0_hasAtom 4 = .ok (.iload_n 1, 1) := by decide +kernel
theorem dX0_hasAtom_5 : decode cX0_hasAtom 5 = .ok (.aload_n 0, 1) := by decide +kernel
theorem dX0_hasAtom_6 : decode cX0_hasAtom 6 = .ok (.getfield 21, 3) := by decide +kernel
theorem dX0_hasAtom_9 : decode cX0_hasAtom 9 = .ok (.if_icmp .ge 7, 3) := by decide +kernel
theorem dX0_hasAtom_12 : decode cX0_hasAtom 12 = .ok (.iconst 1, 1) := by decide +kernel
theorem dX0_hasAtom_13 : decode cX0_hasAtom 13 = .ok (.goto 4, 3) := by decide +kernel
theorem dX0_hasAtom_16 : decode cX0_hasAtom 16 = .ok (.iconst 0, 1) := by decide +kernel
theorem dX0_hasAtom_17 : decode cX0_hasAtom 17 = .ok (.ireturn, 1) := by decide +kernel
theorem dX6_isMark_0 : decode cX6_isMark 0 = .ok (.iload_n 0, 1) := by decide +kernel
theorem dX6_isMark_1 : decode cX6_isMark 1 = .ok (.ifCond .lt 12, 3) := by decide +kernel
theorem dX6_isMark_4 : decode cX6_isMark 4 = .ok (.iload_n 0, 1) := by decide +kernel
theorem dX6_isMark_5 : decode cX6_isMark 5 = .ok (.iconst 2, 1) := by decide +kernel
theorem dX6_isMark_6 : decode cX6_isMark 6 = .ok (.if_icmp .gt 7, 3) := by decide +kernel
theorem dX6_isMark_9 : decode cX6_isMark 9 = .ok (.iconst 1, 1) := by decide +kernel
theorem dX6_isMark_10 : decode cX6_isMark 10 = .ok (.goto 4, 3) := by decide +kernel
theorem dX6_isMark_13 : decode cX6_isMark 13 = .ok (.iconst 0, 1) := by decide +kernel
theorem dX6_isMark_14 : decode cX6_isMark 14 = .ok (.ireturn, 1) := by decide +kernel
theorem dX0_areBonded_0 : decode cX0_areBonded 0 = .ok (.aload_n 0, 1) := by decide +kernel
theorem dX0_areBonded_1 : decode cX0_areBonded 1 = .ok (.getfield 42, 3) := by decide +kernel
theorem dX0_areBonded_4 : decode cX0_areBonded 4 = .ok (.iload_n 1, 1) := by decide +kernel
theorem dX0_areBonded_5 : decode cX0_areBonded 5 = .ok (.aaload, 1) := by decide +kernel
theorem dX0_areBonded_6 : decode cX0_areBonded 6 = .ok (.iload_n 2, 1) := by decide +kernel
theorem dX0_areBonded_7 : decode cX0_areBonded 7 = .ok (.iaload, 1) := by decide +kernel
theorem dX0_areBonded_8 : decode cX0_areBonded 8 = .ok (.ifCond .eq 7, 3) := by decide +kernel
theorem dX0_areBonded_11 : decode cX0_areBonded 11 = .ok (.iconst 1, 1) := by decide +kernel
theorem dX0_areBonded_12 : decode cX0_areBonded 12 = .ok (.goto 4, 3) := by decide +kernel
theorem dX0_areBonded_15 : decode cX0_areBonded 15 = .ok (.iconst 0, 1) := by decide +kernel
theorem dX0_areBonded_16 : decode cX0_areBonded 16 = .ok (.ireturn, 1) := by decide +kernel
theorem dX0_freeValence_0 : decode cX0_freeValence 0 = .ok (.getstatic 51, 3) := by decide +kernel
theorem dX0_freeValence_3 : decode cX0_freeValence 3 = .ok (.aload_n 0, 1) := by decide +kernel
theorem dX0_freeValence_4 : decode cX0_freeValence 4 = .ok (.getfield 9, 3) := by decide +kernel
theorem dX0_freeValence_7 : decode cX0_freeValence 7 = .ok (.iload_n 1, 1) := by decide +kernel
theorem dX0_freeValence_8 : decode cX0_freeValence 8 = .ok (.iaload, 1) := by decide +kernel
theorem dX0_freeValence_9 : decode cX0_freeValence 9 = .ok (.iaload, 1) := by decide +kernel
theorem dX0_freeValence_10 : decode cX0_freeValence 10 = .ok (.istore_n 2, 1) := by decide +kernel
theorem dX0_freeValence_11 : decode cX0_freeValence 11 = .ok (.iconst 0, 1) := by decide +kernel
theorem dX0_freeValence_12 : decode cX0_freeValence 12 = .ok (.istore_n 3, 1) := by decide +kernel
theorem dX0_freeValence_13 : decode cX0_freeValence 13 = .ok (.iload_n 3, 1) := by decide +kernel
theorem dX0_freeValence_14 : decode cX0_freeValence 14 = .ok (.aload_n 0, 1) := by decide +kernel
theorem dX0_freeValence_15 : decode cX0_freeValence 15 = .ok (.getfield 21, 3) := by decide +kernel
theorem dX0_freeValence_18 : decode cX0_freeValence 18 = .ok (.if_icmp .ge 18, 3) := by decide +kernel
theorem dX0_freeValence_21 : decode cX0_freeValence 21 = .ok (.iload_n 2, 1) := by decide +kernel
theorem dX0_freeValence_22 : decode cX0_freeValence 22 = .ok (.aload_n 0, 1) := by decide +kernel
theorem dX0_freeValence_23 : decode cX0_freeValence 23 = .ok (.iload_n 1, 1) := by decide +kernel
theorem dX0_freeValence_24 : decode cX0_freeValence 24 = .ok (.iload_n 3, 1) := by decide +kernel
theorem dX0_freeValence_25 : decode cX0_freeValence 25 = .ok (.invokevirtual 54, 3) := by decide +kernel
theorem dX0_freeValence_28 : decode cX0_freeValence 28 = .ok (.isub, 1) := by decide +kernel
theorem dX0_freeValence_29 : decode cX0_freeValence 29 = .ok (.istore_n 2, 1) := by decide +kernel
theorem dX0_freeValence_30 : decode cX0_freeValence 30 = .ok (.iinc 3 1, 3) := by decide +kernel
theorem dX0_freeValence_33 : decode cX0_freeValence 33 = .ok (.goto (-20), 3) := by decide +kernel
theorem dX0_freeValence_36 : decode cX0_freeValence 36 = .ok (.iload_n 2, 1) := by decide +kernel
theorem dX0_freeValence_37 : decode cX0_freeValence 37 = .ok (.ireturn, 1) := by decide +kernel
theorem dX0_orderOf_0 : decode cX0_orderOf 0 = .ok (.aload_n 0, 1) := by decide +kernel
theorem dX0_orderOf_1 : decode cX0_orderOf 1 = .ok (.getfield 42, 3) := by decide +kernel
theorem dX0_orderOf_4 : decode cX0_orderOf 4 = .ok (.iload_n 1, 1) := by decide +kernel
theorem dX0_orderOf_5 : decode cX0_orderOf 5 = .ok (.aaload, 1) := by decide +kernel
theorem dX0_orderOf_6 : decode cX0_orderOf 6 = .ok (.iload_n 2, 1) := by decide +kernel
theorem dX0_orderOf_7 : decode cX0_orderOf 7 = .ok (.iaload, 1) := by decide +kernel
theorem dX0_orderOf_8 : decode cX0_orderOf 8 = .ok (.istore_n 3, 1) := by decide +kernel
theorem dX0_orderOf_9 : decode cX0_orderOf 9 = .ok (.iload_n 3, 1) := by decide +kernel
theorem dX0_orderOf_10 : decode cX0_orderOf 10 = .ok (.ifCond .eq 14, 3) := by decide +kernel
theorem dX0_orderOf_13 : decode cX0_orderOf 13 = .ok (.aload_n 0, 1) := by decide +kernel
theorem dX0_orderOf_14 : decode cX0_orderOf 14 = .ok (.getfield 31, 3) := by decide +kernel
theorem dX0_orderOf_17 : decode cX0_orderOf 17 = .ok (.iload_n 3, 1) := by decide +kernel
theorem dX0_orderOf_18 : decode cX0_orderOf 18 = .ok (.iconst 1, 1) := by decide +kernel
theorem dX0_orderOf_19 : decode cX0_orderOf 19 = .ok (.isub, 1) := by decide +kernel
theorem dX0_orderOf_20 : decode cX0_orderOf 20 = .ok (.iaload, 1) := by decide +kernel
theorem dX0_orderOf_21 : decode cX0_orderOf 21 = .ok (.goto 4, 3) := by decide +kernel
theorem dX0_orderOf_24 : decode cX0_orderOf 24 = .ok (.iconst 0, 1) := by decide +kernel
theorem dX0_orderOf_25 : decode cX0_orderOf 25 = .ok (.ireturn, 1) := by decide +kernel
theorem dX0_addBond_0 : decode cX0_addBond 0 = .ok (.aload_n 0, 1) := by decide +kernel
theorem dX0_addBond_1 : decode cX0_addBond 1 = .ok (.getfield 37, 3) := by decide +kernel
theorem dX0_addBond_4 : decode cX0_addBond 4 = .ok (.istore 5, 2) := by decide +kernel
theorem dX0_addBond_6 : decode cX0_addBond 6 = .ok (.aload_n 0, 1) := by decide +kernel
theorem dX0_addBond_7 : decode cX0_addBond 7 = .ok (.getfield 25, 3) := by decide +kernel
theorem dX0_addBond_10 : decode cX0_addBond 10 = .ok (.iload 5, 2) := by decide +kernel
theorem dX0_addBond_12 : decode cX0_addBond 12 = .ok (.iload_n 1, 1) := by decide +kernel
theorem dX0_addBond_13 : decode cX0_addBond 13 = .ok (.iastore, 1) := by decide +kernel
theorem dX0_addBond_14 : decode cX0_addBond 14 = .ok (.aload_n 0, 1) := by decide +kernel
theorem dX0_addBond_15 : decode cX0_addBond 15 = .ok (.getfield 28, 3) := by decide +kernel
theorem dX0_addBond_18 : decode cX0_addBond 18 = .ok (.iload 5, 2) := by decide +kernel
theorem dX0_addBond_20 : decode cX0_addBond 20 = .ok (.iload_n 2, 1) := by decide +kernel
theorem dX0_addBond_21 : decode cX0_addBond 21 = .ok (.iastore, 1) := by decide +kernel
theorem dX0_addBond_22 : decode cX0_addBond 22 = .ok (.aload_n 0, 1) := by decide +kernel
theorem dX0_addBond_23 : decode cX0_addBond 23 = .ok (.getfield 31, 3) := by decide +kernel
theorem dX0_addBond_26 : decode cX0_addBond 26 = .ok (.iload 5, 2) := by decide +kernel
theorem dX0_addBond_28 : decode cX0_addBond 28 = .ok (.iload_n 3, 1) := by decide +kernel
theorem dX0_addBond_29 : decode cX0_addBond 29 = .ok (.iastore, 1) := by decide +kernel
theorem dX0_addBond_30 : decode cX0_addBond 30 = .ok (.aload_n 0, 1) := by decide +kernel
theorem dX0_addBond_31 : decode cX0_addBond 31 = .ok (.getfield 34, 3) := by decide +kernel
theorem dX0_addBond_34 : decode cX0_addBond 34 = .ok (.iload 5, 2) := by decide +kernel
theorem dX0_addBond_36 : decode cX0_addBond 36 = .ok (.iload 4, 2) := by decide +kernel
theorem dX0_addBond_38 : decode cX0_addBond 38 = .ok (.iastore, 1) := by decide +kernel
theorem dX0_addBond_39 : decode cX0_addBond 39 = .ok (.aload_n 0, 1) := by decide +kernel
theorem dX0_addBond_40 : decode cX0_addBond 40 = .ok (.dup, 1) := by decide +kernel
theorem dX0_addBond_41 : decode cX0_addBond 41 = .ok (.getfield 37, 3) := by decide +kernel
theorem dX0_addBond_44 : decode cX0_addBond 44 = .ok (.iconst 1, 1) := by decide +kernel
theorem dX0_addBond_45 : decode cX0_addBond 45 = .ok (.iadd, 1) := by decide +kernel
theorem dX0_addBond_46 : decode cX0_addBond 46 = .ok (.putfield 37, 3) := by decide +kernel
theorem dX0_addBond_49 : decode cX0_addBond 49 = .ok (.aload_n 0, 1) := by decide +kernel
theorem dX0_addBond_50 : decode cX0_addBond 50 = .ok (.getfield 42, 3) := by decide +kernel
theorem dX0_addBond_53 : decode cX0_addBond 53 = .ok (.iload_n 1, 1) := by decide +kernel
theorem dX0_addBond_54 : decode cX0_addBond 54 = .ok (.aaload, 1) := by decide +kernel
theorem dX0_addBond_55 : decode cX0_addBond 55 = .ok (.iload_n 2, 1) := by decide +kernel
theorem dX0_addBond_56 : decode cX0_addBond 56 = .ok (.aload_n 0, 1) := by decide +kernel
theorem dX0_addBond_57 : decode cX0_addBond 57 = .ok (.getfield 37, 3) := by decide +kernel
theorem dX0_addBond_60 : decode cX0_addBond 60 = .ok (.iastore, 1) := by decide +kernel
theorem dX0_addBond_61 : decode cX0_addBond 61 = .ok (.aload_n 0, 1) := by decide +kernel
theorem dX0_addBond_62 : decode cX0_addBond 62 = .ok (.getfield 42, 3) := by decide +kernel
theorem dX0_addBond_65 : decode cX0_addBond 65 = .ok (.iload_n 2, 1) := by decide +kernel
theorem dX0_addBond_66 : decode cX0_addBond 66 = .ok (.aaload, 1) := by decide +kernel
theorem dX0_addBond_67 : decode cX0_addBond 67 = .ok (.iload_n 1, 1) := by decide +kernel
theorem dX0_addBond_68 : decode cX0_addBond 68 = .ok (.aload_n 0, 1) := by decide +kernel
theorem dX0_addBond_69 : decode cX0_addBond 69 = .ok (.getfield 37, 3) := by decide +kernel
theorem dX0_addBond_72 : decode cX0_addBond 72 = .ok (.iastore, 1) := by decide +kernel
theorem dX0_addBond_73 : decode cX0_addBond 73 = .ok (.iload 5, 2) := by decide +kernel
theorem dX0_addBond_75 : decode cX0_addBond 75 = .ok (.ireturn, 1) := by decide +kernel
theorem dX6_move_0 : decode cX6_move 0 = .ok (.aload_n 0, 1) := by decide +kernel
theorem dX6_move_1 : decode cX6_move 1 = .ok (.getfield 14, 3) := by decide +kernel
theorem dX6_move_4 : decode cX6_move 4 = .ok (.iload_n 1, 1) := by decide +kernel
theorem dX6_move_5 : decode cX6_move 5 = .ok (.invokevirtual 85, 3) := by decide +kernel
theorem dX6_move_8 : decode cX6_move 8 = .ok (.ifCond .eq 11, 3) := by decide +kernel
theorem dX6_move_11 : decode cX6_move 11 = .ok (.iload_n 2, 1) := by decide +kernel
theorem dX6_move_12 : decode cX6_move 12 = .ok (.iload_n 3, 1) := by decide +kernel
theorem dX6_move_13 : decode cX6_move 13 = .ok (.invokestatic 74, 3) := by decide +kernel
theorem dX6_move_16 : decode cX6_move 16 = .ok (.ifCond .ne 5, 3) := by decide +kernel
theorem dX6_move_19 : decode cX6_move 19 = .ok (.iconst 0, 1) := by decide +kernel
theorem dX6_move_20 : decode cX6_move 20 = .ok (.ireturn, 1) := by decide +kernel
theorem dX6_move_21 : decode cX6_move 21 = .ok (.aload_n 0, 1) := by decide +kernel
theorem dX6_move_22 : decode cX6_move 22 = .ok (.iconst 0, 1) := by decide +kernel
theorem dX6_move_23 : decode cX6_move 23 = .ok (.putfield 67, 3) := by decide +kernel
theorem dX6_move_26 : decode cX6_move 26 = .ok (.aload_n 0, 1) := by decide +kernel
theorem dX6_move_27 : decode cX6_move 27 = .ok (.getfield 14, 3) := by decide +kernel
theorem dX6_move_30 : decode cX6_move 30 = .ok (.getfield 106, 3) := by decide +kernel
theorem dX6_move_33 : decode cX6_move 33 = .ok (.iload_n 1, 1) := by decide +kernel
theorem dX6_move_34 : decode cX6_move 34 = .ok (.iload_n 2, 1) := by decide +kernel
theorem dX6_move_35 : decode cX6_move 35 = .ok (.iastore, 1) := by decide +kernel
theorem dX6_move_36 : decode cX6_move 36 = .ok (.aload_n 0, 1) := by decide +kernel
theorem dX6_move_37 : decode cX6_move 37 = .ok (.getfield 14, 3) := by decide +kernel
theorem dX6_move_40 : decode cX6_move 40 = .ok (.getfield 109, 3) := by decide +kernel
theorem dX6_move_43 : decode cX6_move 43 = .ok (.iload_n 1, 1) := by decide +kernel
theorem dX6_move_44 : decode cX6_move 44 = .ok (.iload_n 3, 1) := by decide +kernel
theorem dX6_move_45 : decode cX6_move 45 = .ok (.iastore, 1) := by decide +kernel
theorem dX6_move_46 : decode cX6_move 46 = .ok (.iconst 1, 1) := by decide +kernel
theorem dX6_move_47 : decode cX6_move 47 = .ok (.ireturn, 1) := by decide +kernel
theorem dX6_mark_0 : decode cX6_mark 0 = .ok (.aload_n 0, 1) := by decide +kernel
theorem dX6_mark_1 : decode cX6_mark 1 = .ok (.getfield 14, 3) := by decide +kernel
theorem dX6_mark_4 : decode cX6_mark 4 = .ok (.iload_n 1, 1) := by decide +kernel
theorem dX6_mark_5 : decode cX6_mark 5 = .ok (.invokevirtual 112, 3) := by decide +kernel
theorem dX6_mark_8 : decode cX6_mark 8 = .ok (.ifCond .eq 22, 3) := by decide +kernel
theorem dX6_mark_11 : decode cX6_mark 11 = .ok (.iload_n 2, 1) := by decide +kernel
theorem dX6_mark_12 : decode cX6_mark 12 = .ok (.invokestatic 89, 3) := by decide +kernel
theorem dX6_mark_15 : decode cX6_mark 15 = .ok (.ifCond .eq 15, 3) := by decide +kernel
theorem dX6_mark_18 : decode cX6_mark 18 = .ok (.aload_n 0, 1) := by decide +kernel
theorem dX6_mark_19 : decode cX6_mark 19 = .ok (.getfield 14, 3) := by decide +kernel
theorem dX6_mark_22 : decode cX6_mark 22 = .ok (.iload_n 1, 1) := by decide +kernel
theorem dX6_mark_23 : decode cX6_mark 23 = .ok (.iload_n 3, 1) := by decide +kernel
theorem dX6_mark_24 : decode cX6_mark 24 = .ok (.invokevirtual 115, 3) := by decide +kernel
theorem dX6_mark_27 : decode cX6_mark 27 = .ok (.ifCond .ne 5, 3) := by decide +kernel
theorem dX6_mark_30 : decode cX6_mark 30 = .ok (.iconst 0, 1) := by decide +kernel
theorem dX6_mark_31 : decode cX6_mark 31 = .ok (.ireturn, 1) := by decide +kernel
theorem dX6_mark_32 : decode cX6_mark 32 = .ok (.aload_n 0, 1) := by decide +kernel
theorem dX6_mark_33 : decode cX6_mark 33 = .ok (.iconst 0, 1) := by decide +kernel
theorem dX6_mark_34 : decode cX6_mark 34 = .ok (.putfield 67, 3) := by decide +kernel
theorem dX6_mark_37 : decode cX6_mark 37 = .ok (.aload_n 0, 1) := by decide +kernel
theorem dX6_mark_38 : decode cX6_mark 38 = .ok (.getfield 14, 3) := by decide +kernel
theorem dX6_mark_41 : decode cX6_mark 41 = .ok (.iload_n 1, 1) := by decide +kernel
theorem dX6_mark_42 : decode cX6_mark 42 = .ok (.iload_n 2, 1) := by decide +kernel
theorem dX6_mark_43 : decode cX6_mark 43 = .ok (.iload_n 3, 1) := by decide +kernel
theorem dX6_mark_44 : decode cX6_mark 44 = .ok (.invokevirtual 118, 3) := by decide +kernel
theorem dX6_mark_47 : decode cX6_mark 47 = .ok (.iconst 1, 1) := by decide +kernel
theorem dX6_mark_48 : decode cX6_mark 48 = .ok (.ireturn, 1) := by decide +kernel
theorem dX0_hasBond_0 : decode cX0_hasBond 0 = .ok (.iload_n 1, 1) := by decide +kernel
theorem dX0_hasBond_1 : decode cX0_hasBond 1 = .ok (.ifCond .lt 15, 3) := by decide +kernel
theorem dX0_hasBond_4 : decode cX0_hasBond 4 = .ok (.iload_n 1, 1) := by decide +kernel
theorem dX0_hasBond_5 : decode cX0_hasBond 5 = .ok (.aload_n 0, 1) := by decide +kernel
theorem dX0_hasBond_6 : decode cX0_hasBond 6 = .ok (.getfield 37, 3) := by decide +kernel
theorem dX0_hasBond_9 : decode cX0_hasBond 9 = .ok (.if_icmp .ge 7, 3) := by decide +kernel
theorem dX0_hasBond_12 : decode cX0_hasBond 12 = .ok (.iconst 1, 1) := by decide +kernel
theorem dX0_hasBond_13 : decode cX0_hasBond 13 = .ok (.goto 4, 3) := by decide +kernel
theorem dX0_hasBond_16 : decode cX0_hasBond 16 = .ok (.iconst 0, 1) := by decide +kernel
theorem dX0_hasBond_17 : decode cX0_hasBond 17 = .ok (.ireturn, 1) := by decide +kernel
theorem dX0_isEnd_0 : decode cX0_isEnd 0 = .ok (.aload_n 0, 1) := by decide +kernel
theorem dX0_isEnd_1 : decode cX0_isEnd 1 = .ok (.getfield 25, 3) := by decide +kernel
theorem dX0_isEnd_4 : decode cX0_isEnd 4 = .ok (.iload_n 1, 1) := by decide +kernel
theorem dX0_isEnd_5 : decode cX0_isEnd 5 = .ok (.iaload, 1) := by decide +kernel
theorem dX0_isEnd_6 : decode cX0_isEnd 6 = .ok (.iload_n 2, 1) := by decide +kernel
theorem dX0_isEnd_7 : decode cX0_isEnd 7 = .ok (.if_icmp .eq 13, 3) := by decide +kernel
theorem dX0_isEnd_10 : decode cX0_isEnd 10 = .ok (.aload_n 0, 1) := by decide +kernel
theorem dX0_isEnd_11 : decode cX0_isEnd 11 = .ok (.getfield 28, 3) := by decide +kernel
theorem dX0_isEnd_14 : decode cX0_isEnd 14 = .ok (.iload_n 1, 1) := by decide +kernel
theorem dX0_isEnd_15 : decode cX0_isEnd 15 = .ok (.iaload, 1) := by decide +kernel
theorem dX0_isEnd_16 : decode cX0_isEnd 16 = .ok (.iload_n 2, 1) := by decide +kernel
theorem dX0_isEnd_17 : decode cX0_isEnd 17 = .ok (.if_icmp .ne 7, 3) := by decide +kernel
theorem dX0_isEnd_20 : decode cX0_isEnd 20 = .ok (.iconst 1, 1) := by decide +kernel
theorem dX0_isEnd_21 : decode cX0_isEnd 21 = .ok (.goto 4, 3) := by decide +kernel
theorem dX0_isEnd_24 : decode cX0_isEnd 24 = .ok (.iconst 0, 1) := by decide +kernel
theorem dX0_isEnd_25 : decode cX0_isEnd 25 = .ok (.ireturn, 1) := by decide +kernel
theorem dX0_setMark_0 : decode cX0_setMark 0 = .ok (.aload_n 0, 1) := by decide +kernel
theorem dX0_setMark_1 : decode cX0_setMark 1 = .ok (.getfield 25, 3) := by decide +kernel
theorem dX0_setMark_4 : decode cX0_setMark 4 = .ok (.iload_n 1, 1) := by decide +kernel
theorem dX0_setMark_5 : decode cX0_setMark 5 = .ok (.iaload, 1) := by decide +kernel
theorem dX0_setMark_6 : decode cX0_setMark 6 = .ok (.iload_n 3, 1) := by decide +kernel
theorem dX0_setMark_7 : decode cX0_setMark 7 = .ok (.if_icmp .ne 12, 3) := by decide +kernel
theorem dX0_setMark_10 : decode cX0_setMark 10 = .ok (.aload_n 0, 1) := by decide +kernel
theorem dX0_setMark_11 : decode cX0_setMark 11 = .ok (.getfield 28, 3) := by decide +kernel
theorem dX0_setMark_14 : decode cX0_setMark 14 = .ok (.iload_n 1, 1) := by decide +kernel
theorem dX0_setMark_15 : decode cX0_setMark 15 = .ok (.iaload, 1) := by decide +kernel
theorem dX0_setMark_16 : decode cX0_setMark 16 = .ok (.goto 9, 3) := by decide +kernel
theorem dX0_setMark_19 : decode cX0_setMark 19 = .ok (.aload_n 0, 1) := by decide +kernel
theorem dX0_setMark_20 : decode cX0_setMark 20 = .ok (.getfield 25, 3) := by decide +kernel
theorem dX0_setMark_23 : decode cX0_setMark 23 = .ok (.iload_n 1, 1) := by decide +kernel
theorem dX0_setMark_24 : decode cX0_setMark 24 = .ok (.iaload, 1) := by decide +kernel
theorem dX0_setMark_25 : decode cX0_setMark 25 = .ok (.istore 4, 2) := by decide +kernel
theorem dX0_setMark_27 : decode cX0_setMark 27 = .ok (.aload_n 0, 1) := by decide +kernel
theorem dX0_setMark_28 : decode cX0_setMark 28 = .ok (.getfield 25, 3) := by decide +kernel
theorem dX0_setMark_31 : decode cX0_setMark 31 = .ok (.iload_n 1, 1) := by decide +kernel
theorem dX0_setMark_32 : decode cX0_setMark 32 = .ok (.iload_n 3, 1) := by decide +kernel
theorem dX0_setMark_33 : decode cX0_setMark 33 = .ok (.iastore, 1) := by decide +kernel
theorem dX0_setMark_34 : decode cX0_setMark 34 = .ok (.aload_n 0, 1) := by decide +kernel
theorem dX0_setMark_35 : decode cX0_setMark 35 = .ok (.getfield 28, 3) := by decide +kernel
theorem dX0_setMark_38 : decode cX0_setMark 38 = .ok (.iload_n 1, 1) := by decide +kernel
theorem dX0_setMark_39 : decode cX0_setMark 39 = .ok (.iload 4, 2) := by decide +kernel
theorem dX0_setMark_41 : decode cX0_setMark 41 = .ok (.iastore, 1) := by decide +kernel
theorem dX0_setMark_42 : decode cX0_setMark 42 = .ok (.aload_n 0, 1) := by decide +kernel
theorem dX0_setMark_43 : decode cX0_setMark 43 = .ok (.getfield 34, 3) := by decide +kernel
theorem dX0_setMark_46 : decode cX0_setMark 46 = .ok (.iload_n 1, 1) := by decide +kernel
theorem dX0_setMark_47 : decode cX0_setMark 47 = .ok (.iload_n 2, 1) := by decide +kernel
theorem dX0_setMark_48 : decode cX0_setMark 48 = .ok (.iastore, 1) := by decide +kernel
theorem dX0_setMark_49 : decode cX0_setMark 49 = .ok (.return_, 1) := by decide +kernel
theorem dX6_clear_0 : decode cX6_clear 0 = .ok (.aload_n 0, 1) := by decide +kernel
theorem dX6_clear_1 : decode cX6_clear 1 = .ok (.iconst 0, 1) := by decide +kernel
theorem dX6_clear_2 : decode cX6_clear 2 = .ok (.putfield 67, 3) := by decide +kernel
theorem dX6_clear_5 : decode cX6_clear 5 = .ok (.aload_n 0, 1) := by decide +kernel
theorem dX6_clear_6 : decode cX6_clear 6 = .ok (.getfield 14, 3) := by decide +kernel
theorem dX6_clear_9 : decode cX6_clear 9 = .ok (.getfield 78, 3) := by decide +kernel
theorem dX6_clear_12 : decode cX6_clear 12 = .ok (.istore_n 1, 1) := by decide +kernel
theorem dX6_clear_13 : decode cX6_clear 13 = .ok (.aload_n 0, 1) := by decide +kernel
theorem dX6_clear_14 : decode cX6_clear 14 = .ok (.getfield 14, 3) := by decide +kernel
theorem dX6_clear_17 : decode cX6_clear 17 = .ok (.invokevirtual 122, 3) := by decide +kernel
theorem dX6_clear_20 : decode cX6_clear 20 = .ok (.iload_n 1, 1) := by decide +kernel
theorem dX6_clear_21 : decode cX6_clear 21 = .ok (.ireturn, 1) := by decide +kernel
theorem dX0_removeAll_0 : decode cX0_removeAll 0 = .ok (.iconst 0, 1) := by decide +kernel
theorem dX0_removeAll_1 : decode cX0_removeAll 1 = .ok (.istore_n 1, 1) := by decide +kernel
theorem dX0_removeAll_2 : decode cX0_removeAll 2 = .ok (.iload_n 1, 1) := by decide +kernel
theorem dX0_removeAll_3 : decode cX0_removeAll 3 = .ok (.aload_n 0, 1) := by decide +kernel
theorem dX0_removeAll_4 : decode cX0_removeAll 4 = .ok (.getfield 21, 3) := by decide +kernel
theorem dX0_removeAll_7 : decode cX0_removeAll 7 = .ok (.if_icmp .ge 19, 3) := by decide +kernel
theorem dX0_removeAll_10 : decode cX0_removeAll 10 = .ok (.aload_n 0, 1) := by decide +kernel
theorem dX0_removeAll_11 : decode cX0_removeAll 11 = .ok (.getfield 42, 3) := by decide +kernel
theorem dX0_removeAll_14 : decode cX0_removeAll 14 = .ok (.iload_n 1, 1) := by decide +kernel
theorem dX0_removeAll_15 : decode cX0_removeAll 15 = .ok (.aaload, 1) := by decide +kernel
theorem dX0_removeAll_16 : decode cX0_removeAll 16 = .ok (.iconst 0, 1) := by decide +kernel
theorem dX0_removeAll_17 : decode cX0_removeAll 17 = .ok (.invokestatic 45, 3) := by decide +kernel
theorem dX0_removeAll_20 : decode cX0_removeAll 20 = .ok (.iinc 1 1, 3) := by decide +kernel
theorem dX0_removeAll_23 : decode cX0_removeAll 23 = .ok (.goto (-21), 3) := by decide +kernel
theorem dX0_removeAll_26 : decode cX0_removeAll 26 = .ok (.aload_n 0, 1) := by decide +kernel
theorem dX0_removeAll_27 : decode cX0_removeAll 27 = .ok (.iconst 0, 1) := by decide +kernel
theorem dX0_removeAll_28 : decode cX0_removeAll 28 = .ok (.putfield 21, 3) := by decide +kernel
theorem dX0_removeAll_31 : decode cX0_removeAll 31 = .ok (.aload_n 0, 1) := by decide +kernel
theorem dX0_removeAll_32 : decode cX0_removeAll 32 = .ok (.iconst 0, 1) := by decide +kernel
theorem dX0_removeAll_33 : decode cX0_removeAll 33 = .ok (.putfield 37, 3) := by decide +kernel
theorem dX0_removeAll_36 : decode cX0_removeAll 36 = .ok (.return_, 1) := by decide +kernel
theorem dJ7_fill_0 : decode cJ7_fill 0 = .ok (.iconst 0, 1) := by decide +kernel
theorem dJ7_fill_1 : decode cJ7_fill 1 = .ok (.istore_n 2, 1) := by decide +kernel
theorem dJ7_fill_2 : decode cJ7_fill 2 = .ok (.aload_n 0, 1) := by decide +kernel
theorem dJ7_fill_3 : decode cJ7_fill 3 = .ok (.arraylength, 1) := by decide +kernel
theorem dJ7_fill_4 : decode cJ7_fill 4 = .ok (.istore_n 3, 1) := by decide +kernel
theorem dJ7_fill_5 : decode cJ7_fill 5 = .ok (.iload_n 2, 1) := by decide +kernel
theorem dJ7_fill_6 : decode cJ7_fill 6 = .ok (.iload_n 3, 1) := by decide +kernel
theorem dJ7_fill_7 : decode cJ7_fill 7 = .ok (.if_icmp .ge 13, 3) := by decide +kernel
theorem dJ7_fill_10 : decode cJ7_fill 10 = .ok (.aload_n 0, 1) := by decide +kernel
theorem dJ7_fill_11 : decode cJ7_fill 11 = .ok (.iload_n 2, 1) := by decide +kernel
theorem dJ7_fill_12 : decode cJ7_fill 12 = .ok (.iload_n 1, 1) := by decide +kernel
theorem dJ7_fill_13 : decode cJ7_fill 13 = .ok (.iastore, 1) := by decide +kernel
theorem dJ7_fill_14 : decode cJ7_fill 14 = .ok (.iinc 2 1, 3) := by decide +kernel
theorem dJ7_fill_17 : decode cJ7_fill 17 = .ok (.goto (-12), 3) := by decide +kernel
theorem dJ7_fill_20 : decode cJ7_fill 20 = .ok (.return_, 1) := by decide +kernel
theorem dX6_flip_0 : decode cX6_flip 0 = .ok (.aload_n 0, 1) := by decide +kernel
theorem dX6_flip_1 : decode cX6_flip 1 = .ok (.iconst 0, 1) := by decide +kernel
theorem dX6_flip_2 : decode cX6_flip 2 = .ok (.putfield 67, 3) := by decide +kernel
theorem dX6_flip_5 : decode cX6_flip 5 = .ok (.aload_n 0, 1) := by decide +kernel
theorem dX6_flip_6 : decode cX6_flip 6 = .ok (.getfield 14, 3) := by decide +kernel
theorem dX6_flip_9 : decode cX6_flip 9 = .ok (.invokevirtual 125, 3) := by decide +kernel
theorem dX6_flip_12 : decode cX6_flip 12 = .ok (.ireturn, 1) := by decide +kernel
theorem dX0_swapMarks_0 : decode cX0_swapMarks 0 = .ok (.iconst 0, 1) := by decide +kernel
theorem dX0_swapMarks_1 : decode cX0_swapMarks 1 = .ok (.istore_n 1, 1) := by decide +kernel
theorem dX0_swapMarks_2 : decode cX0_swapMarks 2 = .ok (.iconst 0, 1) := by decide +kernel
theorem dX0_swapMarks_3 : decode cX0_swapMarks 3 = .ok (.istore_n 2, 1) := by decide +kernel
theorem dX0_swapMarks_4 : decode cX0_swapMarks 4 = .ok (.iload_n 2, 1) := by decide +kernel
theorem dX0_swapMarks_5 : decode cX0_swapMarks 5 = .ok (.aload_n 0, 1) := by decide +kernel
theorem dX0_swapMarks_6 : decode cX0_swapMarks 6 = .ok (.getfield 37, 3) := by decide +kernel
theorem dX0_swapMarks_9 : decode cX0_swapMarks 9 = .ok (.if_icmp .ge 42, 3) := by decide +kernel
theorem dX0_swapMarks_12 : decode cX0_swapMarks 12 = .ok (.aload_n 0, 1) := by decide +kernel
theorem dX0_swapMarks_13 : decode cX0_swapMarks 13 = .ok (.getfield 34, 3) := by decide +kernel
theorem dX0_swapMarks_16 : decode cX0_swapMarks 16 = .ok (.iload_n 2, 1) := by decide +kernel
theorem dX0_swapMarks_17 : decode cX0_swapMarks 17 = .ok (.iaload, 1) := by decide +kernel
theorem dX0_swapMarks_18 : decode cX0_swapMarks 18 = .ok (.ifCond .eq 27, 3) := by decide +kernel
theorem dX0_swapMarks_21 : decode cX0_swapMarks 21 = .ok (.aload_n 0, 1) := by decide +kernel
theorem dX0_swapMarks_22 : decode cX0_swapMarks 22 = .ok (.getfield 34, 3) := by decide +kernel
theorem dX0_swapMarks_25 : decode cX0_swapMarks 25 = .ok (.iload_n 2, 1) := by decide +kernel
theorem dX0_swapMarks_26 : decode cX0_swapMarks 26 = .ok (.aload_n 0, 1) := by decide +kernel
theorem dX0_swapMarks_27 : decode cX0_swapMarks 27 = .ok (.getfield 34, 3) := by decide +kernel
theorem dX0_swapMarks_30 : decode cX0_swapMarks 30 = .ok (.iload_n 2, 1) := by decide +kernel
theorem dX0_swapMarks_31 : decode cX0_swapMarks 31 = .ok (.iaload, 1) := by decide +kernel
theorem dX0_swapMarks_32 : decode cX0_swapMarks 32 = .ok (.iconst 1, 1) := by decide +kernel
theorem dX0_swapMarks_33 : decode cX0_swapMarks 33 = .ok (.if_icmp .ne 7, 3) := by decide +kernel
theorem dX0_swapMarks_36 : decode cX0_swapMarks 36 = .ok (.iconst 2, 1) := by decide +kernel
theorem dX0_swapMarks_37 : decode cX0_swapMarks 37 = .ok (.goto 4, 3) := by decide +kernel
theorem dX0_swapMarks_40 : decode cX0_swapMarks 40 = .ok (.iconst 1, 1) := by decide +kernel
theorem dX0_swapMarks_41 : decode cX0_swapMarks 41 = .ok (.iastore, 1) := by decide +kernel
theorem dX0_swapMarks_42 : decode cX0_swapMarks 42 = .ok (.iinc 1 1, 3) := by decide +kernel
theorem dX0_swapMarks_45 : decode cX0_swapMarks 45 = .ok (.iinc 2 1, 3) := by decide +kernel
theorem dX0_swapMarks_48 : decode cX0_swapMarks 48 = .ok (.goto (-44), 3) := by decide +kernel
theorem dX0_swapMarks_51 : decode cX0_swapMarks 51 = .ok (.iload_n 1, 1) := by decide +kernel
theorem dX0_swapMarks_52 : decode cX0_swapMarks 52 = .ok (.ireturn, 1) := by decide +kernel
theorem dX6_hydrogens_0 : decode cX6_hydrogens 0 = .ok (.aload_n 0, 1) := by decide +kernel
theorem dX6_hydrogens_1 : decode cX6_hydrogens 1 = .ok (.getfield 14, 3) := by decide +kernel
theorem dX6_hydrogens_4 : decode cX6_hydrogens 4 = .ok (.iload_n 1, 1) := by decide +kernel
theorem dX6_hydrogens_5 : decode cX6_hydrogens 5 = .ok (.invokevirtual 85, 3) := by decide +kernel
theorem dX6_hydrogens_8 : decode cX6_hydrogens 8 = .ok (.ifCond .eq 14, 3) := by decide +kernel
theorem dX6_hydrogens_11 : decode cX6_hydrogens 11 = .ok (.aload_n 0, 1) := by decide +kernel
theorem dX6_hydrogens_12 : decode cX6_hydrogens 12 = .ok (.getfield 14, 3) := by decide +kernel
theorem dX6_hydrogens_15 : decode cX6_hydrogens 15 = .ok (.iload_n 1, 1) := by decide +kernel
theorem dX6_hydrogens_16 : decode cX6_hydrogens 16 = .ok (.invokevirtual 98, 3) := by decide +kernel
theorem dX6_hydrogens_19 : decode cX6_hydrogens 19 = .ok (.goto 4, 3) := by decide +kernel
theorem dX6_hydrogens_22 : decode cX6_hydrogens 22 = .ok (.iconst (-1), 1) := by decide +kernel
theorem dX6_hydrogens_23 : decode cX6_hydrogens 23 = .ok (.ireturn, 1) := by decide +kernel
theorem dX6_sense_0 : decode cX6_sense 0 = .ok (.aload_n 0, 1) := by decide +kernel
theorem dX6_sense_1 : decode cX6_sense 1 = .ok (.getfield 14, 3) := by decide +kernel
theorem dX6_sense_4 : decode cX6_sense 4 = .ok (.iload_n 1, 1) := by decide +kernel
theorem dX6_sense_5 : decode cX6_sense 5 = .ok (.invokevirtual 85, 3) := by decide +kernel
theorem dX6_sense_8 : decode cX6_sense 8 = .ok (.ifCond .ne 5, 3) := by decide +kernel
theorem dX6_sense_11 : decode cX6_sense 11 = .ok (.iconst (-1), 1) := by decide +kernel
theorem dX6_sense_12 : decode cX6_sense 12 = .ok (.ireturn, 1) := by decide +kernel
theorem dX6_sense_13 : decode cX6_sense 13 = .ok (.aload_n 0, 1) := by decide +kernel
theorem dX6_sense_14 : decode cX6_sense 14 = .ok (.getfield 21, 3) := by decide +kernel
theorem dX6_sense_17 : decode cX6_sense 17 = .ok (.aload_n 0, 1) := by decide +kernel
theorem dX6_sense_18 : decode cX6_sense 18 = .ok (.getfield 14, 3) := by decide +kernel
theorem dX6_sense_21 : decode cX6_sense 21 = .ok (.iload_n 1, 1) := by decide +kernel
theorem dX6_sense_22 : decode cX6_sense 22 = .ok (.invokevirtual 129, 3) := by decide +kernel
theorem dX6_sense_25 : decode cX6_sense 25 = .ok (.iconst 1, 1) := by decide +kernel
theorem dX6_sense_26 : decode cX6_sense 26 = .ok (.iadd, 1) := by decide +kernel
theorem dX6_sense_27 : decode cX6_sense 27 = .ok (.aload_n 0, 1) := by decide +kernel
theorem dX6_sense_28 : decode cX6_sense 28 = .ok (.getfield 14, 3) := by decide +kernel
theorem dX6_sense_31 : decode cX6_sense 31 = .ok (.iload_n 1, 1) := by decide +kernel
theorem dX6_sense_32 : decode cX6_sense 32 = .ok (.invokevirtual 133, 3) := by decide +kernel
theorem dX6_sense_35 : decode cX6_sense 35 = .ok (.ifCond .eq 7, 3) := by decide +kernel
theorem dX6_sense_38 : decode cX6_sense 38 = .ok (.iconst 4, 1) := by decide +kernel
theorem dX6_sense_39 : decode cX6_sense 39 = .ok (.goto 4, 3) := by decide +kernel
theorem dX6_sense_42 : decode cX6_sense 42 = .ok (.iconst 0, 1) := by decide +kernel
theorem dX6_sense_43 : decode cX6_sense 43 = .ok (.iadd, 1) := by decide +kernel
theorem dX6_sense_44 : decode cX6_sense 44 = .ok (.ireturn, 1) := by decide +kernel
theorem dX4_senseOfAtom_0 : decode cX4_senseOfAtom 0 = .ok (.aload_n 1, 1) := by decide +kernel
theorem dX4_senseOfAtom_1 : decode cX4_senseOfAtom 1 = .ok (.iload_n 2, 1) := by decide +kernel
theorem dX4_senseOfAtom_2 : decode cX4_senseOfAtom 2 = .ok (.invokevirtual 51, 3) := by decide +kernel
theorem dX4_senseOfAtom_5 : decode cX4_senseOfAtom 5 = .ok (.ifCond .ne 5, 3) := by decide +kernel
theorem dX4_senseOfAtom_8 : decode cX4_senseOfAtom 8 = .ok (.iconst 0, 1) := by decide +kernel
theorem dX4_senseOfAtom_9 : decode cX4_senseOfAtom 9 = .ok (.ireturn, 1) := by decide +kernel
theorem dX4_senseOfAtom_10 : decode cX4_senseOfAtom 10 = .ok (.iconst 0, 1) := by decide +kernel
theorem dX4_senseOfAtom_11 : decode cX4_senseOfAtom 11 = .ok (.istore_n 3, 1) := by decide +kernel
theorem dX4_senseOfAtom_12 : decode cX4_senseOfAtom 12 = .ok (.iconst 0, 1) := by decide +kernel
theorem dX4_senseOfAtom_13 : decode cX4_senseOfAtom 13 = .ok (.istore 4, 2) := by decide +kernel
theorem dX4_senseOfAtom_15 : decode cX4_senseOfAtom 15 = .ok (.iload 4, 2) := by decide +kernel
theorem dX4_senseOfAtom_17 : decode cX4_senseOfAtom 17 = .ok (.aload_n 1, 1) := by decide +kernel
theorem dX4_senseOfAtom_18 : decode cX4_senseOfAtom 18 = .ok (.getfield 25, 3) := by decide +kernel
theorem dX4_senseOfAtom_21 : decode cX4_senseOfAtom 21 = .ok (.if_icmp .ge 39, 3) := by decide +kernel
theorem dX4_senseOfAtom_24 : decode cX4_senseOfAtom 24 = .ok (.aload_n 1, 1) := by decide +kernel
theorem dX4_senseOfAtom_25 : decode cX4_senseOfAtom 25 = .ok (.iload_n 2, 1) := by decide +kernel
theorem dX4_senseOfAtom_26 : decode cX4_senseOfAtom 26 = .ok (.iload 4, 2) := by decide +kernel
theorem dX4_senseOfAtom_28 : decode cX4_senseOfAtom 28 = .ok (.invokevirtual 54, 3) := by decide +kernel
theorem dX4_senseOfAtom_31 : decode cX4_senseOfAtom 31 = .ok (.ifCond .eq 23, 3) := by decide +kernel
theorem dX4_senseOfAtom_34 : decode cX4_senseOfAtom 34 = .ok (.iload_n 3, 1) := by decide +kernel
theorem dX4_senseOfAtom_35 : decode cX4_senseOfAtom 35 = .ok (.aload_n 0, 1) := by decide +kernel
theorem dX4_senseOfAtom_36 : decode cX4_senseOfAtom 36 = .ok (.getfield 22, 3) := by decide +kernel
theorem dX4_senseOfAtom_39 : decode cX4_senseOfAtom 39 = .ok (.arraylength, 1) := by decide +kernel
theorem dX4_senseOfAtom_40 : decode cX4_senseOfAtom 40 = .ok (.if_icmp .ge 14, 3) := by decide +kernel
theorem dX4_senseOfAtom_43 : decode cX4_senseOfAtom 43 = .ok (.aload_n 0, 1) := by decide +kernel
theorem dX4_senseOfAtom_44 : decode cX4_senseOfAtom 44 = .ok (.getfield 22, 3) := by decide +kernel
theorem dX4_senseOfAtom_47 : decode cX4_senseOfAtom 47 = .ok (.iload_n 3, 1) := by decide +kernel
theorem dX4_senseOfAtom_48 : decode cX4_senseOfAtom 48 = .ok (.iload 4, 2) := by decide +kernel
theorem dX4_senseOfAtom_50 : decode cX4_senseOfAtom 50 = .ok (.iastore, 1) := by decide +kernel
theorem dX4_senseOfAtom_51 : decode cX4_senseOfAtom 51 = .ok (.iinc 3 1, 3) := by decide +kernel
theorem dX4_senseOfAtom_54 : decode cX4_senseOfAtom 54 = .ok (.iinc 4 1, 3) := by decide +kernel
theorem dX4_senseOfAtom_57 : decode cX4_senseOfAtom 57 = .ok (.goto (-42), 3) := by decide +kernel
theorem dX4_senseOfAtom_60 : decode cX4_senseOfAtom 60 = .ok (.aload_n 0, 1) := by decide +kernel
theorem dX4_senseOfAtom_61 : decode cX4_senseOfAtom 61 = .ok (.aload_n 1, 1) := by decide +kernel
theorem dX4_senseOfAtom_62 : decode cX4_senseOfAtom 62 = .ok (.iload_n 2, 1) := by decide +kernel
theorem dX4_senseOfAtom_63 : decode cX4_senseOfAtom 63 = .ok (.iload_n 3, 1) := by decide +kernel
theorem dX4_senseOfAtom_64 : decode cX4_senseOfAtom 64 = .ok (.iconst 4, 1) := by decide +kernel
theorem dX4_senseOfAtom_65 : decode cX4_senseOfAtom 65 = .ok (.if_icmp .ne 12, 3) := by decide +kernel
theorem dX4_senseOfAtom_68 : decode cX4_senseOfAtom 68 = .ok (.aload_n 0, 1) := by decide +kernel
theorem dX4_senseOfAtom_69 : decode cX4_senseOfAtom 69 = .ok (.getfield 22, 3) := by decide +kernel
theorem dX4_senseOfAtom_72 : decode cX4_senseOfAtom 72 = .ok (.iconst 3, 1) := by decide +kernel
theorem dX4_senseOfAtom_73 : decode cX4_senseOfAtom 73 = .ok (.iaload, 1) := by decide +kernel
theorem dX4_senseOfAtom_74 : decode cX4_senseOfAtom 74 = .ok (.goto 4, 3) := by decide +kernel
theorem dX4_senseOfAtom_77 : decode cX4_senseOfAtom 77 = .ok (.iload_n 2, 1) := by decide +kernel
theorem dX4_senseOfAtom_78 : decode cX4_senseOfAtom 78 = .ok (.invokevirtual 58, 3) := by decide +kernel
theorem dX4_senseOfAtom_81 : decode cX4_senseOfAtom 81 = .ok (.invokestatic 62, 3) := by decide +kernel
theorem dX4_senseOfAtom_84 : decode cX4_senseOfAtom 84 = .ok (.ireturn, 1) := by decide +kernel
theorem dX0_isCentre_0 : decode cX0_isCentre 0 = .ok (.aload_n 0, 1) := by decide +kernel
theorem dX0_isCentre_1 : decode cX0_isCentre 1 = .ok (.iload_n 1, 1) := by decide +kernel
theorem dX0_isCentre_2 : decode cX0_isCentre 2 = .ok (.iconst (-1), 1) := by decide +kernel
theorem dX0_isCentre_3 : decode cX0_isCentre 3 = .ok (.invokevirtual 62, 3) := by decide +kernel
theorem dX0_isCentre_6 : decode cX0_isCentre 6 = .ok (.istore_n 2, 1) := by decide +kernel
theorem dX0_isCentre_7 : decode cX0_isCentre 7 = .ok (.aload_n 0, 1) := by decide +kernel
theorem dX0_isCentre_8 : decode cX0_isCentre 8 = .ok (.getfield 9, 3) := by decide +kernel
theorem dX0_isCentre_11 : decode cX0_isCentre 11 = .ok (.iload_n 1, 1) := by decide +kernel
theorem dX0_isCentre_12 : decode cX0_isCentre 12 = .ok (.iaload, 1) := by decide +kernel
theorem dX0_isCentre_13 : decode cX0_isCentre 13 = .ok (.ifCond .ne 17, 3) := by decide +kernel
theorem dX0_isCentre_16 : decode cX0_isCentre 16 = .ok (.iload_n 2, 1) := by decide +kernel
theorem dX0_isCentre_17 : decode cX0_isCentre 17 = .ok (.iconst 3, 1) := by decide +kernel
theorem dX0_isCentre_18 : decode cX0_isCentre 18 = .ok (.if_icmp .eq 8, 3) := by decide +kernel
theorem dX0_isCentre_21 : decode cX0_isCentre 21 = .ok (.iload_n 2, 1) := by decide +kernel
theorem dX0_isCentre_22 : decode cX0_isCentre 22 = .ok (.iconst 4, 1) := by decide +kernel
theorem dX0_isCentre_23 : decode cX0_isCentre 23 = .ok (.if_icmp .ne 7, 3) := by decide +kernel
theorem dX0_isCentre_26 : decode cX0_isCentre 26 = .ok (.iconst 1, 1) := by decide +kernel
theorem dX0_isCentre_27 : decode cX0_isCentre 27 = .ok (.goto 4, 3) := by decide +kernel
theorem dX0_isCentre_30 : decode cX0_isCentre 30 = .ok (.iconst 0, 1) := by decide +kernel
theorem dX0_isCentre_31 : decode cX0_isCentre 31 = .ok (.ireturn, 1) := by decide +kernel
theorem dX0_singleBonds_0 : decode cX0_singleBonds 0 = .ok (.iconst 0, 1) := by decide +kernel
theorem dX0_singleBonds_1 : decode cX0_singleBonds 1 = .ok (.istore_n 3, 1) := by decide +kernel
theorem dX0_singleBonds_2 : decode cX0_singleBonds 2 = .ok (.iconst 0, 1) := by decide +kernel
theorem dX0_singleBonds_3 : decode cX0_singleBonds 3 = .ok (.istore 4, 2) := by decide +kernel
theorem dX0_singleBonds_5 : decode cX0_singleBonds 5 = .ok (.iload 4, 2) := by decide +kernel
theorem dX0_singleBonds_7 : decode cX0_singleBonds 7 = .ok (.aload_n 0, 1) := by decide +kernel
theorem dX0_singleBonds_8 : decode cX0_singleBonds 8 = .ok (.getfield 21, 3) := by decide +kernel
theorem dX0_singleBonds_11 : decode cX0_singleBonds 11 = .ok (.if_icmp .ge 41, 3) := by decide +kernel
theorem dX0_singleBonds_14 : decode cX0_singleBonds 14 = .ok (.iload 4, 2) := by decide +kernel
theorem dX0_singleBonds_16 : decode cX0_singleBonds 16 = .ok (.iload_n 2, 1) := by decide +kernel
theorem dX0_singleBonds_17 : decode cX0_singleBonds 17 = .ok (.if_icmp .ne 7, 3) := by decide +kernel
theorem dX0_singleBonds_20 : decode cX0_singleBonds 20 = .ok (.iconst 0, 1) := by decide +kernel
theorem dX0_singleBonds_21 : decode cX0_singleBonds 21 = .ok (.goto 10, 3) := by decide +kernel
theorem dX0_singleBonds_24 : decode cX0_singleBonds 24 = .ok (.aload_n 0, 1) := by decide +kernel
theorem dX0_singleBonds_25 : decode cX0_singleBonds 25 = .ok (.iload_n 1, 1) := by decide +kernel
theorem dX0_singleBonds_26 : decode cX0_singleBonds 26 = .ok (.iload 4, 2) := by decide +kernel
theorem dX0_singleBonds_28 : decode cX0_singleBonds 28 = .ok (.invokevirtual 54, 3) := by decide +kernel
theorem dX0_singleBonds_31 : decode cX0_singleBonds 31 = .ok (.istore 5, 2) := by decide +kernel
theorem dX0_singleBonds_33 : decode cX0_singleBonds 33 = .ok (.iload 5, 2) := by decide +kernel
theorem dX0_singleBonds_35 : decode cX0_singleBonds 35 = .ok (.iconst 1, 1) := by decide +kernel
theorem dX0_singleBonds_36 : decode cX0_singleBonds 36 = .ok (.if_icmp .le 5, 3) := by decide +kernel
theorem dX0_singleBonds_39 : decode cX0_singleBonds 39 = .ok (.iconst (-1), 1) := by decide +kernel
theorem dX0_singleBonds_40 : decode cX0_singleBonds 40 = .ok (.ireturn, 1) := by decide +kernel
theorem dX0_singleBonds_41 : decode cX0_singleBonds 41 = .ok (.iload_n 3, 1) := by decide +kernel
theorem dX0_singleBonds_42 : decode cX0_singleBonds 42 = .ok (.iload 5, 2) := by decide +kernel
theorem dX0_singleBonds_44 : decode cX0_singleBonds 44 = .ok (.iadd, 1) := by decide +kernel
theorem dX0_singleBonds_45 : decode cX0_singleBonds 45 = .ok (.istore_n 3, 1) := by decide +kernel
theorem dX0_singleBonds_46 : decode cX0_singleBonds 46 = .ok (.iinc 4 1, 3) := by decide +kernel
theorem dX0_singleBonds_49 : decode cX0_singleBonds 49 = .ok (.goto (-44), 3) := by decide +kernel
theorem dX0_singleBonds_52 : decode cX0_singleBonds 52 = .ok (.iload_n 3, 1) := by decide +kernel
theorem dX0_singleBonds_53 : decode cX0_singleBonds 53 = .ok (.ireturn, 1) := by decide +kernel
theorem dX4_determinant_0 : decode cX4_determinant 0 = .ok (.aload_n 1, 1) := by decide +kernel
theorem dX4_determinant_1 : decode cX4_determinant 1 = .ok (.getfield 66, 3) := by decide +kernel
theorem dX4_determinant_4 : decode cX4_determinant 4 = .ok (.iload_n 3, 1) := by decide +kernel
theorem dX4_determinant_5 : decode cX4_determinant 5 = .ok (.iaload, 1) := by decide +kernel
theorem dX4_determinant_6 : decode cX4_determinant 6 = .ok (.istore 4, 2) := by decide +kernel
theorem dX4_determinant_8 : decode cX4_determinant 8 = .ok (.aload_n 1, 1) := by decide +kernel
theorem dX4_determinant_9 : decode cX4_determinant 9 = .ok (.getfield 69, 3) := by decide +kernel
theorem dX4_determinant_12 : decode cX4_determinant 12 = .ok (.iload_n 3, 1) := by decide +kernel
theorem dX4_determinant_13 : decode cX4_determinant 13 = .ok (.iaload, 1) := by decide +kernel
theorem dX4_determinant_14 : decode cX4_determinant 14 = .ok (.istore 5, 2) := by decide +kernel
theorem dX4_determinant_16 : decode cX4_determinant 16 = .ok (.aload_n 1, 1) := by decide +kernel
theorem dX4_determinant_17 : decode cX4_determinant 17 = .ok (.iload_n 2, 1) := by decide +kernel
theorem dX4_determinant_18 : decode cX4_determinant 18 = .ok (.iload_n 3, 1) := by decide +kernel
theorem dX4_determinant_19 : decode cX4_determinant 19 = .ok (.invokevirtual 72, 3) := by decide +kernel
theorem dX4_determinant_22 : decode cX4_determinant 22 = .ok (.istore 6, 2) := by decide +kernel
theorem dX4_determinant_24 : decode cX4_determinant 24 = .ok (.aload_n 1, 1) := by decide +kernel
theorem dX4_determinant_25 : decode cX4_determinant 25 = .ok (.getfield 66, 3) := by decide +kernel
theorem dX4_determinant_28 : decode cX4_determinant 28 = .ok (.aload_n 0, 1) := by decide +kernel
theorem dX4_determinant_29 : decode cX4_determinant 29 = .ok (.getfield 22, 3) := by decide +kernel
theorem dX4_determinant_32 : decode cX4_determinant 32 = .ok (.iconst 0, 1) := by decide +kernel
theorem dX4_determinant_33 : decode cX4_determinant 33 = .ok (.iaload, 1) := by decide +kernel
theorem dX4_determinant_34 : decode cX4_determinant 34 = .ok (.iaload, 1) := by decide +kernel
theorem dX4_determinant_35 : decode cX4_determinant 35 = .ok (.iload 4, 2) := by decide +kernel
theorem dX4_determinant_37 : decode cX4_determinant 37 = .ok (.isub, 1) := by decide +kernel
theorem dX4_determinant_38 : decode cX4_determinant 38 = .ok (.istore 7, 2) := by decide +kernel
theorem dX4_determinant_40 : decode cX4_determinant 40 = .ok (.aload_n 1, 1) := by decide +kernel
theorem dX4_determinant_41 : decode cX4_determinant 41 = .ok (.getfield 69, 3) := by decide +kernel
theorem dX4_determinant_44 : decode cX4_determinant 44 = .ok (.aload_n 0, 1) := by decide +kernel
theorem dX4_determinant_45 : decode cX4_determinant 45 = .ok (.getfield 22, 3) := by decide +kernel
theorem dX4_determinant_48 : decode cX4_determinant 48 = .ok (.iconst 0, 1) := by decide +kernel
theorem dX4_determinant_49 : decode cX4_determinant 49 = .ok (.iaload, 1) := by decide +kernel
theorem dX4_determinant_50 : decode cX4_determinant 50 = .ok (.iaload, 1) := by decide +kernel
theorem dX4_determinant_51 : decode cX4_determinant 51 = .ok (.iload 5, 2) := by decide +kernel
theorem dX4_determinant_53 : decode cX4_determinant 53 = .ok (.isub, 1) := by decide +kernel
theorem dX4_determinant_54 : decode cX4_determinant 54 = .ok (.istore 8, 2) := by decide +kernel
theorem dX4_determinant_56 : decode cX4_determinant 56 = .ok (.aload_n 1, 1) := by decide +kernel
theorem dX4_determinant_57 : decode cX4_determinant 57 = .ok (.iload_n 2, 1) := by decide +kernel
theorem dX4_determinant_58 : decode cX4_determinant 58 = .ok (.aload_n 0, 1) := by decide +kernel
theorem dX4_determinant_59 : decode cX4_determinant 59 = .ok (.getfield 22, 3) := by decide +kernel
theorem dX4_determinant_62 : decode cX4_determinant 62 = .ok (.iconst 0, 1) := by decide +kernel
theorem dX4_determinant_63 : decode cX4_determinant 63 = .ok (.iaload, 1) := by decide +kernel
theorem dX4_determinant_64 : decode cX4_determinant 64 = .ok (.invokevirtual 72, 3) := by decide +kernel
theorem dX4_determinant_67 : decode cX4_determinant 67 = .ok (.iload 6, 2) := by decide +kernel
theorem dX4_determinant_69 : decode cX4_determinant 69 = .ok (.isub, 1) := by decide +kernel
theorem dX4_determinant_70 : decode cX4_determinant 70 = .ok (.istore 9, 2) := by decide +kernel
theorem dX4_determinant_72 : decode cX4_determinant 72 = .ok (.aload_n 1, 1) := by decide +kernel
theorem dX4_determinant_73 : decode cX4_determinant 73 = .ok (.getfield 66, 3) := by decide +kernel
theorem dX4_determinant_76 : decode cX4_determinant 76 = .ok (.aload_n 0, 1) := by decide +kernel
theorem dX4_determinant_77 : decode cX4_determinant 77 = .ok (.getfield 22, 3) := by decide +kernel
theorem dX4_determinant_80 : decode cX4_determinant 80 = .ok (.iconst 1, 1) := by decide +kernel
theorem dX4_determinant_81 : decode cX4_determinant 81 = .ok (.iaload, 1) := by decide +kernel
theorem dX4_determinant_82 : decode cX4_determinant 82 = .ok (.iaload, 1) := by decide +kernel
theorem dX4_determinant_83 : decode cX4_determinant 83 = .ok (.iload 4, 2) := by decide +kernel
theorem dX4_determinant_85 : decode cX4_determinant 85 = .ok (.isub, 1) := by decide +kernel
theorem dX4_determinant_86 : decode cX4_determinant 86 = .ok (.istore 10, 2) := by decide +kernel
theorem dX4_determinant_88 : decode cX4_determinant 88 = .ok (.aload_n 1, 1) := by decide +kernel
theorem dX4_determinant_89 : decode cX4_determinant 89 = .ok (.getfield 69, 3) := by decide +kernel
theorem dX4_determinant_92 : decode cX4_determinant 92 = .ok (.aload_n 0, 1) := by decide +kernel
theorem dX4_determinant_93 : decode cX4_determinant 93 = .ok (.getfield 22, 3) := by decide +kernel
theorem dX4_determinant_96 : decode cX4_determinant 96 = .ok (.iconst 1, 1) := by decide +kernel
theorem dX4_determinant_97 : decode cX4_determinant 97 = .ok (.iaload, 1) := by decide +kernel
theorem dX4_determinant_98 : decode cX4_determinant 98 = .ok (.iaload, 1) := by decide +kernel
theorem dX4_determinant_99 : decode cX4_determinant 99 = .ok (.iload 5, 2) := by decide +kernel
theorem dX4_determinant_101 : decode cX4_determinant 101 = .ok (.isub, 1) := by decide +kernel
theorem dX4_determinant_102 : decode cX4_determinant 102 = .ok (.istore 11, 2) := by decide +kernel
theorem dX4_determinant_104 : decode cX4_determinant 104 = .ok (.aload_n 1, 1) := by decide +kernel
theorem dX4_determinant_105 : decode cX4_determinant 105 = .ok (.iload_n 2, 1) := by decide +kernel
theorem dX4_determinant_106 : decode cX4_determinant 106 = .ok (.aload_n 0, 1) := by decide +kernel
theorem dX4_determinant_107 : decode cX4_determinant 107 = .ok (.getfield 22, 3) := by decide +kernel
theorem dX4_determinant_110 : decode cX4_determinant 110 = .ok (.iconst 1, 1) := by decide +kernel
theorem dX4_determinant_111 : decode cX4_determinant 111 = .ok (.iaload, 1) := by decide +kernel
theorem dX4_determinant_112 : decode cX4_determinant 112 = .ok (.invokevirtual 72, 3) := by decide +kernel
theorem dX4_determinant_115 : decode cX4_determinant 115 = .ok (.iload 6, 2) := by decide +kernel
theorem dX4_determinant_117 : decode cX4_determinant 117 = .ok (.isub, 1) := by decide +kernel
theorem dX4_determinant_118 : decode cX4_determinant 118 = .ok (.istore 12, 2) := by decide +kernel
theorem dX4_determinant_120 : decode cX4_determinant 120 = .ok (.aload_n 1, 1) := by decide +kernel
theorem dX4_determinant_121 : decode cX4_determinant 121 = .ok (.getfield 66, 3) := by decide +kernel
theorem dX4_determinant_124 : decode cX4_determinant 124 = .ok (.aload_n 0, 1) := by decide +kernel
theorem dX4_determinant_125 : decode cX4_determinant 125 = .ok (.getfield 22, 3) := by decide +kernel
theorem dX4_determinant_128 : decode cX4_determinant 128 = .ok (.iconst 2, 1) := by decide +kernel
theorem dX4_determinant_129 : decode cX4_determinant 129 = .ok (.iaload, 1) := by decide +kernel
theorem dX4_determinant_130 : decode cX4_determinant 130 = .ok (.iaload, 1) := by decide +kernel
theorem dX4_determinant_131 : decode cX4_determinant 131 = .ok (.iload 4, 2) := by decide +kernel
theorem dX4_determinant_133 : decode cX4_determinant 133 = .ok (.isub, 1) := by decide +kernel
theorem dX4_determinant_134 : decode cX4_determinant 134 = .ok (.istore 13, 2) := by decide +kernel
theorem dX4_determinant_136 : decode cX4_determinant 136 = .ok (.aload_n 1, 1) := by decide +kernel
theorem dX4_determinant_137 : decode cX4_determinant 137 = .ok (.getfield 69, 3) := by decide +kernel
theorem dX4_determinant_140 : decode cX4_determinant 140 = .ok (.aload_n 0, 1) := by decide +kernel
theorem dX4_determinant_141 : decode cX4_determinant 141 = .ok (.getfield 22, 3) := by decide +kernel
theorem dX4_determinant_144 : decode cX4_determinant 144 = .ok (.iconst 2, 1) := by decide +kernel
theorem dX4_determinant_145 : decode cX4_determinant 145 = .ok (.iaload, 1) := by decide +kernel
theorem dX4_determinant_146 : decode cX4_determinant 146 = .ok (.iaload, 1) := by decide +kernel
theorem dX4_determinant_147 : decode cX4_determinant 147 = .ok (.iload 5, 2) := by decide +kernel
theorem dX4_determinant_149 : decode cX4_determinant 149 = .ok (.isub, 1) := by decide +kernel
theorem dX4_determinant_150 : decode cX4_determinant 150 = .ok (.istore 14, 2) := by decide +kernel
theorem dX4_determinant_152 : decode cX4_determinant 152 = .ok (.aload_n 1, 1) := by decide +kernel
theorem dX4_determinant_153 : decode cX4_determinant 153 = .ok (.iload_n 2, 1) := by decide +kernel
theorem dX4_determinant_154 : decode cX4_determinant 154 = .ok (.aload_n 0, 1) := by decide +kernel
theorem dX4_determinant_155 : decode cX4_determinant 155 = .ok (.getfield 22, 3) := by decide +kernel
theorem dX4_determinant_158 : decode cX4_determinant 158 = .ok (.iconst 2, 1) := by decide +kernel
theorem dX4_determinant_159 : decode cX4_determinant 159 = .ok (.iaload, 1) := by decide +kernel
theorem dX4_determinant_160 : decode cX4_determinant 160 = .ok (.invokevirtual 72, 3) := by decide +kernel
theorem dX4_determinant_163 : decode cX4_determinant 163 = .ok (.iload 6, 2) := by decide +kernel
theorem dX4_determinant_165 : decode cX4_determinant 165 = .ok (.isub, 1) := by decide +kernel
theorem dX4_determinant_166 : decode cX4_determinant 166 = .ok (.istore 15, 2) := by decide +kernel
theorem dX4_determinant_168 : decode cX4_determinant 168 = .ok (.iload 7, 2) := by decide +kernel
theorem dX4_determinant_170 : decode cX4_determinant 170 = .ok (.iload 11, 2) := by decide +kernel
theorem dX4_determinant_172 : decode cX4_determinant 172 = .ok (.iload 15, 2) := by decide +kernel
theorem dX4_determinant_174 : decode cX4_determinant 174 = .ok (.imul, 1) := by decide +kernel
theorem dX4_determinant_175 : decode cX4_determinant 175 = .ok (.iload 12, 2) := by decide +kernel
theorem dX4_determinant_177 : decode cX4_determinant 177 = .ok (.iload 14, 2) := by decide +kernel
theorem dX4_determinant_179 : decode cX4_determinant 179 = .ok (.imul, 1) := by decide +kernel
theorem dX4_determinant_180 : decode cX4_determinant 180 = .ok (.isub, 1) := by decide +kernel
theorem dX4_determinant_181 : decode cX4_determinant 181 = .ok (.imul, 1) := by decide +kernel
theorem dX4_determinant_182 : decode cX4_determinant 182 = .ok (.iload 8, 2) := by decide +kernel
theorem dX4_determinant_184 : decode cX4_determinant 184 = .ok (.iload 10, 2) := by decide +kernel
theorem dX4_determinant_186 : decode cX4_determinant 186 = .ok (.iload 15, 2) := by decide +kernel
theorem dX4_determinant_188 : decode cX4_determinant 188 = .ok (.imul, 1) := by decide +kernel
theorem dX4_determinant_189 : decode cX4_determinant 189 = .ok (.iload 12, 2) := by decide +kernel
theorem dX4_determinant_191 : decode cX4_determinant 191 = .ok (.iload 13, 2) := by decide +kernel
theorem dX4_determinant_193 : decode cX4_determinant 193 = .ok (.imul, 1) := by decide +kernel
theorem dX4_determinant_194 : decode cX4_determinant 194 = .ok (.isub, 1) := by decide +kernel
theorem dX4_determinant_195 : decode cX4_determinant 195 = .ok (.imul, 1) := by decide +kernel
theorem dX4_determinant_196 : decode cX4_determinant 196 = .ok (.isub, 1) := by decide +kernel
theorem dX4_determinant_197 : decode cX4_determinant 197 = .ok (.iload 9, 2) := by decide +kernel
theorem dX4_determinant_199 : decode cX4_determinant 199 = .ok (.iload 10, 2) := by decide +kernel
theorem dX4_determinant_201 : decode cX4_determinant 201 = .ok (.iload 14, 2) := by decide +kernel
theorem dX4_determinant_203 : decode cX4_determinant 203 = .ok (.imul, 1) := by decide +kernel
theorem dX4_determinant_204 : decode cX4_determinant 204 = .ok (.iload 11, 2) := by decide +kernel
theorem dX4_determinant_206 : decode cX4_determinant 206 = .ok (.iload 13, 2) := by decide +kernel
theorem dX4_determinant_208 : decode cX4_determinant 208 = .ok (.imul, 1) := by decide +kernel
theorem dX4_determinant_209 : decode cX4_determinant 209 = .ok (.isub, 1) := by decide +kernel
theorem dX4_determinant_210 : decode cX4_determinant 210 = .ok (.imul, 1) := by decide +kernel
theorem dX4_determinant_211 : decode cX4_determinant 211 = .ok (.iadd, 1) := by decide +kernel
theorem dX4_determinant_212 : decode cX4_determinant 212 = .ok (.ireturn, 1) := by decide +kernel
theorem dX0_height_0 : decode cX0_height 0 = .ok (.aload_n 0, 1) := by decide +kernel
theorem dX0_height_1 : decode cX0_height 1 = .ok (.iload_n 1, 1) := by decide +kernel
theorem dX0_height_2 : decode cX0_height 2 = .ok (.iload_n 2, 1) := by decide +kernel
theorem dX0_height_3 : decode cX0_height 3 = .ok (.invokevirtual 69, 3) := by decide +kernel
theorem dX0_height_6 : decode cX0_height 6 = .ok (.ifCond .ne 5, 3) := by decide +kernel
theorem dX0_height_9 : decode cX0_height 9 = .ok (.iconst 0, 1) := by decide +kernel
theorem dX0_height_10 : decode cX0_height 10 = .ok (.ireturn, 1) := by decide +kernel
theorem dX0_height_11 : decode cX0_height 11 = .ok (.aload_n 0, 1) := by decide +kernel
theorem dX0_height_12 : decode cX0_height 12 = .ok (.iload_n 1, 1) := by decide +kernel
theorem dX0_height_13 : decode cX0_height 13 = .ok (.iload_n 2, 1) := by decide +kernel
theorem dX0_height_14 : decode cX0_height 14 = .ok (.invokevirtual 72, 3) := by decide +kernel
theorem dX0_height_17 : decode cX0_height 17 = .ok (.istore_n 3, 1) := by decide +kernel
theorem dX0_height_18 : decode cX0_height 18 = .ok (.aload_n 0, 1) := by decide +kernel
theorem dX0_height_19 : decode cX0_height 19 = .ok (.getfield 25, 3) := by decide +kernel
theorem dX0_height_22 : decode cX0_height 22 = .ok (.iload_n 3, 1) := by decide +kernel
theorem dX0_height_23 : decode cX0_height 23 = .ok (.iaload, 1) := by decide +kernel
theorem dX0_height_24 : decode cX0_height 24 = .ok (.iload_n 1, 1) := by decide +kernel
theorem dX0_height_25 : decode cX0_height 25 = .ok (.if_icmp .ne 12, 3) := by decide +kernel
theorem dX0_height_28 : decode cX0_height 28 = .ok (.aload_n 0, 1) := by decide +kernel
theorem dX0_height_29 : decode cX0_height 29 = .ok (.getfield 34, 3) := by decide +kernel
theorem dX0_height_32 : decode cX0_height 32 = .ok (.iload_n 3, 1) := by decide +kernel
theorem dX0_height_33 : decode cX0_height 33 = .ok (.iaload, 1) := by decide +kernel
theorem dX0_height_34 : decode cX0_height 34 = .ok (.ifCond .ne 5, 3) := by decide +kernel
theorem dX0_height_37 : decode cX0_height 37 = .ok (.iconst 0, 1) := by decide +kernel
theorem dX0_height_38 : decode cX0_height 38 = .ok (.ireturn, 1) := by decide +kernel
theorem dX0_height_39 : decode cX0_height 39 = .ok (.aload_n 0, 1) := by decide +kernel
theorem dX0_height_40 : decode cX0_height 40 = .ok (.getfield 34, 3) := by decide +kernel
theorem dX0_height_43 : decode cX0_height 43 = .ok (.iload_n 3, 1) := by decide +kernel
theorem dX0_height_44 : decode cX0_height 44 = .ok (.iaload, 1) := by decide +kernel
theorem dX0_height_45 : decode cX0_height 45 = .ok (.iconst 1, 1) := by decide +kernel
theorem dX0_height_46 : decode cX0_height 46 = .ok (.if_icmp .ne 7, 3) := by decide +kernel
theorem dX0_height_49 : decode cX0_height 49 = .ok (.iconst 1, 1) := by decide +kernel
theorem dX0_height_50 : decode cX0_height 50 = .ok (.goto 4, 3) := by decide +kernel
theorem dX0_height_53 : decode cX0_height 53 = .ok (.iconst (-1), 1) := by decide +kernel
theorem dX0_height_54 : decode cX0_height 54 = .ok (.ireturn, 1) := by decide +kernel
theorem dX0_bondOf_0 : decode cX0_bondOf 0 = .ok (.aload_n 0, 1) := by decide +kernel
theorem dX0_bondOf_1 : decode cX0_bondOf 1 = .ok (.getfield 42, 3) := by decide +kernel
theorem dX0_bondOf_4 : decode cX0_bondOf 4 = .ok (.iload_n 1, 1) := by decide +kernel
theorem dX0_bondOf_5 : decode cX0_bondOf 5 = .ok (.aaload, 1) := by decide +kernel
theorem dX0_bondOf_6 : decode cX0_bondOf 6 = .ok (.iload_n 2, 1) := by decide +kernel
theorem dX0_bondOf_7 : decode cX0_bondOf 7 = .ok (.iaload, 1) := by decide +kernel
theorem dX0_bondOf_8 : decode cX0_bondOf 8 = .ok (.iconst 1, 1) := by decide +kernel
theorem dX0_bondOf_9 : decode cX0_bondOf 9 = .ok (.isub, 1) := by decide +kernel
theorem dX0_bondOf_10 : decode cX0_bondOf 10 = .ok (.ireturn, 1) := by decide +kernel
theorem dX6_sign_0 : decode cX6_sign 0 = .ok (.iload_n 0, 1) := by decide +kernel
theorem dX6_sign_1 : decode cX6_sign 1 = .ok (.ifCond .le 7, 3) := by decide +kernel
theorem dX6_sign_4 : decode cX6_sign 4 = .ok (.iconst 1, 1) := by decide +kernel
theorem dX6_sign_5 : decode cX6_sign 5 = .ok (.goto 12, 3) := by decide +kernel
theorem dX6_sign_8 : decode cX6_sign 8 = .ok (.iload_n 0, 1) := by decide +kernel
theorem dX6_sign_9 : decode cX6_sign 9 = .ok (.ifCond .ge 7, 3) := by decide +kernel
theorem dX6_sign_12 : decode cX6_sign 12 = .ok (.iconst (-1), 1) := by decide +kernel
theorem dX6_sign_13 : decode cX6_sign 13 = .ok (.goto 4, 3) := by decide +kernel
theorem dX6_sign_16 : decode cX6_sign 16 = .ok (.iconst 0, 1) := by decide +kernel
theorem dX6_sign_17 : decode cX6_sign 17 = .ok (.ireturn, 1) := by decide +kernel
theorem dX6_turn_0 : decode cX6_turn 0 = .ok (.aload_n 0, 1) := by decide +kernel
theorem dX6_turn_1 : decode cX6_turn 1 = .ok (.getfield 14, 3) := by decide +kernel
theorem dX6_turn_4 : decode cX6_turn 4 = .ok (.iload_n 1, 1) := by decide +kernel
theorem dX6_turn_5 : decode cX6_turn 5 = .ok (.invokevirtual 112, 3) := by decide +kernel
theorem dX6_turn_8 : decode cX6_turn 8 = .ok (.ifCond .ne 5, 3) := by decide +kernel
theorem dX6_turn_11 : decode cX6_turn 11 = .ok (.iconst (-1), 1) := by decide +kernel
theorem dX6_turn_12 : decode cX6_turn 12 = .ok (.ireturn, 1) := by decide +kernel
theorem dX6_turn_13 : decode cX6_turn 13 = .ok (.aload_n 0, 1) := by decide +kernel
theorem dX6_turn_14 : decode cX6_turn 14 = .ok (.getfield 21, 3) := by decide +kernel
theorem dX6_turn_17 : decode cX6_turn 17 = .ok (.aload_n 0, 1) := by decide +kernel
theorem dX6_turn_18 : decode cX6_turn 18 = .ok (.getfield 14, 3) := by decide +kernel
theorem dX6_turn_21 : decode cX6_turn 21 = .ok (.iload_n 1, 1) := by decide +kernel
theorem dX6_turn_22 : decode cX6_turn 22 = .ok (.invokevirtual 136, 3) := by decide +kernel
theorem dX6_turn_25 : decode cX6_turn 25 = .ok (.iconst 1, 1) := by decide +kernel
theorem dX6_turn_26 : decode cX6_turn 26 = .ok (.iadd, 1) := by decide +kernel
theorem dX6_turn_27 : decode cX6_turn 27 = .ok (.aload_n 0, 1) := by decide +kernel
theorem dX6_turn_28 : decode cX6_turn 28 = .ok (.getfield 14, 3) := by decide +kernel
theorem dX6_turn_31 : decode cX6_turn 31 = .ok (.iload_n 1, 1) := by decide +kernel
theorem dX6_turn_32 : decode cX6_turn 32 = .ok (.invokevirtual 139, 3) := by decide +kernel
theorem dX6_turn_35 : decode cX6_turn 35 = .ok (.ifCond .eq 7, 3) := by decide +kernel
theorem dX6_turn_38 : decode cX6_turn 38 = .ok (.iconst 4, 1) := by decide +kernel
theorem dX6_turn_39 : decode cX6_turn 39 = .ok (.goto 4, 3) := by decide +kernel
theorem dX6_turn_42 : decode cX6_turn 42 = .ok (.iconst 0, 1) := by decide +kernel
theorem dX6_turn_43 : decode cX6_turn 43 = .ok (.iadd, 1) := by decide +kernel
theorem dX6_turn_44 : decode cX6_turn 44 = .ok (.ireturn, 1) := by decide +kernel
theorem dX4_senseOfBond_0 : decode cX4_senseOfBond 0 = .ok (.aload_n 1, 1) := by decide +kernel
theorem dX4_senseOfBond_1 : decode cX4_senseOfBond 1 = .ok (.iload_n 2, 1) := by decide +kernel
theorem dX4_senseOfBond_2 : decode cX4_senseOfBond 2 = .ok (.invokevirtual 41, 3) := by decide +kernel
theorem dX4_senseOfBond_5 : decode cX4_senseOfBond 5 = .ok (.ifCond .ne 5, 3) := by decide +kernel
theorem dX4_senseOfBond_8 : decode cX4_senseOfBond 8 = .ok (.iconst 0, 1) := by decide +kernel
theorem dX4_senseOfBond_9 : decode cX4_senseOfBond 9 = .ok (.ireturn, 1) := by decide +kernel
theorem dX4_senseOfBond_10 : decode cX4_senseOfBond 10 = .ok (.aload_n 1, 1) := by decide +kernel
theorem dX4_senseOfBond_11 : decode cX4_senseOfBond 11 = .ok (.getfield 76, 3) := by decide +kernel
theorem dX4_senseOfBond_14 : decode cX4_senseOfBond 14 = .ok (.iload_n 2, 1) := by decide +kernel
theorem dX4_senseOfBond_15 : decode cX4_senseOfBond 15 = .ok (.iaload, 1) := by decide +kernel
theorem dX4_senseOfBond_16 : decode cX4_senseOfBond 16 = .ok (.aload_n 1, 1) := by decide +kernel
theorem dX4_senseOfBond_17 : decode cX4_senseOfBond 17 = .ok (.getfield 79, 3) := by decide +kernel
theorem dX4_senseOfBond_20 : decode cX4_senseOfBond 20 = .ok (.iload_n 2, 1) := by decide +kernel
theorem dX4_senseOfBond_21 : decode cX4_senseOfBond 21 = .ok (.iaload, 1) := by decide +kernel
theorem dX4_senseOfBond_22 : decode cX4_senseOfBond 22 = .ok (.invokestatic 82, 3) := by decide +kernel
theorem dX4_senseOfBond_25 : decode cX4_senseOfBond 25 = .ok (.istore_n 3, 1) := by decide +kernel
theorem dX4_senseOfBond_26 : decode cX4_senseOfBond 26 = .ok (.aload_n 1, 1) := by decide +kernel
theorem dX4_senseOfBond_27 : decode cX4_senseOfBond 27 = .ok (.getfield 76, 3) := by decide +kernel
theorem dX4_senseOfBond_30 : decode cX4_senseOfBond 30 = .ok (.iload_n 2, 1) := by decide +kernel
theorem dX4_senseOfBond_31 : decode cX4_senseOfBond 31 = .ok (.iaload, 1) := by decide +kernel
theorem dX4_senseOfBond_32 : decode cX4_senseOfBond 32 = .ok (.aload_n 1, 1) := by decide +kernel
theorem dX4_senseOfBond_33 : decode cX4_senseOfBond 33 = .ok (.getfield 79, 3) := by decide +kernel
theorem dX4_senseOfBond_36 : decode cX4_senseOfBond 36 = .ok (.iload_n 2, 1) := by decide +kernel
theorem dX4_senseOfBond_37 : decode cX4_senseOfBond 37 = .ok (.iaload, 1) := by decide +kernel
theorem dX4_senseOfBond_38 : decode cX4_senseOfBond 38 = .ok (.invokestatic 87, 3) := by decide +kernel
theorem dX4_senseOfBond_41 : decode cX4_senseOfBond 41 = .ok (.istore 4, 2) := by decide +kernel
theorem dX4_senseOfBond_43 : decode cX4_senseOfBond 43 = .ok (.aload_n 1, 1) := by decide +kernel
theorem dX4_senseOfBond_44 : decode cX4_senseOfBond 44 = .ok (.iload_n 3, 1) := by decide +kernel
theorem dX4_senseOfBond_45 : decode cX4_senseOfBond 45 = .ok (.iload 4, 2) := by decide +kernel
theorem dX4_senseOfBond_47 : decode cX4_senseOfBond 47 = .ok (.iload_n 3, 1) := by decide +kernel
theorem dX4_senseOfBond_48 : decode cX4_senseOfBond 48 = .ok (.invokestatic 90, 3) := by decide +kernel
theorem dX4_senseOfBond_51 : decode cX4_senseOfBond 51 = .ok (.aload_n 1, 1) := by decide +kernel
theorem dX4_senseOfBond_52 : decode cX4_senseOfBond 52 = .ok (.iload_n 3, 1) := by decide +kernel
theorem dX4_senseOfBond_53 : decode cX4_senseOfBond 53 = .ok (.iload 4, 2) := by decide +kernel
theorem dX4_senseOfBond_55 : decode cX4_senseOfBond 55 = .ok (.iload 4, 2) := by decide +kernel
theorem dX4_senseOfBond_57 : decode cX4_senseOfBond 57 = .ok (.invokestatic 90, 3) := by decide +kernel
theorem dX4_senseOfBond_60 : decode cX4_senseOfBond 60 = .ok (.imul, 1) := by decide +kernel
theorem dX4_senseOfBond_61 : decode cX4_senseOfBond 61 = .ok (.ireturn, 1) := by decide +kernel
theorem dX0_isHinge_0 : decode cX0_isHinge 0 = .ok (.aload_n 0, 1) := by decide +kernel
theorem dX0_isHinge_1 : decode cX0_isHinge 1 = .ok (.getfield 31, 3) := by decide +kernel
theorem dX0_isHinge_4 : decode cX0_isHinge 4 = .ok (.iload_n 1, 1) := by decide +kernel
theorem dX0_isHinge_5 : decode cX0_isHinge 5 = .ok (.iaload, 1) := by decide +kernel
theorem dX0_isHinge_6 : decode cX0_isHinge 6 = .ok (.iconst 2, 1) := by decide +kernel
theorem dX0_isHinge_7 : decode cX0_isHinge 7 = .ok (.if_icmp .ne 45, 3) := by decide +kernel
theorem dX0_isHinge_10 : decode cX0_isHinge 10 = .ok (.aload_n 0, 1) := by decide +kernel
theorem dX0_isHinge_11 : decode cX0_isHinge 11 = .ok (.aload_n 0, 1) := by decide +kernel
theorem dX0_isHinge_12 : decode cX0_isHinge 12 = .ok (.getfield 25, 3) := by decide +kernel
theorem dX0_isHinge_15 : decode cX0_isHinge 15 = .ok (.iload_n 1, 1) := by decide +kernel
theorem dX0_isHinge_16 : decode cX0_isHinge 16 = .ok (.iaload, 1) := by decide +kernel
theorem dX0_isHinge_17 : decode cX0_isHinge 17 = .ok (.aload_n 0, 1) := by decide +kernel
theorem dX0_isHinge_18 : decode cX0_isHinge 18 = .ok (.getfield 28, 3) := by decide +kernel
theorem dX0_isHinge_21 : decode cX0_isHinge 21 = .ok (.iload_n 1, 1) := by decide +kernel
theorem dX0_isHinge_22 : decode cX0_isHinge 22 = .ok (.iaload, 1) := by decide +kernel
theorem dX0_isHinge_23 : decode cX0_isHinge 23 = .ok (.invokevirtual 65, 3) := by decide +kernel
theorem dX0_isHinge_26 : decode cX0_isHinge 26 = .ok (.ifCond .eq 26, 3) := by decide +kernel
theorem dX0_isHinge_29 : decode cX0_isHinge 29 = .ok (.aload_n 0, 1) := by decide +kernel
theorem dX0_isHinge_30 : decode cX0_isHinge 30 = .ok (.aload_n 0, 1) := by decide +kernel
theorem dX0_isHinge_31 : decode cX0_isHinge 31 = .ok (.getfield 28, 3) := by decide +kernel
theorem dX0_isHinge_34 : decode cX0_isHinge 34 = .ok (.iload_n 1, 1) := by decide +kernel
theorem dX0_isHinge_35 : decode cX0_isHinge 35 = .ok (.iaload, 1) := by decide +kernel
theorem dX0_isHinge_36 : decode cX0_isHinge 36 = .ok (.aload_n 0, 1) := by decide +kernel
theorem dX0_isHinge_37 : decode cX0_isHinge 37 = .ok (.getfield 25, 3) := by decide +kernel
theorem dX0_isHinge_40 : decode cX0_isHinge 40 = .ok (.iload_n 1, 1) := by decide +kernel
theorem dX0_isHinge_41 : decode cX0_isHinge 41 = .ok (.iaload, 1) := by decide +kernel
theorem dX0_isHinge_42 : decode cX0_isHinge 42 = .ok (.invokevirtual 65, 3) := by decide +kernel
theorem dX0_isHinge_45 : decode cX0_isHinge 45 = .ok (.ifCond .eq 7, 3) := by decide +kernel
theorem dX0_isHinge_48 : decode cX0_isHinge 48 = .ok (.iconst 1, 1) := by decide +kernel
theorem dX0_isHinge_49 : decode cX0_isHinge 49 = .ok (.goto 4, 3) := by decide +kernel
theorem dX0_isHinge_52 : decode cX0_isHinge 52 = .ok (.iconst 0, 1) := by decide +kernel
theorem dX0_isHinge_53 : decode cX0_isHinge 53 = .ok (.ireturn, 1) := by decide +kernel
theorem dX0_isHingeEnd_0 : decode cX0_isHingeEnd 0 = .ok (.aload_n 0, 1) := by decide +kernel
theorem dX0_isHingeEnd_1 : decode cX0_isHingeEnd 1 = .ok (.iload_n 1, 1) := by decide +kernel
theorem dX0_isHingeEnd_2 : decode cX0_isHingeEnd 2 = .ok (.iload_n 2, 1) := by decide +kernel
theorem dX0_isHingeEnd_3 : decode cX0_isHingeEnd 3 = .ok (.invokevirtual 62, 3) := by decide +kernel
theorem dX0_isHingeEnd_6 : decode cX0_isHingeEnd 6 = .ok (.istore_n 3, 1) := by decide +kernel
theorem dX0_isHingeEnd_7 : decode cX0_isHingeEnd 7 = .ok (.aload_n 0, 1) := by decide +kernel
theorem dX0_isHingeEnd_8 : decode cX0_isHingeEnd 8 = .ok (.getfield 9, 3) := by decide +kernel
theorem dX0_isHingeEnd_11 : decode cX0_isHingeEnd 11 = .ok (.iload_n 1, 1) := by decide +kernel
theorem dX0_isHingeEnd_12 : decode cX0_isHingeEnd 12 = .ok (.iaload, 1) := by decide +kernel
theorem dX0_isHingeEnd_13 : decode cX0_isHingeEnd 13 = .ok (.ifCond .eq 13, 3) := by decide +kernel
theorem dX0_isHingeEnd_16 : decode cX0_isHingeEnd 16 = .ok (.aload_n 0, 1) := by decide +kernel
theorem dX0_isHingeEnd_17 : decode cX0_isHingeEnd 17 = .ok (.getfield 9, 3) := by decide +kernel
theorem dX0_isHingeEnd_20 : decode cX0_isHingeEnd 20 = .ok (.iload_n 1, 1) := by decide +kernel
theorem dX0_isHingeEnd_21 : decode cX0_isHingeEnd 21 = .ok (.iaload, 1) := by decide +kernel
theorem dX0_isHingeEnd_22 : decode cX0_isHingeEnd 22 = .ok (.iconst 1, 1) := by decide +kernel
theorem dX0_isHingeEnd_23 : decode cX0_isHingeEnd 23 = .ok (.if_icmp .ne 17, 3) := by decide +kernel
theorem dX0_isHingeEnd_26 : decode cX0_isHingeEnd 26 = .ok (.iload_n 3, 1) := by decide +kernel
theorem dX0_isHingeEnd_27 : decode cX0_isHingeEnd 27 = .ok (.iconst 1, 1) := by decide +kernel
theorem dX0_isHingeEnd_28 : decode cX0_isHingeEnd 28 = .ok (.if_icmp .eq 8, 3) := by decide +kernel
theorem dX0_isHingeEnd_31 : decode cX0_isHingeEnd 31 = .ok (.iload_n 3, 1) := by decide +kernel
theorem dX0_isHingeEnd_32 : decode cX0_isHingeEnd 32 = .ok (.iconst 2, 1) := by decide +kernel
theorem dX0_isHingeEnd_33 : decode cX0_isHingeEnd 33 = .ok (.if_icmp .ne 7, 3) := by decide +kernel
theorem dX0_isHingeEnd_36 : decode cX0_isHingeEnd 36 = .ok (.iconst 1, 1) := by decide +kernel
theorem dX0_isHingeEnd_37 : decode cX0_isHingeEnd 37 = .ok (.goto 4, 3) := by decide +kernel
theorem dX0_isHingeEnd_40 : decode cX0_isHingeEnd 40 = .ok (.iconst 0, 1) := by decide +kernel
theorem dX0_isHingeEnd_41 : decode cX0_isHingeEnd 41 = .ok (.ireturn, 1) := by decide +kernel
theorem dJ9_min_0 : decode cJ9_min 0 = .ok (.iload_n 0, 1) := by decide +kernel
theorem dJ9_min_1 : decode cJ9_min 1 = .ok (.iload_n 1, 1) := by decide +kernel
theorem dJ9_min_2 : decode cJ9_min 2 = .ok (.if_icmp .gt 7, 3) := by decide +kernel
theorem dJ9_min_5 : decode cJ9_min 5 = .ok (.iload_n 0, 1) := by decide +kernel
theorem dJ9_min_6 : decode cJ9_min 6 = .ok (.goto 4, 3) := by decide +kernel
theorem dJ9_min_9 : decode cJ9_min 9 = .ok (.iload_n 1, 1) := by decide +kernel
theorem dJ9_min_10 : decode cJ9_min 10 = .ok (.ireturn, 1) := by decide +kernel
theorem dJ9_max_0 : decode cJ9_max 0 = .ok (.iload_n 0, 1) := by decide +kernel
theorem dJ9_max_1 : decode cJ9_max 1 = .ok (.iload_n 1, 1) := by decide +kernel
theorem dJ9_max_2 : decode cJ9_max 2 = .ok (.if_icmp .lt 7, 3) := by decide +kernel
theorem dJ9_max_5 : decode cJ9_max 5 = .ok (.iload_n 0, 1) := by decide +kernel
theorem dJ9_max_6 : decode cJ9_max 6 = .ok (.goto 4, 3) := by decide +kernel
theorem dJ9_max_9 : decode cJ9_max 9 = .ok (.iload_n 1, 1) := by decide +kernel
theorem dJ9_max_10 : decode cJ9_max 10 = .ok (.ireturn, 1) := by decide +kernel
theorem dX4_sideOfEnd_0 : decode cX4_sideOfEnd 0 = .ok (.iconst 0, 1) := by decide +kernel
theorem dX4_sideOfEnd_1 : decode cX4_sideOfEnd 1 = .ok (.istore 4, 2) := by decide +kernel
theorem dX4_sideOfEnd_3 : decode cX4_sideOfEnd 3 = .ok (.iconst 0, 1) := by decide +kernel
theorem dX4_sideOfEnd_4 : decode cX4_sideOfEnd 4 = .ok (.istore 5, 2) := by decide +kernel
theorem dX4_sideOfEnd_6 : decode cX4_sideOfEnd 6 = .ok (.iload 5, 2) := by decide +kernel
theorem dX4_sideOfEnd_8 : decode cX4_sideOfEnd 8 = .ok (.aload_n 0, 1) := by decide +kernel
theorem dX4_sideOfEnd_9 : decode cX4_sideOfEnd 9 = .ok (.getfield 25, 3) := by decide +kernel
theorem dX4_sideOfEnd_12 : decode cX4_sideOfEnd 12 = .ok (.if_icmp .ge 69, 3) := by decide +kernel
theorem dX4_sideOfEnd_15 : decode cX4_sideOfEnd 15 = .ok (.iload 5, 2) := by decide +kernel
theorem dX4_sideOfEnd_17 : decode cX4_sideOfEnd 17 = .ok (.iload_n 1, 1) := by decide +kernel
theorem dX4_sideOfEnd_18 : decode cX4_sideOfEnd 18 = .ok (.if_icmp .eq 57, 3) := by decide +kernel
theorem dX4_sideOfEnd_21 : decode cX4_sideOfEnd 21 = .ok (.iload 5, 2) := by decide +kernel
theorem dX4_sideOfEnd_23 : decode cX4_sideOfEnd 23 = .ok (.iload_n 2, 1) := by decide +kernel
theorem dX4_sideOfEnd_24 : decode cX4_sideOfEnd 24 = .ok (.if_icmp .eq 51, 3) := by decide +kernel
theorem dX4_sideOfEnd_27 : decode cX4_sideOfEnd 27 = .ok (.aload_n 0, 1) := by decide +kernel
theorem dX4_sideOfEnd_28 : decode cX4_sideOfEnd 28 = .ok (.iload_n 3, 1) := by decide +kernel
theorem dX4_sideOfEnd_29 : decode cX4_sideOfEnd 29 = .ok (.iload 5, 2) := by decide +kernel
theorem dX4_sideOfEnd_31 : decode cX4_sideOfEnd 31 = .ok (.invokevirtual 54, 3) := by decide +kernel
theorem dX4_sideOfEnd_34 : decode cX4_sideOfEnd 34 = .ok (.ifCond .eq 41, 3) := by decide +kernel
theorem dX4_sideOfEnd_37 : decode cX4_sideOfEnd 37 = .ok (.aload_n 0, 1) := by decide +kernel
theorem dX4_sideOfEnd_38 : decode cX4_sideOfEnd 38 = .ok (.iload_n 1, 1) := by decide +kernel
theorem dX4_sideOfEnd_39 : decode cX4_sideOfEnd 39 = .ok (.iload_n 2, 1) := by decide +kernel
theorem dX4_sideOfEnd_40 : decode cX4_sideOfEnd 40 = .ok (.iload 5, 2) := by decide +kernel
theorem dX4_sideOfEnd_42 : decode cX4_sideOfEnd 42 = .ok (.invokevirtual 94, 3) := by decide +kernel
theorem dX4_sideOfEnd_45 : decode cX4_sideOfEnd 45 = .ok (.istore 6, 2) := by decide +kernel
theorem dX4_sideOfEnd_47 : decode cX4_sideOfEnd 47 = .ok (.iload 6, 2) := by decide +kernel
theorem dX4_sideOfEnd_49 : decode cX4_sideOfEnd 49 = .ok (.ifCond .eq 10, 3) := by decide +kernel
theorem dX4_sideOfEnd_52 : decode cX4_sideOfEnd 52 = .ok (.iload 6, 2) := by decide +kernel
theorem dX4_sideOfEnd_54 : decode cX4_sideOfEnd 54 = .ok (.iload 4, 2) := by decide +kernel
theorem dX4_sideOfEnd_56 : decode cX4_sideOfEnd 56 = .ok (.if_icmp .ne 5, 3) := by decide +kernel
theorem dX4_sideOfEnd_59 : decode cX4_sideOfEnd 59 = .ok (.iconst 0, 1) := by decide +kernel
theorem dX4_sideOfEnd_60 : decode cX4_sideOfEnd 60 = .ok (.ireturn, 1) := by decide +kernel
theorem dX4_sideOfEnd_61 : decode cX4_sideOfEnd 61 = .ok (.iload 4, 2) := by decide +kernel
theorem dX4_sideOfEnd_63 : decode cX4_sideOfEnd 63 = .ok (.ifCond .ne 8, 3) := by decide +kernel
theorem dX4_sideOfEnd_66 : decode cX4_sideOfEnd 66 = .ok (.iload 6, 2) := by decide +kernel
theorem dX4_sideOfEnd_68 : decode cX4_sideOfEnd 68 = .ok (.goto 5, 3) := by decide +kernel
theorem dX4_sideOfEnd_71 : decode cX4_sideOfEnd 71 = .ok (.iload 4, 2) := by decide +kernel
theorem dX4_sideOfEnd_73 : decode cX4_sideOfEnd 73 = .ok (.istore 4, 2) := by decide +kernel
theorem dX4_sideOfEnd_75 : decode cX4_sideOfEnd 75 = .ok (.iinc 5 1, 3) := by decide +kernel
theorem dX4_sideOfEnd_78 : decode cX4_sideOfEnd 78 = .ok (.goto (-72), 3) := by decide +kernel
theorem dX4_sideOfEnd_81 : decode cX4_sideOfEnd 81 = .ok (.iload 4, 2) := by decide +kernel
theorem dX4_sideOfEnd_83 : decode cX4_sideOfEnd 83 = .ok (.ireturn, 1) := by decide +kernel
theorem dX0_side_0 : decode cX0_side 0 = .ok (.aload_n 0, 1) := by decide +kernel
theorem dX0_side_1 : decode cX0_side 1 = .ok (.getfield 15, 3) := by decide +kernel
theorem dX0_side_4 : decode cX0_side 4 = .ok (.iload_n 2, 1) := by decide +kernel
theorem dX0_side_5 : decode cX0_side 5 = .ok (.iaload, 1) := by decide +kernel
theorem dX0_side_6 : decode cX0_side 6 = .ok (.aload_n 0, 1) := by decide +kernel
theorem dX0_side_7 : decode cX0_side 7 = .ok (.getfield 15, 3) := by decide +kernel
theorem dX0_side_10 : decode cX0_side 10 = .ok (.iload_n 1, 1) := by decide +kernel
theorem dX0_side_11 : decode cX0_side 11 = .ok (.iaload, 1) := by decide +kernel
theorem dX0_side_12 : decode cX0_side 12 = .ok (.isub, 1) := by decide +kernel
theorem dX0_side_13 : decode cX0_side 13 = .ok (.aload_n 0, 1) := by decide +kernel
theorem dX0_side_14 : decode cX0_side 14 = .ok (.getfield 18, 3) := by decide +kernel
theorem dX0_side_17 : decode cX0_side 17 = .ok (.iload_n 3, 1) := by decide +kernel
theorem dX0_side_18 : decode cX0_side 18 = .ok (.iaload, 1) := by decide +kernel
theorem dX0_side_19 : decode cX0_side 19 = .ok (.aload_n 0, 1) := by decide +kernel
theorem dX0_side_20 : decode cX0_side 20 = .ok (.getfield 18, 3) := by decide +kernel
theorem dX0_side_23 : decode cX0_side 23 = .ok (.iload_n 1, 1) := by decide +kernel
theorem dX0_side_24 : decode cX0_side 24 = .ok (.iaload, 1) := by decide +kernel
theorem dX0_side_25 : decode cX0_side 25 = .ok (.isub, 1) := by decide +kernel
theorem dX0_side_26 : decode cX0_side 26 = .ok (.imul, 1) := by decide +kernel
theorem dX0_side_27 : decode cX0_side 27 = .ok (.aload_n 0, 1) := by decide +kernel
theorem dX0_side_28 : decode cX0_side 28 = .ok (.getfield 18, 3) := by decide +kernel
theorem dX0_side_31 : decode cX0_side 31 = .ok (.iload_n 2, 1) := by decide +kernel
theorem dX0_side_32 : decode cX0_side 32 = .ok (.iaload, 1) := by decide +kernel
theorem dX0_side_33 : decode cX0_side 33 = .ok (.aload_n 0, 1) := by decide +kernel
theorem dX0_side_34 : decode cX0_side 34 = .ok (.getfield 18, 3) := by decide +kernel
theorem dX0_side_37 : decode cX0_side 37 = .ok (.iload_n 1, 1) := by decide +kernel
theorem dX0_side_38 : decode cX0_side 38 = .ok (.iaload, 1) := by decide +kernel
theorem dX0_side_39 : decode cX0_side 39 = .ok (.isub, 1) := by decide +kernel
theorem dX0_side_40 : decode cX0_side 40 = .ok (.aload_n 0, 1) := by decide +kernel
theorem dX0_side_41 : decode cX0_side 41 = .ok (.getfield 15, 3) := by decide +kernel
theorem dX0_side_44 : decode cX0_side 44 = .ok (.iload_n 3, 1) := by decide +kernel
theorem dX0_side_45 : decode cX0_side 45 = .ok (.iaload, 1) := by decide +kernel
theorem dX0_side_46 : decode cX0_side 46 = .ok (.aload_n 0, 1) := by decide +kernel
theorem dX0_side_47 : decode cX0_side 47 = .ok (.getfield 15, 3) := by decide +kernel
theorem dX0_side_50 : decode cX0_side 50 = .ok (.iload_n 1, 1) := by decide +kernel
theorem dX0_side_51 : decode cX0_side 51 = .ok (.iaload, 1) := by decide +kernel
theorem dX0_side_52 : decode cX0_side 52 = .ok (.isub, 1) := by decide +kernel
theorem dX0_side_53 : decode cX0_side 53 = .ok (.imul, 1) := by decide +kernel
theorem dX0_side_54 : decode cX0_side 54 = .ok (.isub, 1) := by decide +kernel
theorem dX0_side_55 : decode cX0_side 55 = .ok (.invokestatic 75, 3) := by decide +kernel
theorem dX0_side_58 : decode cX0_side 58 = .ok (.ireturn, 1) := by decide +kernel
theorem dX6_row_0 : decode cX6_row 0 = .ok (.aload_n 0, 1) := by decide +kernel
theorem dX6_row_1 : decode cX6_row 1 = .ok (.getfield 14, 3) := by decide +kernel
theorem dX6_row_4 : decode cX6_row 4 = .ok (.iload_n 1, 1) := by decide +kernel
theorem dX6_row_5 : decode cX6_row 5 = .ok (.invokevirtual 85, 3) := by decide +kernel
theorem dX6_row_8 : decode cX6_row 8 = .ok (.ifCond .ne 5, 3) := by decide +kernel
theorem dX6_row_11 : decode cX6_row 11 = .ok (.iconst (-1), 1) := by decide +kernel
theorem dX6_row_12 : decode cX6_row 12 = .ok (.ireturn, 1) := by decide +kernel
theorem dX6_row_13 : decode cX6_row 13 = .ok (.aload_n 0, 1) := by decide +kernel
theorem dX6_row_14 : decode cX6_row 14 = .ok (.invokevirtual 142, 3) := by decide +kernel
theorem dX6_row_17 : decode cX6_row 17 = .ok (.aload_n 0, 1) := by decide +kernel
theorem dX6_row_18 : decode cX6_row 18 = .ok (.getfield 38, 3) := by decide +kernel
theorem dX6_row_21 : decode cX6_row 21 = .ok (.getfield 145, 3) := by decide +kernel
theorem dX6_row_24 : decode cX6_row 24 = .ok (.iload_n 1, 1) := by decide +kernel
theorem dX6_row_25 : decode cX6_row 25 = .ok (.iaload, 1) := by decide +kernel
theorem dX6_row_26 : decode cX6_row 26 = .ok (.ireturn, 1) := by decide +kernel
theorem dX6_settle_0 : decode cX6_settle 0 = .ok (.aload_n 0, 1) := by decide +kernel
theorem dX6_settle_1 : decode cX6_settle 1 = .ok (.getfield 67, 3) := by decide +kernel
theorem dX6_settle_4 : decode cX6_settle 4 = .ok (.ifCond .eq 4, 3) := by decide +kernel
theorem dX6_settle_7 : decode cX6_settle 7 = .ok (.return_, 1) := by decide +kernel
theorem dX6_settle_8 : decode cX6_settle 8 = .ok (.aload_n 0, 1) := by decide +kernel
theorem dX6_settle_9 : decode cX6_settle 9 = .ok (.getfield 21, 3) := by decide +kernel
theorem dX6_settle_12 : decode cX6_settle 12 = .ok (.aload_n 0, 1) := by decide +kernel
theorem dX6_settle_13 : decode cX6_settle 13 = .ok (.getfield 14, 3) := by decide +kernel
theorem dX6_settle_16 : decode cX6_settle 16 = .ok (.invokevirtual 189, 3) := by decide +kernel
theorem dX6_settle_19 : decode cX6_settle 19 = .ok (.aload_n 0, 1) := by decide +kernel
theorem dX6_settle_20 : decode cX6_settle 20 = .ok (.getfield 31, 3) := by decide +kernel
theorem dX6_settle_23 : decode cX6_settle 23 = .ok (.aload_n 0, 1) := by decide +kernel
theorem dX6_settle_24 : decode cX6_settle 24 = .ok (.getfield 14, 3) := by decide +kernel
theorem dX6_settle_27 : decode cX6_settle 27 = .ok (.invokevirtual 193, 3) := by decide +kernel
theorem dX6_settle_30 : decode cX6_settle 30 = .ok (.aload_n 0, 1) := by decide +kernel
theorem dX6_settle_31 : decode cX6_settle 31 = .ok (.getfield 31, 3) := by decide +kernel
theorem dX6_settle_34 : decode cX6_settle 34 = .ok (.aload_n 0, 1) := by decide +kernel
theorem dX6_settle_35 : decode cX6_settle 35 = .ok (.getfield 14, 3) := by decide +kernel
theorem dX6_settle_38 : decode cX6_settle 38 = .ok (.aload_n 0, 1) := by decide +kernel
theorem dX6_settle_39 : decode cX6_settle 39 = .ok (.getfield 21, 3) := by decide +kernel
theorem dX6_settle_42 : decode cX6_settle 42 = .ok (.invokevirtual 163, 3) := by decide +kernel
theorem dX6_settle_45 : decode cX6_settle 45 = .ok (.istore_n 1, 1) := by decide +kernel
theorem dX6_settle_46 : decode cX6_settle 46 = .ok (.aload_n 0, 1) := by decide +kernel
theorem dX6_settle_47 : decode cX6_settle 47 = .ok (.getfield 38, 3) := by decide +kernel
theorem dX6_settle_50 : decode cX6_settle 50 = .ok (.aload_n 0, 1) := by decide +kernel
theorem dX6_settle_51 : decode cX6_settle 51 = .ok (.getfield 31, 3) := by decide +kernel
theorem dX6_settle_54 : decode cX6_settle 54 = .ok (.getfield 196, 3) := by decide +kernel
theorem dX6_settle_57 : decode cX6_settle 57 = .ok (.aload_n 0, 1) := by decide +kernel
theorem dX6_settle_58 : decode cX6_settle 58 = .ok (.getfield 14, 3) := by decide +kernel
theorem dX6_settle_61 : decode cX6_settle 61 = .ok (.getfield 78, 3) := by decide +kernel
theorem dX6_settle_64 : decode cX6_settle 64 = .ok (.iload_n 1, 1) := by decide +kernel
theorem dX6_settle_65 : decode cX6_settle 65 = .ok (.invokevirtual 197, 3) := by decide +kernel
theorem dX6_settle_68 : decode cX6_settle 68 = .ok (.aload_n 0, 1) := by decide +kernel
theorem dX6_settle_69 : decode cX6_settle 69 = .ok (.getfield 48, 3) := by decide +kernel
theorem dX6_settle_72 : decode cX6_settle 72 = .ok (.aload_n 0, 1) := by decide +kernel
theorem dX6_settle_73 : decode cX6_settle 73 = .ok (.getfield 31, 3) := by decide +kernel
theorem dX6_settle_76 : decode cX6_settle 76 = .ok (.getfield 201, 3) := by decide +kernel
theorem dX6_settle_79 : decode cX6_settle 79 = .ok (.invokevirtual 204, 3) := by decide +kernel
theorem dX6_settle_82 : decode cX6_settle 82 = .ok (.aload_n 0, 1) := by decide +kernel
theorem dX6_settle_83 : decode cX6_settle 83 = .ok (.getfield 25, 3) := by decide +kernel
theorem dX6_settle_86 : decode cX6_settle 86 = .ok (.aload_n 0, 1) := by decide +kernel
theorem dX6_settle_87 : decode cX6_settle 87 = .ok (.getfield 21, 3) := by decide +kernel
theorem dX6_settle_90 : decode cX6_settle 90 = .ok (.invokevirtual 155, 3) := by decide +kernel
theorem dX6_settle_93 : decode cX6_settle 93 = .ok (.aload_n 0, 1) := by decide +kernel
theorem dX6_settle_94 : decode cX6_settle 94 = .ok (.getfield 25, 3) := by decide +kernel
theorem dX6_settle_97 : decode cX6_settle 97 = .ok (.invokevirtual 207, 3) := by decide +kernel
theorem dX6_settle_100 : decode cX6_settle 100 = .ok (.aload_n 0, 1) := by decide +kernel
theorem dX6_settle_101 : decode cX6_settle 101 = .ok (.aload_n 0, 1) := by decide +kernel
theorem dX6_settle_102 : decode cX6_settle 102 = .ok (.getfield 31, 3) := by decide +kernel
theorem dX6_settle_105 : decode cX6_settle 105 = .ok (.aload_n 0, 1) := by decide +kernel
theorem dX6_settle_106 : decode cX6_settle 106 = .ok (.getfield 14, 3) := by decide +kernel
theorem dX6_settle_109 : decode cX6_settle 109 = .ok (.aload_n 0, 1) := by decide +kernel
theorem dX6_settle_110 : decode cX6_settle 110 = .ok (.getfield 25, 3) := by decide +kernel
theorem dX6_settle_113 : decode cX6_settle 113 = .ok (.invokevirtual 163, 3) := by decide +kernel
theorem dX6_settle_116 : decode cX6_settle 116 = .ok (.putfield 63, 3) := by decide +kernel
theorem dX6_settle_119 : decode cX6_settle 119 = .ok (.aload_n 0, 1) := by decide +kernel
theorem dX6_settle_120 : decode cX6_settle 120 = .ok (.iconst 1, 1) := by decide +kernel
theorem dX6_settle_121 : decode cX6_settle 121 = .ok (.putfield 67, 3) := by decide +kernel
theorem dX6_settle_124 : decode cX6_settle 124 = .ok (.return_, 1) := by decide +kernel
theorem dX4_readFrom_0 : decode cX4_readFrom 0 = .ok (.iconst 0, 1) := by decide +kernel
theorem dX4_readFrom_1 : decode cX4_readFrom 1 = .ok (.istore_n 2, 1) := by decide +kernel
theorem dX4_readFrom_2 : decode cX4_readFrom 2 = .ok (.iload_n 2, 1) := by decide +kernel
theorem dX4_readFrom_3 : decode cX4_readFrom 3 = .ok (.aload_n 1, 1) := by decide +kernel
theorem dX4_readFrom_4 : decode cX4_readFrom 4 = .ok (.getfield 25, 3) := by decide +kernel
theorem dX4_readFrom_7 : decode cX4_readFrom 7 = .ok (.if_icmp .ge 21, 3) := by decide +kernel
theorem dX4_readFrom_10 : decode cX4_readFrom 10 = .ok (.aload_n 0, 1) := by decide +kernel
theorem dX4_readFrom_11 : decode cX4_readFrom 11 = .ok (.getfield 9, 3) := by decide +kernel
theorem dX4_readFrom_14 : decode cX4_readFrom 14 = .ok (.iload_n 2, 1) := by decide +kernel
theorem dX4_readFrom_15 : decode cX4_readFrom 15 = .ok (.aload_n 0, 1) := by decide +kernel
theorem dX4_readFrom_16 : decode cX4_readFrom 16 = .ok (.aload_n 1, 1) := by decide +kernel
theorem dX4_readFrom_17 : decode cX4_readFrom 17 = .ok (.iload_n 2, 1) := by decide +kernel
theorem dX4_readFrom_18 : decode cX4_readFrom 18 = .ok (.invokevirtual 31, 3) := by decide +kernel
theorem dX4_readFrom_21 : decode cX4_readFrom 21 = .ok (.iastore, 1) := by decide +kernel
theorem dX4_readFrom_22 : decode cX4_readFrom 22 = .ok (.iinc 2 1, 3) := by decide +kernel
theorem dX4_readFrom_25 : decode cX4_readFrom 25 = .ok (.goto (-23), 3) := by decide +kernel
theorem dX4_readFrom_28 : decode cX4_readFrom 28 = .ok (.iconst 0, 1) := by decide +kernel
theorem dX4_readFrom_29 : decode cX4_readFrom 29 = .ok (.istore_n 2, 1) := by decide +kernel
theorem dX4_readFrom_30 : decode cX4_readFrom 30 = .ok (.iload_n 2, 1) := by decide +kernel
theorem dX4_readFrom_31 : decode cX4_readFrom 31 = .ok (.aload_n 1, 1) := by decide +kernel
theorem dX4_readFrom_32 : decode cX4_readFrom 32 = .ok (.getfield 35, 3) := by decide +kernel
theorem dX4_readFrom_35 : decode cX4_readFrom 35 = .ok (.if_icmp .ge 32, 3) := by decide +kernel
theorem dX4_readFrom_38 : decode cX4_readFrom 38 = .ok (.aload_n 0, 1) := by decide +kernel
theorem dX4_readFrom_39 : decode cX4_readFrom 39 = .ok (.getfield 15, 3) := by decide +kernel
theorem dX4_readFrom_42 : decode cX4_readFrom 42 = .ok (.iload_n 2, 1) := by decide +kernel
theorem dX4_readFrom_43 : decode cX4_readFrom 43 = .ok (.aload_n 0, 1) := by decide +kernel
theorem dX4_readFrom_44 : decode cX4_readFrom 44 = .ok (.aload_n 1, 1) := by decide +kernel
theorem dX4_readFrom_45 : decode cX4_readFrom 45 = .ok (.iload_n 2, 1) := by decide +kernel
theorem dX4_readFrom_46 : decode cX4_readFrom 46 = .ok (.invokevirtual 38, 3) := by decide +kernel
theorem dX4_readFrom_49 : decode cX4_readFrom 49 = .ok (.iastore, 1) := by decide +kernel
theorem dX4_readFrom_50 : decode cX4_readFrom 50 = .ok (.aload_n 0, 1) := by decide +kernel
theorem dX4_readFrom_51 : decode cX4_readFrom 51 = .ok (.getfield 18, 3) := by decide +kernel
theorem dX4_readFrom_54 : decode cX4_readFrom 54 = .ok (.iload_n 2, 1) := by decide +kernel
theorem dX4_readFrom_55 : decode cX4_readFrom 55 = .ok (.aload_n 1, 1) := by decide +kernel
theorem dX4_readFrom_56 : decode cX4_readFrom 56 = .ok (.iload_n 2, 1) := by decide +kernel
theorem dX4_readFrom_57 : decode cX4_readFrom 57 = .ok (.invokevirtual 41, 3) := by decide +kernel
theorem dX4_readFrom_60 : decode cX4_readFrom 60 = .ok (.bastore, 1) := by decide +kernel
theorem dX4_readFrom_61 : decode cX4_readFrom 61 = .ok (.iinc 2 1, 3) := by decide +kernel
theorem dX4_readFrom_64 : decode cX4_readFrom 64 = .ok (.goto (-34), 3) := by decide +kernel
theorem dX4_readFrom_67 : decode cX4_readFrom 67 = .ok (.return_, 1) := by decide +kernel
theorem dX3_begin_0 : decode cX3_begin 0 = .ok (.aload_n 0, 1) := by decide +kernel
theorem dX3_begin_1 : decode cX3_begin 1 = .ok (.getfield 9, 3) := by decide +kernel
theorem dX3_begin_4 : decode cX3_begin 4 = .ok (.ldc 28, 2) := by decide +kernel
theorem dX3_begin_6 : decode cX3_begin 6 = .ok (.invokestatic 33, 3) := by decide +kernel
theorem dX3_begin_9 : decode cX3_begin 9 = .ok (.iconst 0, 1) := by decide +kernel
theorem dX3_begin_10 : decode cX3_begin 10 = .ok (.istore_n 2, 1) := by decide +kernel
theorem dX3_begin_11 : decode cX3_begin 11 = .ok (.iload_n 2, 1) := by decide +kernel
theorem dX3_begin_12 : decode cX3_begin 12 = .ok (.aload_n 1, 1) := by decide +kernel
theorem dX3_begin_13 : decode cX3_begin 13 = .ok (.getfield 39, 3) := by decide +kernel
theorem dX3_begin_16 : decode cX3_begin 16 = .ok (.if_icmp .ge 33, 3) := by decide +kernel
theorem dX3_begin_19 : decode cX3_begin 19 = .ok (.aload_n 0, 1) := by decide +kernel
theorem dX3_begin_20 : decode cX3_begin 20 = .ok (.getfield 25, 3) := by decide +kernel
theorem dX3_begin_23 : decode cX3_begin 23 = .ok (.iload_n 2, 1) := by decide +kernel
theorem dX3_begin_24 : decode cX3_begin 24 = .ok (.ldc 44, 2) := by decide +kernel
theorem dX3_begin_26 : decode cX3_begin 26 = .ok (.bipush 8, 2) := by decide +kernel
theorem dX3_begin_28 : decode cX3_begin 28 = .ok (.aload_n 1, 1) := by decide +kernel
theorem dX3_begin_29 : decode cX3_begin 29 = .ok (.getfield 45, 3) := by decide +kernel
theorem dX3_begin_32 : decode cX3_begin 32 = .ok (.iload_n 2, 1) := by decide +kernel
theorem dX3_begin_33 : decode cX3_begin 33 = .ok (.iaload, 1) := by decide +kernel
theorem dX3_begin_34 : decode cX3_begin 34 = .ok (.imul, 1) := by decide +kernel
theorem dX3_begin_35 : decode cX3_begin 35 = .ok (.aload_n 1, 1) := by decide +kernel
theorem dX3_begin_36 : decode cX3_begin 36 = .ok (.iload_n 2, 1) := by decide +kernel
theorem dX3_begin_37 : decode cX3_begin 37 = .ok (.invokevirtual 48, 3) := by decide +kernel
theorem dX3_begin_40 : decode cX3_begin 40 = .ok (.iadd, 1) := by decide +kernel
theorem dX3_begin_41 : decode cX3_begin 41 = .ok (.imul, 1) := by decide +kernel
theorem dX3_begin_42 : decode cX3_begin 42 = .ok (.iastore, 1) := by decide +kernel
theorem dX3_begin_43 : decode cX3_begin 43 = .ok (.iinc 2 1, 3) := by decide +kernel
theorem dX3_begin_46 : decode cX3_begin 46 = .ok (.goto (-35), 3) := by decide +kernel
theorem dX3_begin_49 : decode cX3_begin 49 = .ok (.return_, 1) := by decide +kernel
theorem dX3_leastSenses_0 : decode cX3_leastSenses 0 = .ok (.aload_n 0, 1) := by decide +kernel
theorem dX3_leastSenses_1 : decode cX3_leastSenses 1 = .ok (.ldc 28, 2) := by decide +kernel
theorem dX3_leastSenses_3 : decode cX3_leastSenses 3 = .ok (.putfield 29, 3) := by decide +kernel
theorem dX3_leastSenses_6 : decode cX3_leastSenses 6 = .ok (.aload_n 0, 1) := by decide +kernel
theorem dX3_leastSenses_7 : decode cX3_leastSenses 7 = .ok (.getfield 22, 3) := by decide +kernel
theorem dX3_leastSenses_10 : decode cX3_leastSenses 10 = .ok (.invokevirtual 52, 3) := by decide +kernel
theorem dX3_leastSenses_13 : decode cX3_leastSenses 13 = .ok (.aload_n 0, 1) := by decide +kernel
theorem dX3_leastSenses_14 : decode cX3_leastSenses 14 = .ok (.aload_n 1, 1) := by decide +kernel
theorem dX3_leastSenses_15 : decode cX3_leastSenses 15 = .ok (.aload_n 2, 1) := by decide +kernel
theorem dX3_leastSenses_16 : decode cX3_leastSenses 16 = .ok (.iconst 0, 1) := by decide +kernel
theorem dX3_leastSenses_17 : decode cX3_leastSenses 17 = .ok (.invokevirtual 55, 3) := by decide +kernel
theorem dX3_leastSenses_20 : decode cX3_leastSenses 20 = .ok (.aload_n 0, 1) := by decide +kernel
theorem dX3_leastSenses_21 : decode cX3_leastSenses 21 = .ok (.getfield 29, 3) := by decide +kernel
theorem dX3_leastSenses_24 : decode cX3_leastSenses 24 = .ok (.ireturn, 1) := by decide +kernel
theorem dX2_removeAll_0 : decode cX2_removeAll 0 = .ok (.aload_n 0, 1) := by decide +kernel
theorem dX2_removeAll_1 : decode cX2_removeAll 1 = .ok (.getfield 9, 3) := by decide +kernel
theorem dX2_removeAll_4 : decode cX2_removeAll 4 = .ok (.iconst (-1), 1) := by decide +kernel
theorem dX2_removeAll_5 : decode cX2_removeAll 5 = .ok (.invokestatic 18, 3) := by decide +kernel
theorem dX2_removeAll_8 : decode cX2_removeAll 8 = .ok (.aload_n 0, 1) := by decide +kernel
theorem dX2_removeAll_9 : decode cX2_removeAll 9 = .ok (.getfield 15, 3) := by decide +kernel
theorem dX2_removeAll_12 : decode cX2_removeAll 12 = .ok (.iconst (-1), 1) := by decide +kernel
theorem dX2_removeAll_13 : decode cX2_removeAll 13 = .ok (.invokestatic 18, 3) := by decide +kernel
theorem dX2_removeAll_16 : decode cX2_removeAll 16 = .ok (.return_, 1) := by decide +kernel
theorem dX3_place_0 : decode cX3_place 0 = .ok (.iload_n 3, 1) := by decide +kernel
theorem dX3_place_1 : decode cX3_place 1 = .ok (.aload_n 1, 1) := by decide +kernel
theorem dX3_place_2 : decode cX3_place 2 = .ok (.getfield 39, 3) := by decide +kernel
theorem dX3_place_5 : decode cX3_place 5 = .ok (.if_icmp .lt 10, 3) := by decide +kernel
theorem dX3_place_8 : decode cX3_place 8 = .ok (.aload_n 0, 1) := by decide +kernel
theorem dX3_place_9 : decode cX3_place 9 = .ok (.aload_n 1, 1) := by decide +kernel
theorem dX3_place_10 : decode cX3_place 10 = .ok (.aload_n 2, 1) := by decide +kernel
theorem dX3_place_11 : decode cX3_place 11 = .ok (.invokevirtual 59, 3) := by decide +kernel
theorem dX3_place_14 : decode cX3_place 14 = .ok (.return_, 1) := by decide +kernel
theorem dX3_place_15 : decode cX3_place 15 = .ok (.aload_n 0, 1) := by decide +kernel
theorem dX3_place_16 : decode cX3_place 16 = .ok (.aload_n 1, 1) := by decide +kernel
theorem dX3_place_17 : decode cX3_place 17 = .ok (.iload_n 3, 1) := by decide +kernel
theorem dX3_place_18 : decode cX3_place 18 = .ok (.invokevirtual 63, 3) := by decide +kernel
theorem dX3_place_21 : decode cX3_place 21 = .ok (.istore 4, 2) := by decide +kernel
theorem dX3_place_23 : decode cX3_place 23 = .ok (.iload 4, 2) := by decide +kernel
theorem dX3_place_25 : decode cX3_place 25 = .ok (.aload_n 0, 1) := by decide +kernel
theorem dX3_place_26 : decode cX3_place 26 = .ok (.getfield 9, 3) := by decide +kernel
theorem dX3_place_29 : decode cX3_place 29 = .ok (.iload_n 3, 1) := by decide +kernel
theorem dX3_place_30 : decode cX3_place 30 = .ok (.iaload, 1) := by decide +kernel
theorem dX3_place_31 : decode cX3_place 31 = .ok (.if_icmp .le 4, 3) := by decide +kernel
theorem dX3_place_34 : decode cX3_place 34 = .ok (.return_, 1) := by decide +kernel
theorem dX3_place_35 : decode cX3_place 35 = .ok (.iload 4, 2) := by decide +kernel
theorem dX3_place_37 : decode cX3_place 37 = .ok (.aload_n 0, 1) := by decide +kernel
theorem dX3_place_38 : decode cX3_place 38 = .ok (.getfield 9, 3) := by decide +kernel
theorem dX3_place_41 : decode cX3_place 41 = .ok (.iload_n 3, 1) := by decide +kernel
theorem dX3_place_42 : decode cX3_place 42 = .ok (.iaload, 1) := by decide +kernel
theorem dX3_place_43 : decode cX3_place 43 = .ok (.if_icmp .ge 10, 3) := by decide +kernel
theorem dX3_place_46 : decode cX3_place 46 = .ok (.aload_n 0, 1) := by decide +kernel
theorem dX3_place_47 : decode cX3_place 47 = .ok (.iload_n 3, 1) := by decide +kernel
theorem dX3_place_48 : decode cX3_place 48 = .ok (.iload 4, 2) := by decide +kernel
theorem dX3_place_50 : decode cX3_place 50 = .ok (.invokevirtual 67, 3) := by decide +kernel
theorem dX3_place_53 : decode cX3_place 53 = .ok (.iconst 0, 1) := by decide +kernel
theorem dX3_place_54 : decode cX3_place 54 = .ok (.istore 5, 2) := by decide +kernel
theorem dX3_place_56 : decode cX3_place 56 = .ok (.iload 5, 2) := by decide +kernel
theorem dX3_place_58 : decode cX3_place 58 = .ok (.aload_n 1, 1) := by decide +kernel
theorem dX3_place_59 : decode cX3_place 59 = .ok (.getfield 39, 3) := by decide +kernel
theorem dX3_place_62 : decode cX3_place 62 = .ok (.if_icmp .ge 75, 3) := by decide +kernel
theorem dX3_place_65 : decode cX3_place 65 = .ok (.aload_n 0, 1) := by decide +kernel
theorem dX3_place_66 : decode cX3_place 66 = .ok (.getfield 22, 3) := by decide +kernel
theorem dX3_place_69 : decode cX3_place 69 = .ok (.getfield 71, 3) := by decide +kernel
theorem dX3_place_72 : decode cX3_place 72 = .ok (.iload 5, 2) := by decide +kernel
theorem dX3_place_74 : decode cX3_place 74 = .ok (.iaload, 1) := by decide +kernel
theorem dX3_place_75 : decode cX3_place 75 = .ok (.iconst (-1), 1) := by decide +kernel
theorem dX3_place_76 : decode cX3_place 76 = .ok (.if_icmp .ne 55, 3) := by decide +kernel
theorem dX3_place_79 : decode cX3_place 79 = .ok (.aload_n 0, 1) := by decide +kernel
theorem dX3_place_80 : decode cX3_place 80 = .ok (.aload_n 1, 1) := by decide +kernel
theorem dX3_place_81 : decode cX3_place 81 = .ok (.iload 5, 2) := by decide +kernel
theorem dX3_place_83 : decode cX3_place 83 = .ok (.iload_n 3, 1) := by decide +kernel
theorem dX3_place_84 : decode cX3_place 84 = .ok (.invokevirtual 74, 3) := by decide +kernel
theorem dX3_place_87 : decode cX3_place 87 = .ok (.iload 4, 2) := by decide +kernel
theorem dX3_place_89 : decode cX3_place 89 = .ok (.if_icmp .ne 42, 3) := by decide +kernel
theorem dX3_place_92 : decode cX3_place 92 = .ok (.aload_n 0, 1) := by decide +kernel
theorem dX3_place_93 : decode cX3_place 93 = .ok (.getfield 22, 3) := by decide +kernel
theorem dX3_place_96 : decode cX3_place 96 = .ok (.iload 5, 2) := by decide +kernel
theorem dX3_place_98 : decode cX3_place 98 = .ok (.iload_n 3, 1) := by decide +kernel
theorem dX3_place_99 : decode cX3_place 99 = .ok (.invokevirtual 78, 3) := by decide +kernel
theorem dX3_place_102 : decode cX3_place 102 = .ok (.aload_n 0, 1) := by decide +kernel
theorem dX3_place_103 : decode cX3_place 103 = .ok (.aload_n 1, 1) := by decide +kernel
theorem dX3_place_104 : decode cX3_place 104 = .ok (.aload_n 2, 1) := by decide +kernel
theorem dX3_place_105 : decode cX3_place 105 = .ok (.iload_n 3, 1) := by decide +kernel
theorem dX3_place_106 : decode cX3_place 106 = .ok (.iconst 1, 1) := by decide +kernel
theorem dX3_place_107 : decode cX3_place 107 = .ok (.iadd, 1) := by decide +kernel
theorem dX3_place_108 : decode cX3_place 108 = .ok (.invokevirtual 55, 3) := by decide +kernel
theorem dX3_place_111 : decode cX3_place 111 = .ok (.aload_n 0, 1) := by decide +kernel
theorem dX3_place_112 : decode cX3_place 112 = .ok (.getfield 22, 3) := by decide +kernel
theorem dX3_place_115 : decode cX3_place 115 = .ok (.iload 5, 2) := by decide +kernel
theorem dX3_place_117 : decode cX3_place 117 = .ok (.iload_n 3, 1) := by decide +kernel
theorem dX3_place_118 : decode cX3_place 118 = .ok (.invokevirtual 81, 3) := by decide +kernel
theorem dX3_place_121 : decode cX3_place 121 = .ok (.aload_n 1, 1) := by decide +kernel
theorem dX3_place_122 : decode cX3_place 122 = .ok (.iload 5, 2) := by decide +kernel
theorem dX3_place_124 : decode cX3_place 124 = .ok (.invokevirtual 84, 3) := by decide +kernel
theorem dX3_place_127 : decode cX3_place 127 = .ok (.ifCond .eq 4, 3) := by decide +kernel
theorem dX3_place_130 : decode cX3_place 130 = .ok (.return_, 1) := by decide +kernel
theorem dX3_place_131 : decode cX3_place 131 = .ok (.iinc 5 1, 3) := by decide +kernel
theorem dX3_place_134 : decode cX3_place 134 = .ok (.goto (-78), 3) := by decide +kernel
theorem dX3_place_137 : decode cX3_place 137 = .ok (.return_, 1) := by decide +kernel
theorem dX3_weigh_0 : decode cX3_weigh 0 = .ok (.aload_n 0, 1) := by decide +kernel
theorem dX3_weigh_1 : decode cX3_weigh 1 = .ok (.getfield 22, 3) := by decide +kernel
theorem dX3_weigh_4 : decode cX3_weigh 4 = .ok (.aload_n 1, 1) := by decide +kernel
theorem dX3_weigh_5 : decode cX3_weigh 5 = .ok (.aload_n 2, 1) := by decide +kernel
theorem dX3_weigh_6 : decode cX3_weigh 6 = .ok (.invokevirtual 88, 3) := by decide +kernel
theorem dX3_weigh_9 : decode cX3_weigh 9 = .ok (.istore_n 3, 1) := by decide +kernel
theorem dX3_weigh_10 : decode cX3_weigh 10 = .ok (.iload_n 3, 1) := by decide +kernel
theorem dX3_weigh_11 : decode cX3_weigh 11 = .ok (.aload_n 0, 1) := by decide +kernel
theorem dX3_weigh_12 : decode cX3_weigh 12 = .ok (.getfield 29, 3) := by decide +kernel
theorem dX3_weigh_15 : decode cX3_weigh 15 = .ok (.if_icmp .ge 19, 3) := by decide +kernel
theorem dX3_weigh_18 : decode cX3_weigh 18 = .ok (.aload_n 0, 1) := by decide +kernel
theorem dX3_weigh_19 : decode cX3_weigh 19 = .ok (.iload_n 3, 1) := by decide +kernel
theorem dX3_weigh_20 : decode cX3_weigh 20 = .ok (.putfield 29, 3) := by decide +kernel
theorem dX3_weigh_23 : decode cX3_weigh 23 = .ok (.aload_n 0, 1) := by decide +kernel
theorem dX3_weigh_24 : decode cX3_weigh 24 = .ok (.getfield 18, 3) := by decide +kernel
theorem dX3_weigh_27 : decode cX3_weigh 27 = .ok (.aload_n 0, 1) := by decide +kernel
theorem dX3_weigh_28 : decode cX3_weigh 28 = .ok (.getfield 22, 3) := by decide +kernel
theorem dX3_weigh_31 : decode cX3_weigh 31 = .ok (.invokevirtual 92, 3) := by decide +kernel
theorem dX3_weigh_34 : decode cX3_weigh 34 = .ok (.return_, 1) := by decide +kernel
theorem dX2_code_0 : decode cX2_code 0 = .ok (.iconst 0, 1) := by decide +kernel
theorem dX2_code_1 : decode cX2_code 1 = .ok (.istore_n 3, 1) := by decide +kernel
theorem dX2_code_2 : decode cX2_code 2 = .ok (.iconst 0, 1) := by decide +kernel
theorem dX2_code_3 : decode cX2_code 3 = .ok (.istore 4, 2) := by decide +kernel
theorem dX2_code_5 : decode cX2_code 5 = .ok (.iload 4, 2) := by decide +kernel
theorem dX2_code_7 : decode cX2_code 7 = .ok (.aload_n 1, 1) := by decide +kernel
theorem dX2_code_8 : decode cX2_code 8 = .ok (.getfield 30, 3) := by decide +kernel
theorem dX2_code_11 : decode cX2_code 11 = .ok (.if_icmp .ge 29, 3) := by decide +kernel
theorem dX2_code_14 : decode cX2_code 14 = .ok (.iconst 3, 1) := by decide +kernel
theorem dX2_code_15 : decode cX2_code 15 = .ok (.iload_n 3, 1) := by decide +kernel
theorem dX2_code_16 : decode cX2_code 16 = .ok (.imul, 1) := by decide +kernel
theorem dX2_code_17 : decode cX2_code 17 = .ok (.aload_n 0, 1) := by decide +kernel
theorem dX2_code_18 : decode cX2_code 18 = .ok (.aload_n 1, 1) := by decide +kernel
theorem dX2_code_19 : decode cX2_code 19 = .ok (.aload_n 2, 1) := by decide +kernel
theorem dX2_code_20 : decode cX2_code 20 = .ok (.aload_n 0, 1) := by decide +kernel
theorem dX2_code_21 : decode cX2_code 21 = .ok (.getfield 9, 3) := by decide +kernel
theorem dX2_code_24 : decode cX2_code 24 = .ok (.iload 4, 2) := by decide +kernel
theorem dX2_code_26 : decode cX2_code 26 = .ok (.iaload, 1) := by decide +kernel
theorem dX2_code_27 : decode cX2_code 27 = .ok (.invokevirtual 36, 3) := by decide +kernel
theorem dX2_code_30 : decode cX2_code 30 = .ok (.iadd, 1) := by decide +kernel
theorem dX2_code_31 : decode cX2_code 31 = .ok (.iconst 1, 1) := by decide +kernel
theorem dX2_code_32 : decode cX2_code 32 = .ok (.iadd, 1) := by decide +kernel
theorem dX2_code_33 : decode cX2_code 33 = .ok (.istore_n 3, 1) := by decide +kernel
theorem dX2_code_34 : decode cX2_code 34 = .ok (.iinc 4 1, 3) := by decide +kernel
theorem dX2_code_37 : decode cX2_code 37 = .ok (.goto (-32), 3) := by decide +kernel
theorem dX2_code_40 : decode cX2_code 40 = .ok (.iconst 0, 1) := by decide +kernel
theorem dX2_code_41 : decode cX2_code 41 = .ok (.istore 4, 2) := by decide +kernel
theorem dX2_code_43 : decode cX2_code 43 = .ok (.iload 4, 2) := by decide +kernel
theorem dX2_code_45 : decode cX2_code 45 = .ok (.aload_n 1, 1) := by decide +kernel
theorem dX2_code_46 : decode cX2_code 46 = .ok (.getfield 30, 3) := by decide +kernel
theorem dX2_code_49 : decode cX2_code 49 = .ok (.if_icmp .ge 76, 3) := by decide +kernel
theorem dX2_code_52 : decode cX2_code 52 = .ok (.iconst 0, 1) := by decide +kernel
theorem dX2_code_53 : decode cX2_code 53 = .ok (.istore 5, 2) := by decide +kernel
theorem dX2_code_55 : decode cX2_code 55 = .ok (.iload 5, 2) := by decide +kernel
theorem dX2_code_57 : decode cX2_code 57 = .ok (.iload 4, 2) := by decide +kernel
theorem dX2_code_59 : decode cX2_code 59 = .ok (.if_icmp .ge 60, 3) := by decide +kernel
theorem dX2_code_62 : decode cX2_code 62 = .ok (.aload_n 1, 1) := by decide +kernel
theorem dX2_code_63 : decode cX2_code 63 = .ok (.aload_n 0, 1) := by decide +kernel
theorem dX2_code_64 : decode cX2_code 64 = .ok (.getfield 9, 3) := by decide +kernel
theorem dX2_code_67 : decode cX2_code 67 = .ok (.iload 4, 2) := by decide +kernel
theorem dX2_code_69 : decode cX2_code 69 = .ok (.iaload, 1) := by decide +kernel
theorem dX2_code_70 : decode cX2_code 70 = .ok (.aload_n 0, 1) := by decide +kernel
theorem dX2_code_71 : decode cX2_code 71 = .ok (.getfield 9, 3) := by decide +kernel
theorem dX2_code_74 : decode cX2_code 74 = .ok (.iload 5, 2) := by decide +kernel
theorem dX2_code_76 : decode cX2_code 76 = .ok (.iaload, 1) := by decide +kernel
theorem dX2_code_77 : decode cX2_code 77 = .ok (.invokevirtual 40, 3) := by decide +kernel
theorem dX2_code_80 : decode cX2_code 80 = .ok (.istore 6, 2) := by decide +kernel
theorem dX2_code_82 : decode cX2_code 82 = .ok (.iload 6, 2) := by decide +kernel
theorem dX2_code_84 : decode cX2_code 84 = .ok (.iconst (-1), 1) := by decide +kernel
theorem dX2_code_85 : decode cX2_code 85 = .ok (.if_icmp .eq 28, 3) := by decide +kernel
theorem dX2_code_88 : decode cX2_code 88 = .ok (.aload_n 2, 1) := by decide +kernel
theorem dX2_code_89 : decode cX2_code 89 = .ok (.getfield 44, 3) := by decide +kernel
theorem dX2_code_92 : decode cX2_code 92 = .ok (.iload 6, 2) := by decide +kernel
theorem dX2_code_94 : decode cX2_code 94 = .ok (.baload, 1) := by decide +kernel
theorem dX2_code_95 : decode cX2_code 95 = .ok (.ifCond .eq 18, 3) := by decide +kernel
theorem dX2_code_98 : decode cX2_code 98 = .ok (.iconst 3, 1) := by decide +kernel
theorem dX2_code_99 : decode cX2_code 99 = .ok (.iload_n 3, 1) := by decide +kernel
theorem dX2_code_100 : decode cX2_code 100 = .ok (.imul, 1) := by decide +kernel
theorem dX2_code_101 : decode cX2_code 101 = .ok (.aload_n 0, 1) := by decide +kernel
theorem dX2_code_102 : decode cX2_code 102 = .ok (.aload_n 1, 1) := by decide +kernel
theorem dX2_code_103 : decode cX2_code 103 = .ok (.aload_n 2, 1) := by decide +kernel
theorem dX2_code_104 : decode cX2_code 104 = .ok (.iload 6, 2) := by decide +kernel
theorem dX2_code_106 : decode cX2_code 106 = .ok (.invokevirtual 50, 3) := by decide +kernel
theorem dX2_code_109 : decode cX2_code 109 = .ok (.iadd, 1) := by decide +kernel
theorem dX2_code_110 : decode cX2_code 110 = .ok (.iconst 1, 1) := by decide +kernel
theorem dX2_code_111 : decode cX2_code 111 = .ok (.iadd, 1) := by decide +kernel
theorem dX2_code_112 : decode cX2_code 112 = .ok (.istore_n 3, 1) := by decide +kernel
theorem dX2_code_113 : decode cX2_code 113 = .ok (.iinc 5 1, 3) := by decide +kernel
theorem dX2_code_116 : decode cX2_code 116 = .ok (.goto (-61), 3) := by decide +kernel
theorem dX2_code_119 : decode cX2_code 119 = .ok (.iinc 4 1, 3) := by decide +kernel
theorem dX2_code_122 : decode cX2_code 122 = .ok (.goto (-79), 3) := by decide +kernel
theorem dX2_code_125 : decode cX2_code 125 = .ok (.iload_n 3, 1) := by decide +kernel
theorem dX2_code_126 : decode cX2_code 126 = .ok (.ireturn, 1) := by decide +kernel
theorem dX2_senseOfAtom_0 : decode cX2_senseOfAtom 0 = .ok (.aload_n 2, 1) := by decide +kernel
theorem dX2_senseOfAtom_1 : decode cX2_senseOfAtom 1 = .ok (.getfield 53, 3) := by decide +kernel
theorem dX2_senseOfAtom_4 : decode cX2_senseOfAtom 4 = .ok (.iload_n 3, 1) := by decide +kernel
theorem dX2_senseOfAtom_5 : decode cX2_senseOfAtom 5 = .ok (.iaload, 1) := by decide +kernel
theorem dX2_senseOfAtom_6 : decode cX2_senseOfAtom 6 = .ok (.istore 4, 2) := by decide +kernel
theorem dX2_senseOfAtom_8 : decode cX2_senseOfAtom 8 = .ok (.iload 4, 2) := by decide +kernel
theorem dX2_senseOfAtom_10 : decode cX2_senseOfAtom 10 = .ok (.ifCond .ne 7, 3) := by decide +kernel
theorem dX2_senseOfAtom_13 : decode cX2_senseOfAtom 13 = .ok (.iconst 0, 1) := by decide +kernel
theorem dX2_senseOfAtom_14 : decode cX2_senseOfAtom 14 = .ok (.goto 13, 3) := by decide +kernel
theorem dX2_senseOfAtom_17 : decode cX2_senseOfAtom 17 = .ok (.iload 4, 2) := by decide +kernel
theorem dX2_senseOfAtom_19 : decode cX2_senseOfAtom 19 = .ok (.aload_n 0, 1) := by decide +kernel
theorem dX2_senseOfAtom_20 : decode cX2_senseOfAtom 20 = .ok (.aload_n 1, 1) := by decide +kernel
theorem dX2_senseOfAtom_21 : decode cX2_senseOfAtom 21 = .ok (.iload_n 3, 1) := by decide +kernel
theorem dX2_senseOfAtom_22 : decode cX2_senseOfAtom 22 = .ok (.iconst (-1), 1) := by decide +kernel
theorem dX2_senseOfAtom_23 : decode cX2_senseOfAtom 23 = .ok (.invokevirtual 54, 3) := by decide +kernel
theorem dX2_senseOfAtom_26 : decode cX2_senseOfAtom 26 = .ok (.imul, 1) := by decide +kernel
theorem dX2_senseOfAtom_27 : decode cX2_senseOfAtom 27 = .ok (.ireturn, 1) := by decide +kernel
theorem dX2_orderSign_0 : decode cX2_orderSign 0 = .ok (.aload_n 1, 1) := by decide +kernel
theorem dX2_orderSign_1 : decode cX2_orderSign 1 = .ok (.getfield 67, 3) := by decide +kernel
theorem dX2_orderSign_4 : decode cX2_orderSign 4 = .ok (.iload_n 2, 1) := by decide +kernel
theorem dX2_orderSign_5 : decode cX2_orderSign 5 = .ok (.aaload, 1) := by decide +kernel
theorem dX2_orderSign_6 : decode cX2_orderSign 6 = .ok (.astore 4, 2) := by decide +kernel
theorem dX2_orderSign_8 : decode cX2_orderSign 8 = .ok (.iconst 1, 1) := by decide +kernel
theorem dX2_orderSign_9 : decode cX2_orderSign 9 = .ok (.istore 5, 2) := by decide +kernel
theorem dX2_orderSign_11 : decode cX2_orderSign 11 = .ok (.iconst 0, 1) := by decide +kernel
theorem dX2_orderSign_12 : decode cX2_orderSign 12 = .ok (.istore 6, 2) := by decide +kernel
theorem dX2_orderSign_14 : decode cX2_orderSign 14 = .ok (.iload 6, 2) := by decide +kernel
theorem dX2_orderSign_16 : decode cX2_orderSign 16 = .ok (.aload_n 1, 1) := by decide +kernel
theorem dX2_orderSign_17 : decode cX2_orderSign 17 = .ok (.getfield 30, 3) := by decide +kernel
theorem dX2_orderSign_20 : decode cX2_orderSign 20 = .ok (.if_icmp .ge 78, 3) := by decide +kernel
theorem dX2_orderSign_23 : decode cX2_orderSign 23 = .ok (.iload 6, 2) := by decide +kernel
theorem dX2_orderSign_25 : decode cX2_orderSign 25 = .ok (.iload_n 3, 1) := by decide +kernel
theorem dX2_orderSign_26 : decode cX2_orderSign 26 = .ok (.if_icmp .eq 66, 3) := by decide +kernel
theorem dX2_orderSign_29 : decode cX2_orderSign 29 = .ok (.aload 4, 2) := by decide +kernel
theorem dX2_orderSign_31 : decode cX2_orderSign 31 = .ok (.iload 6, 2) := by decide +kernel
theorem dX2_orderSign_33 : decode cX2_orderSign 33 = .ok (.iaload, 1) := by decide +kernel
theorem dX2_orderSign_34 : decode cX2_orderSign 34 = .ok (.ifCond .ne 6, 3) := by decide +kernel
theorem dX2_orderSign_37 : decode cX2_orderSign 37 = .ok (.goto 55, 3) := by decide +kernel
theorem dX2_orderSign_40 : decode cX2_orderSign 40 = .ok (.iconst 0, 1) := by decide +kernel
theorem dX2_orderSign_41 : decode cX2_orderSign 41 = .ok (.istore 7, 2) := by decide +kernel
theorem dX2_orderSign_43 : decode cX2_orderSign 43 = .ok (.iload 7, 2) := by decide +kernel
theorem dX2_orderSign_45 : decode cX2_orderSign 45 = .ok (.iload 6, 2) := by decide +kernel
theorem dX2_orderSign_47 : decode cX2_orderSign 47 = .ok (.if_icmp .ge 45, 3) := by decide +kernel
theorem dX2_orderSign_50 : decode cX2_orderSign 50 = .ok (.iload 7, 2) := by decide +kernel
theorem dX2_orderSign_52 : decode cX2_orderSign 52 = .ok (.iload_n 3, 1) := by decide +kernel
theorem dX2_orderSign_53 : decode cX2_orderSign 53 = .ok (.if_icmp .eq 33, 3) := by decide +kernel
theorem dX2_orderSign_56 : decode cX2_orderSign 56 = .ok (.aload 4, 2) := by decide +kernel
theorem dX2_orderSign_58 : decode cX2_orderSign 58 = .ok (.iload 7, 2) := by decide +kernel
theorem dX2_orderSign_60 : decode cX2_orderSign 60 = .ok (.iaload, 1) := by decide +kernel
theorem dX2_orderSign_61 : decode cX2_orderSign 61 = .ok (.ifCond .eq 25, 3) := by decide +kernel
theorem dX2_orderSign_64 : decode cX2_orderSign 64 = .ok (.aload_n 0, 1) := by decide +kernel
theorem dX2_orderSign_65 : decode cX2_orderSign 65 = .ok (.getfield 15, 3) := by decide +kernel
theorem dX2_orderSign_68 : decode cX2_orderSign 68 = .ok (.iload 7, 2) := by decide +kernel
theorem dX2_orderSign_70 : decode cX2_orderSign 70 = .ok (.iaload, 1) := by decide +kernel
theorem dX2_orderSign_71 : decode cX2_orderSign 71 = .ok (.aload_n 0, 1) := by decide +kernel
theorem dX2_orderSign_72 : decode cX2_orderSign 72 = .ok (.getfield 15, 3) := by decide +kernel
theorem dX2_orderSign_75 : decode cX2_orderSign 75 = .ok (.iload 6, 2) := by decide +kernel
theorem dX2_orderSign_77 : decode cX2_orderSign 77 = .ok (.iaload, 1) := by decide +kernel
theorem dX2_orderSign_78 : decode cX2_orderSign 78 = .ok (.if_icmp .le 8, 3) := by decide +kernel
theorem dX2_orderSign_81 : decode cX2_orderSign 81 = .ok (.iload 5, 2) := by decide +kernel
theorem dX2_orderSign_83 : decode cX2_orderSign 83 = .ok (.ineg, 1) := by decide +kernel
theorem dX2_orderSign_84 : decode cX2_orderSign 84 = .ok (.istore 5, 2) := by decide +kernel
theorem dX2_orderSign_86 : decode cX2_orderSign 86 = .ok (.iinc 7 1, 3) := by decide +kernel
theorem dX2_orderSign_89 : decode cX2_orderSign 89 = .ok (.goto (-46), 3) := by decide +kernel
theorem dX2_orderSign_92 : decode cX2_orderSign 92 = .ok (.iinc 6 1, 3) := by decide +kernel
theorem dX2_orderSign_95 : decode cX2_orderSign 95 = .ok (.goto (-81), 3) := by decide +kernel
theorem dX2_orderSign_98 : decode cX2_orderSign 98 = .ok (.iload 5, 2) := by decide +kernel
theorem dX2_orderSign_100 : decode cX2_orderSign 100 = .ok (.ireturn, 1) := by decide +kernel
theorem dX2_senseOfBond_0 : decode cX2_senseOfBond 0 = .ok (.aload_n 2, 1) := by decide +kernel
theorem dX2_senseOfBond_1 : decode cX2_senseOfBond 1 = .ok (.getfield 58, 3) := by decide +kernel
theorem dX2_senseOfBond_4 : decode cX2_senseOfBond 4 = .ok (.iload_n 3, 1) := by decide +kernel
theorem dX2_senseOfBond_5 : decode cX2_senseOfBond 5 = .ok (.iaload, 1) := by decide +kernel
theorem dX2_senseOfBond_6 : decode cX2_senseOfBond 6 = .ok (.istore 4, 2) := by decide +kernel
theorem dX2_senseOfBond_8 : decode cX2_senseOfBond 8 = .ok (.iload 4, 2) := by decide +kernel
theorem dX2_senseOfBond_10 : decode cX2_senseOfBond 10 = .ok (.ifCond .ne 5, 3) := by decide +kernel
theorem dX2_senseOfBond_13 : decode cX2_senseOfBond 13 = .ok (.iconst 0, 1) := by decide +kernel
theorem dX2_senseOfBond_14 : decode cX2_senseOfBond 14 = .ok (.ireturn, 1) := by decide +kernel
theorem dX2_senseOfBond_15 : decode cX2_senseOfBond 15 = .ok (.aload_n 1, 1) := by decide +kernel
theorem dX2_senseOfBond_16 : decode cX2_senseOfBond 16 = .ok (.getfield 61, 3) := by decide +kernel
theorem dX2_senseOfBond_19 : decode cX2_senseOfBond 19 = .ok (.iload_n 3, 1) := by decide +kernel
theorem dX2_senseOfBond_20 : decode cX2_senseOfBond 20 = .ok (.iaload, 1) := by decide +kernel
theorem dX2_senseOfBond_21 : decode cX2_senseOfBond 21 = .ok (.istore 5, 2) := by decide +kernel
theorem dX2_senseOfBond_23 : decode cX2_senseOfBond 23 = .ok (.aload_n 1, 1) := by decide +kernel
theorem dX2_senseOfBond_24 : decode cX2_senseOfBond 24 = .ok (.getfield 64, 3) := by decide +kernel
theorem dX2_senseOfBond_27 : decode cX2_senseOfBond 27 = .ok (.iload_n 3, 1) := by decide +kernel
theorem dX2_senseOfBond_28 : decode cX2_senseOfBond 28 = .ok (.iaload, 1) := by decide +kernel
theorem dX2_senseOfBond_29 : decode cX2_senseOfBond 29 = .ok (.istore 6, 2) := by decide +kernel
theorem dX2_senseOfBond_31 : decode cX2_senseOfBond 31 = .ok (.iload 4, 2) := by decide +kernel
theorem dX2_senseOfBond_33 : decode cX2_senseOfBond 33 = .ok (.aload_n 0, 1) := by decide +kernel
theorem dX2_senseOfBond_34 : decode cX2_senseOfBond 34 = .ok (.aload_n 1, 1) := by decide +kernel
theorem dX2_senseOfBond_35 : decode cX2_senseOfBond 35 = .ok (.iload 5, 2) := by decide +kernel
theorem dX2_senseOfBond_37 : decode cX2_senseOfBond 37 = .ok (.iload 6, 2) := by decide +kernel
theorem dX2_senseOfBond_39 : decode cX2_senseOfBond 39 = .ok (.invokevirtual 54, 3) := by decide +kernel
theorem dX2_senseOfBond_42 : decode cX2_senseOfBond 42 = .ok (.imul, 1) := by decide +kernel
theorem dX2_senseOfBond_43 : decode cX2_senseOfBond 43 = .ok (.aload_n 0, 1) := by decide +kernel
theorem dX2_senseOfBond_44 : decode cX2_senseOfBond 44 = .ok (.aload_n 1, 1) := by decide +kernel
theorem dX2_senseOfBond_45 : decode cX2_senseOfBond 45 = .ok (.iload 6, 2) := by decide +kernel
theorem dX2_senseOfBond_47 : decode cX2_senseOfBond 47 = .ok (.iload 5, 2) := by decide +kernel
theorem dX2_senseOfBond_49 : decode cX2_senseOfBond 49 = .ok (.invokevirtual 54, 3) := by decide +kernel
theorem dX2_senseOfBond_52 : decode cX2_senseOfBond 52 = .ok (.imul, 1) := by decide +kernel
theorem dX2_senseOfBond_53 : decode cX2_senseOfBond 53 = .ok (.ireturn, 1) := by decide +kernel
theorem dX2_copyFrom_0 : decode cX2_copyFrom 0 = .ok (.aload_n 1, 1) := by decide +kernel
theorem dX2_copyFrom_1 : decode cX2_copyFrom 1 = .ok (.getfield 9, 3) := by decide +kernel
theorem dX2_copyFrom_4 : decode cX2_copyFrom 4 = .ok (.iconst 0, 1) := by decide +kernel
theorem dX2_copyFrom_5 : decode cX2_copyFrom 5 = .ok (.aload_n 0, 1) := by decide +kernel
theorem dX2_copyFrom_6 : decode cX2_copyFrom 6 = .ok (.getfield 9, 3) := by decide +kernel
theorem dX2_copyFrom_9 : decode cX2_copyFrom 9 = .ok (.iconst 0, 1) := by decide +kernel
theorem dX2_copyFrom_10 : decode cX2_copyFrom 10 = .ok (.bipush 7, 2) := by decide +kernel
theorem dX2_copyFrom_12 : decode cX2_copyFrom 12 = .ok (.invokestatic 24, 3) := by decide +kernel
theorem dX2_copyFrom_15 : decode cX2_copyFrom 15 = .ok (.aload_n 1, 1) := by decide +kernel
theorem dX2_copyFrom_16 : decode cX2_copyFrom 16 = .ok (.getfield 15, 3) := by decide +kernel
theorem dX2_copyFrom_19 : decode cX2_copyFrom 19 = .ok (.iconst 0, 1) := by decide +kernel
theorem dX2_copyFrom_20 : decode cX2_copyFrom 20 = .ok (.aload_n 0, 1) := by decide +kernel
theorem dX2_copyFrom_21 : decode cX2_copyFrom 21 = .ok (.getfield 15, 3) := by decide +kernel
theorem dX2_copyFrom_24 : decode cX2_copyFrom 24 = .ok (.iconst 0, 1) := by decide +kernel
theorem dX2_copyFrom_25 : decode cX2_copyFrom 25 = .ok (.bipush 7, 2) := by decide +kernel
theorem dX2_copyFrom_27 : decode cX2_copyFrom 27 = .ok (.invokestatic 24, 3) := by decide +kernel
theorem dX2_copyFrom_30 : decode cX2_copyFrom 30 = .ok (.return_, 1) := by decide +kernel
theorem dX3_lowestRow_0 : decode cX3_lowestRow 0 = .ok (.ldc 28, 2) := by decide +kernel
theorem dX3_lowestRow_2 : decode cX3_lowestRow 2 = .ok (.istore_n 3, 1) := by decide +kernel
theorem dX3_lowestRow_3 : decode cX3_lowestRow 3 = .ok (.iconst 0, 1) := by decide +kernel
theorem dX3_lowestRow_4 : decode cX3_lowestRow 4 = .ok (.istore 4, 2) := by decide +kernel
theorem dX3_lowestRow_6 : decode cX3_lowestRow 6 = .ok (.iload 4, 2) := by decide +kernel
theorem dX3_lowestRow_8 : decode cX3_lowestRow 8 = .ok (.aload_n 1, 1) := by decide +kernel
theorem dX3_lowestRow_9 : decode cX3_lowestRow 9 = .ok (.getfield 39, 3) := by decide +kernel
theorem dX3_lowestRow_12 : decode cX3_lowestRow 12 = .ok (.if_icmp .ge 36, 3) := by decide +kernel
theorem dX3_lowestRow_15 : decode cX3_lowestRow 15 = .ok (.aload_n 0, 1) := by decide +kernel
theorem dX3_lowestRow_16 : decode cX3_lowestRow 16 = .ok (.getfield 22, 3) := by decide +kernel
theorem dX3_lowestRow_19 : decode cX3_lowestRow 19 = .ok (.getfield 71, 3) := by decide +kernel
theorem dX3_lowestRow_22 : decode cX3_lowestRow 22 = .ok (.iload 4, 2) := by decide +kernel
theorem dX3_lowestRow_24 : decode cX3_lowestRow 24 = .ok (.iaload, 1) := by decide +kernel
theorem dX3_lowestRow_25 : decode cX3_lowestRow 25 = .ok (.iconst (-1), 1) := by decide +kernel
theorem dX3_lowestRow_26 : decode cX3_lowestRow 26 = .ok (.if_icmp .ne 16, 3) := by decide +kernel
theorem dX3_lowestRow_29 : decode cX3_lowestRow 29 = .ok (.iload_n 3, 1) := by decide +kernel
theorem dX3_lowestRow_30 : decode cX3_lowestRow 30 = .ok (.aload_n 0, 1) := by decide +kernel
theorem dX3_lowestRow_31 : decode cX3_lowestRow 31 = .ok (.aload_n 1, 1) := by decide +kernel
theorem dX3_lowestRow_32 : decode cX3_lowestRow 32 = .ok (.iload 4, 2) := by decide +kernel
theorem dX3_lowestRow_34 : decode cX3_lowestRow 34 = .ok (.iload_n 2, 1) := by decide +kernel
theorem dX3_lowestRow_35 : decode cX3_lowestRow 35 = .ok (.invokevirtual 74, 3) := by decide +kernel
theorem dX3_lowestRow_38 : decode cX3_lowestRow 38 = .ok (.invokestatic 96, 3) := by decide +kernel
theorem dX3_lowestRow_41 : decode cX3_lowestRow 41 = .ok (.istore_n 3, 1) := by decide +kernel
theorem dX3_lowestRow_42 : decode cX3_lowestRow 42 = .ok (.iinc 4 1, 3) := by decide +kernel
theorem dX3_lowestRow_45 : decode cX3_lowestRow 45 = .ok (.goto (-39), 3) := by decide +kernel
theorem dX3_lowestRow_48 : decode cX3_lowestRow 48 = .ok (.iload_n 3, 1) := by decide +kernel
theorem dX3_lowestRow_49 : decode cX3_lowestRow 49 = .ok (.ireturn, 1) := by decide +kernel
theorem dX3_rowOf_0 : decode cX3_rowOf 0 = .ok (.aload_n 0, 1) := by decide +kernel
theorem dX3_rowOf_1 : decode cX3_rowOf 1 = .ok (.getfield 25, 3) := by decide +kernel
theorem dX3_rowOf_4 : decode cX3_rowOf 4 = .ok (.iload_n 2, 1) := by decide +kernel
theorem dX3_rowOf_5 : decode cX3_rowOf 5 = .ok (.iaload, 1) := by decide +kernel
theorem dX3_rowOf_6 : decode cX3_rowOf 6 = .ok (.istore 4, 2) := by decide +kernel
theorem dX3_rowOf_8 : decode cX3_rowOf 8 = .ok (.iconst 0, 1) := by decide +kernel
theorem dX3_rowOf_9 : decode cX3_rowOf 9 = .ok (.istore 5, 2) := by decide +kernel
theorem dX3_rowOf_11 : decode cX3_rowOf 11 = .ok (.iload 5, 2) := by decide +kernel
theorem dX3_rowOf_13 : decode cX3_rowOf 13 = .ok (.iload_n 3, 1) := by decide +kernel
theorem dX3_rowOf_14 : decode cX3_rowOf 14 = .ok (.if_icmp .ge 34, 3) := by decide +kernel
theorem dX3_rowOf_17 : decode cX3_rowOf 17 = .ok (.iload 4, 2) := by decide +kernel
theorem dX3_rowOf_19 : decode cX3_rowOf 19 = .ok (.aload_n 1, 1) := by decide +kernel
theorem dX3_rowOf_20 : decode cX3_rowOf 20 = .ok (.iload_n 2, 1) := by decide +kernel
theorem dX3_rowOf_21 : decode cX3_rowOf 21 = .ok (.aload_n 0, 1) := by decide +kernel
theorem dX3_rowOf_22 : decode cX3_rowOf 22 = .ok (.getfield 22, 3) := by decide +kernel
theorem dX3_rowOf_25 : decode cX3_rowOf 25 = .ok (.getfield 102, 3) := by decide +kernel
theorem dX3_rowOf_28 : decode cX3_rowOf 28 = .ok (.iload 5, 2) := by decide +kernel
theorem dX3_rowOf_30 : decode cX3_rowOf 30 = .ok (.iaload, 1) := by decide +kernel
theorem dX3_rowOf_31 : decode cX3_rowOf 31 = .ok (.invokevirtual 105, 3) := by decide +kernel
theorem dX3_rowOf_34 : decode cX3_rowOf 34 = .ok (.iconst 2, 1) := by decide +kernel
theorem dX3_rowOf_35 : decode cX3_rowOf 35 = .ok (.iload 5, 2) := by decide +kernel
theorem dX3_rowOf_37 : decode cX3_rowOf 37 = .ok (.imul, 1) := by decide +kernel
theorem dX3_rowOf_38 : decode cX3_rowOf 38 = .ok (.ishl, 1) := by decide +kernel
theorem dX3_rowOf_39 : decode cX3_rowOf 39 = .ok (.iadd, 1) := by decide +kernel
theorem dX3_rowOf_40 : decode cX3_rowOf 40 = .ok (.istore 4, 2) := by decide +kernel
theorem dX3_rowOf_42 : decode cX3_rowOf 42 = .ok (.iinc 5 1, 3) := by decide +kernel
theorem dX3_rowOf_45 : decode cX3_rowOf 45 = .ok (.goto (-34), 3) := by decide +kernel
theorem dX3_rowOf_48 : decode cX3_rowOf 48 = .ok (.iload 4, 2) := by decide +kernel
theorem dX3_rowOf_50 : decode cX3_rowOf 50 = .ok (.ireturn, 1) := by decide +kernel
theorem dX3_lower_0 : decode cX3_lower 0 = .ok (.aload_n 0, 1) := by decide +kernel
theorem dX3_lower_1 : decode cX3_lower 1 = .ok (.getfield 9, 3) := by decide +kernel
theorem dX3_lower_4 : decode cX3_lower 4 = .ok (.iload_n 1, 1) := by decide +kernel
theorem dX3_lower_5 : decode cX3_lower 5 = .ok (.iload_n 2, 1) := by decide +kernel
theorem dX3_lower_6 : decode cX3_lower 6 = .ok (.iastore, 1) := by decide +kernel
theorem dX3_lower_7 : decode cX3_lower 7 = .ok (.iload_n 1, 1) := by decide +kernel
theorem dX3_lower_8 : decode cX3_lower 8 = .ok (.iconst 1, 1) := by decide +kernel
theorem dX3_lower_9 : decode cX3_lower 9 = .ok (.iadd, 1) := by decide +kernel
theorem dX3_lower_10 : decode cX3_lower 10 = .ok (.istore_n 3, 1) := by decide +kernel
theorem dX3_lower_11 : decode cX3_lower 11 = .ok (.iload_n 3, 1) := by decide +kernel
theorem dX3_lower_12 : decode cX3_lower 12 = .ok (.bipush 7, 2) := by decide +kernel
theorem dX3_lower_14 : decode cX3_lower 14 = .ok (.if_icmp .ge 17, 3) := by decide +kernel
theorem dX3_lower_17 : decode cX3_lower 17 = .ok (.aload_n 0, 1) := by decide +kernel
theorem dX3_lower_18 : decode cX3_lower 18 = .ok (.getfield 9, 3) := by decide +kernel
theorem dX3_lower_21 : decode cX3_lower 21 = .ok (.iload_n 3, 1) := by decide +kernel
theorem dX3_lower_22 : decode cX3_lower 22 = .ok (.ldc 28, 2) := by decide +kernel
theorem dX3_lower_24 : decode cX3_lower 24 = .ok (.iastore, 1) := by decide +kernel
theorem dX3_lower_25 : decode cX3_lower 25 = .ok (.iinc 3 1, 3) := by decide +kernel
theorem dX3_lower_28 : decode cX3_lower 28 = .ok (.goto (-17), 3) := by decide +kernel
theorem dX3_lower_31 : decode cX3_lower 31 = .ok (.aload_n 0, 1) := by decide +kernel
theorem dX3_lower_32 : decode cX3_lower 32 = .ok (.ldc 28, 2) := by decide +kernel
theorem dX3_lower_34 : decode cX3_lower 34 = .ok (.putfield 29, 3) := by decide +kernel
theorem dX3_lower_37 : decode cX3_lower 37 = .ok (.return_, 1) := by decide +kernel
theorem dX2_give_0 : decode cX2_give 0 = .ok (.aload_n 0, 1) := by decide +kernel
theorem dX2_give_1 : decode cX2_give 1 = .ok (.getfield 9, 3) := by decide +kernel
theorem dX2_give_4 : decode cX2_give 4 = .ok (.iload_n 2, 1) := by decide +kernel
theorem dX2_give_5 : decode cX2_give 5 = .ok (.iload_n 1, 1) := by decide +kernel
theorem dX2_give_6 : decode cX2_give 6 = .ok (.iastore, 1) := by decide +kernel
theorem dX2_give_7 : decode cX2_give 7 = .ok (.aload_n 0, 1) := by decide +kernel
theorem dX2_give_8 : decode cX2_give 8 = .ok (.getfield 15, 3) := by decide +kernel
theorem dX2_give_11 : decode cX2_give 11 = .ok (.iload_n 1, 1) := by decide +kernel
theorem dX2_give_12 : decode cX2_give 12 = .ok (.iload_n 2, 1) := by decide +kernel
theorem dX2_give_13 : decode cX2_give 13 = .ok (.iastore, 1) := by decide +kernel
theorem dX2_give_14 : decode cX2_give 14 = .ok (.return_, 1) := by decide +kernel
theorem dX2_takeBack_0 : decode cX2_takeBack 0 = .ok (.aload_n 0, 1) := by decide +kernel
theorem dX2_takeBack_1 : decode cX2_takeBack 1 = .ok (.getfield 9, 3) := by decide +kernel
theorem dX2_takeBack_4 : decode cX2_takeBack 4 = .ok (.iload_n 2, 1) := by decide +kernel
theorem dX2_takeBack_5 : decode cX2_takeBack 5 = .ok (.iconst (-1), 1) := by decide +kernel
theorem dX2_takeBack_6 : decode cX2_takeBack 6 = .ok (.iastore, 1) := by decide +kernel
theorem dX2_takeBack_7 : decode cX2_takeBack 7 = .ok (.aload_n 0, 1) := by decide +kernel
theorem dX2_takeBack_8 : decode cX2_takeBack 8 = .ok (.getfield 15, 3) := by decide +kernel
theorem dX2_takeBack_11 : decode cX2_takeBack 11 = .ok (.iload_n 1, 1) := by decide +kernel
theorem dX2_takeBack_12 : decode cX2_takeBack 12 = .ok (.iconst (-1), 1) := by decide +kernel
theorem dX2_takeBack_13 : decode cX2_takeBack 13 = .ok (.iastore, 1) := by decide +kernel
theorem dX2_takeBack_14 : decode cX2_takeBack 14 = .ok (.return_, 1) := by decide +kernel
theorem dX0_isAlone_0 : decode cX0_isAlone 0 = .ok (.aload_n 0, 1) := by decide +kernel
theorem dX0_isAlone_1 : decode cX0_isAlone 1 = .ok (.iload_n 1, 1) := by decide +kernel
theorem dX0_isAlone_2 : decode cX0_isAlone 2 = .ok (.invokevirtual 58, 3) := by decide +kernel
theorem dX0_isAlone_5 : decode cX0_isAlone 5 = .ok (.getstatic 51, 3) := by decide +kernel
theorem dX0_isAlone_8 : decode cX0_isAlone 8 = .ok (.aload_n 0, 1) := by decide +kernel
theorem dX0_isAlone_9 : decode cX0_isAlone 9 = .ok (.getfield 9, 3) := by decide +kernel
theorem dX0_isAlone_12 : decode cX0_isAlone 12 = .ok (.iload_n 1, 1) := by decide +kernel
theorem dX0_isAlone_13 : decode cX0_isAlone 13 = .ok (.iaload, 1) := by decide +kernel
theorem dX0_isAlone_14 : decode cX0_isAlone 14 = .ok (.iaload, 1) := by decide +kernel
theorem dX0_isAlone_15 : decode cX0_isAlone 15 = .ok (.if_icmp .ne 7, 3) := by decide +kernel
theorem dX0_isAlone_18 : decode cX0_isAlone 18 = .ok (.iconst 1, 1) := by decide +kernel
theorem dX0_isAlone_19 : decode cX0_isAlone 19 = .ok (.goto 4, 3) := by decide +kernel
theorem dX0_isAlone_22 : decode cX0_isAlone 22 = .ok (.iconst 0, 1) := by decide +kernel
theorem dX0_isAlone_23 : decode cX0_isAlone 23 = .ok (.ireturn, 1) := by decide +kernel
theorem dX1_take_0 : decode cX1_take 0 = .ok (.aload_n 1, 1) := by decide +kernel
theorem dX1_take_1 : decode cX1_take 1 = .ok (.iconst 0, 1) := by decide +kernel
theorem dX1_take_2 : decode cX1_take 2 = .ok (.aload_n 0, 1) := by decide +kernel
theorem dX1_take_3 : decode cX1_take 3 = .ok (.getfield 15, 3) := by decide +kernel
theorem dX1_take_6 : decode cX1_take 6 = .ok (.iconst 0, 1) := by decide +kernel
theorem dX1_take_7 : decode cX1_take 7 = .ok (.bipush 7, 2) := by decide +kernel
theorem dX1_take_9 : decode cX1_take 9 = .ok (.invokestatic 22, 3) := by decide +kernel
theorem dX1_take_12 : decode cX1_take 12 = .ok (.aload_n 0, 1) := by decide +kernel
theorem dX1_take_13 : decode cX1_take 13 = .ok (.iload_n 2, 1) := by decide +kernel
theorem dX1_take_14 : decode cX1_take 14 = .ok (.putfield 9, 3) := by decide +kernel
theorem dX1_take_17 : decode cX1_take 17 = .ok (.aload_n 0, 1) := by decide +kernel
theorem dX1_take_18 : decode cX1_take 18 = .ok (.iload_n 3, 1) := by decide +kernel
theorem dX1_take_19 : decode cX1_take 19 = .ok (.putfield 19, 3) := by decide +kernel
theorem dX1_take_22 : decode cX1_take 22 = .ok (.return_, 1) := by decide +kernel
theorem dX4_copyFrom_0 : decode cX4_copyFrom 0 = .ok (.aload_n 1, 1) := by decide +kernel
theorem dX4_copyFrom_1 : decode cX4_copyFrom 1 = .ok (.getfield 9, 3) := by decide +kernel
theorem dX4_copyFrom_4 : decode cX4_copyFrom 4 = .ok (.iconst 0, 1) := by decide +kernel
theorem dX4_copyFrom_5 : decode cX4_copyFrom 5 = .ok (.aload_n 0, 1) := by decide +kernel
theorem dX4_copyFrom_6 : decode cX4_copyFrom 6 = .ok (.getfield 9, 3) := by decide +kernel
theorem dX4_copyFrom_9 : decode cX4_copyFrom 9 = .ok (.iconst 0, 1) := by decide +kernel
theorem dX4_copyFrom_10 : decode cX4_copyFrom 10 = .ok (.bipush 7, 2) := by decide +kernel
theorem dX4_copyFrom_12 : decode cX4_copyFrom 12 = .ok (.invokestatic 45, 3) := by decide +kernel
theorem dX4_copyFrom_15 : decode cX4_copyFrom 15 = .ok (.aload_n 1, 1) := by decide +kernel
theorem dX4_copyFrom_16 : decode cX4_copyFrom 16 = .ok (.getfield 15, 3) := by decide +kernel
theorem dX4_copyFrom_19 : decode cX4_copyFrom 19 = .ok (.iconst 0, 1) := by decide +kernel
theorem dX4_copyFrom_20 : decode cX4_copyFrom 20 = .ok (.aload_n 0, 1) := by decide +kernel
theorem dX4_copyFrom_21 : decode cX4_copyFrom 21 = .ok (.getfield 15, 3) := by decide +kernel
theorem dX4_copyFrom_24 : decode cX4_copyFrom 24 = .ok (.iconst 0, 1) := by decide +kernel
theorem dX4_copyFrom_25 : decode cX4_copyFrom 25 = .ok (.bipush 9, 2) := by decide +kernel
theorem dX4_copyFrom_27 : decode cX4_copyFrom 27 = .ok (.invokestatic 45, 3) := by decide +kernel
theorem dX4_copyFrom_30 : decode cX4_copyFrom 30 = .ok (.aload_n 1, 1) := by decide +kernel
theorem dX4_copyFrom_31 : decode cX4_copyFrom 31 = .ok (.getfield 18, 3) := by decide +kernel
theorem dX4_copyFrom_34 : decode cX4_copyFrom 34 = .ok (.iconst 0, 1) := by decide +kernel
theorem dX4_copyFrom_35 : decode cX4_copyFrom 35 = .ok (.aload_n 0, 1) := by decide +kernel
theorem dX4_copyFrom_36 : decode cX4_copyFrom 36 = .ok (.getfield 18, 3) := by decide +kernel
theorem dX4_copyFrom_39 : decode cX4_copyFrom 39 = .ok (.iconst 0, 1) := by decide +kernel
theorem dX4_copyFrom_40 : decode cX4_copyFrom 40 = .ok (.bipush 9, 2) := by decide +kernel
theorem dX4_copyFrom_42 : decode cX4_copyFrom 42 = .ok (.invokestatic 45, 3) := by decide +kernel
theorem dX4_copyFrom_45 : decode cX4_copyFrom 45 = .ok (.return_, 1) := by decide +kernel
theorem dX4_mirror_0 : decode cX4_mirror 0 = .ok (.iconst 0, 1) := by decide +kernel
theorem dX4_mirror_1 : decode cX4_mirror 1 = .ok (.istore_n 1, 1) := by decide +kernel
theorem dX4_mirror_2 : decode cX4_mirror 2 = .ok (.iload_n 1, 1) := by decide +kernel
theorem dX4_mirror_3 : decode cX4_mirror 3 = .ok (.bipush 7, 2) := by decide +kernel
theorem dX4_mirror_5 : decode cX4_mirror 5 = .ok (.if_icmp .ge 22, 3) := by decide +kernel
theorem dX4_mirror_8 : decode cX4_mirror 8 = .ok (.aload_n 0, 1) := by decide +kernel
theorem dX4_mirror_9 : decode cX4_mirror 9 = .ok (.getfield 9, 3) := by decide +kernel
theorem dX4_mirror_12 : decode cX4_mirror 12 = .ok (.iload_n 1, 1) := by decide +kernel
theorem dX4_mirror_13 : decode cX4_mirror 13 = .ok (.aload_n 0, 1) := by decide +kernel
theorem dX4_mirror_14 : decode cX4_mirror 14 = .ok (.getfield 9, 3) := by decide +kernel
theorem dX4_mirror_17 : decode cX4_mirror 17 = .ok (.iload_n 1, 1) := by decide +kernel
theorem dX4_mirror_18 : decode cX4_mirror 18 = .ok (.iaload, 1) := by decide +kernel
theorem dX4_mirror_19 : decode cX4_mirror 19 = .ok (.ineg, 1) := by decide +kernel
theorem dX4_mirror_20 : decode cX4_mirror 20 = .ok (.iastore, 1) := by decide +kernel
theorem dX4_mirror_21 : decode cX4_mirror 21 = .ok (.iinc 1 1, 3) := by decide +kernel
theorem dX4_mirror_24 : decode cX4_mirror 24 = .ok (.goto (-22), 3) := by decide +kernel
theorem dX4_mirror_27 : decode cX4_mirror 27 = .ok (.return_, 1) := by decide +kernel
theorem dX6_senses_0 : decode cX6_senses 0 = .ok (.aload_n 0, 1) := by decide +kernel
theorem dX6_senses_1 : decode cX6_senses 1 = .ok (.invokevirtual 142, 3) := by decide +kernel
theorem dX6_senses_4 : decode cX6_senses 4 = .ok (.aload_n 0, 1) := by decide +kernel
theorem dX6_senses_5 : decode cX6_senses 5 = .ok (.getfield 38, 3) := by decide +kernel
theorem dX6_senses_8 : decode cX6_senses 8 = .ok (.getfield 148, 3) := by decide +kernel
theorem dX6_senses_11 : decode cX6_senses 11 = .ok (.ireturn, 1) := by decide +kernel
theorem dX6_chiral_0 : decode cX6_chiral 0 = .ok (.aload_n 0, 1) := by decide +kernel
theorem dX6_chiral_1 : decode cX6_chiral 1 = .ok (.invokevirtual 142, 3) := by decide +kernel
theorem dX6_chiral_4 : decode cX6_chiral 4 = .ok (.aload_n 0, 1) := by decide +kernel
theorem dX6_chiral_5 : decode cX6_chiral 5 = .ok (.getfield 63, 3) := by decide +kernel
theorem dX6_chiral_8 : decode cX6_chiral 8 = .ok (.aload_n 0, 1) := by decide +kernel
theorem dX6_chiral_9 : decode cX6_chiral 9 = .ok (.getfield 38, 3) := by decide +kernel
theorem dX6_chiral_12 : decode cX6_chiral 12 = .ok (.getfield 148, 3) := by decide +kernel
theorem dX6_chiral_15 : decode cX6_chiral 15 = .ok (.if_icmp .eq 7, 3) := by decide +kernel
theorem dX6_chiral_18 : decode cX6_chiral 18 = .ok (.iconst 1, 1) := by decide +kernel
theorem dX6_chiral_19 : decode cX6_chiral 19 = .ok (.goto 4, 3) := by decide +kernel
theorem dX6_chiral_22 : decode cX6_chiral 22 = .ok (.iconst 0, 1) := by decide +kernel
theorem dX6_chiral_23 : decode cX6_chiral 23 = .ok (.ireturn, 1) := by decide +kernel
theorem dX6_isomers_0 : decode cX6_isomers 0 = .ok (.aload_n 0, 1) := by decide +kernel
theorem dX6_isomers_1 : decode cX6_isomers 1 = .ok (.invokevirtual 142, 3) := by decide +kernel
theorem dX6_isomers_4 : decode cX6_isomers 4 = .ok (.aload_n 0, 1) := by decide +kernel
theorem dX6_isomers_5 : decode cX6_isomers 5 = .ok (.getfield 21, 3) := by decide +kernel
theorem dX6_isomers_8 : decode cX6_isomers 8 = .ok (.aload_n 0, 1) := by decide +kernel
theorem dX6_isomers_9 : decode cX6_isomers 9 = .ok (.getfield 14, 3) := by decide +kernel
theorem dX6_isomers_12 : decode cX6_isomers 12 = .ok (.invokevirtual 151, 3) := by decide +kernel
theorem dX6_isomers_15 : decode cX6_isomers 15 = .ok (.istore_n 1, 1) := by decide +kernel
theorem dX6_isomers_16 : decode cX6_isomers 16 = .ok (.iload_n 1, 1) := by decide +kernel
theorem dX6_isomers_17 : decode cX6_isomers 17 = .ok (.iconst 4, 1) := by decide +kernel
theorem dX6_isomers_18 : decode cX6_isomers 18 = .ok (.if_icmp .le 5, 3) := by decide +kernel
theorem dX6_isomers_21 : decode cX6_isomers 21 = .ok (.iconst (-1), 1) := by decide +kernel
theorem dX6_isomers_22 : decode cX6_isomers 22 = .ok (.ireturn, 1) := by decide +kernel
theorem dX6_isomers_23 : decode cX6_isomers 23 = .ok (.iconst 0, 1) := by decide +kernel
theorem dX6_isomers_24 : decode cX6_isomers 24 = .ok (.istore_n 2, 1) := by decide +kernel
theorem dX6_isomers_25 : decode cX6_isomers 25 = .ok (.iconst 0, 1) := by decide +kernel
theorem dX6_isomers_26 : decode cX6_isomers 26 = .ok (.istore_n 3, 1) := by decide +kernel
theorem dX6_isomers_27 : decode cX6_isomers 27 = .ok (.iload_n 3, 1) := by decide +kernel
theorem dX6_isomers_28 : decode cX6_isomers 28 = .ok (.iconst 1, 1) := by decide +kernel
theorem dX6_isomers_29 : decode cX6_isomers 29 = .ok (.iload_n 1, 1) := by decide +kernel
theorem dX6_isomers_30 : decode cX6_isomers 30 = .ok (.ishl, 1) := by decide +kernel
theorem dX6_isomers_31 : decode cX6_isomers 31 = .ok (.if_icmp .ge 70, 3) := by decide +kernel
theorem dX6_isomers_34 : decode cX6_isomers 34 = .ok (.aload_n 0, 1) := by decide +kernel
theorem dX6_isomers_35 : decode cX6_isomers 35 = .ok (.getfield 25, 3) := by decide +kernel
theorem dX6_isomers_38 : decode cX6_isomers 38 = .ok (.aload_n 0, 1) := by decide +kernel
theorem dX6_isomers_39 : decode cX6_isomers 39 = .ok (.getfield 21, 3) := by decide +kernel
theorem dX6_isomers_42 : decode cX6_isomers 42 = .ok (.invokevirtual 155, 3) := by decide +kernel
theorem dX6_isomers_45 : decode cX6_isomers 45 = .ok (.aload_n 0, 1) := by decide +kernel
theorem dX6_isomers_46 : decode cX6_isomers 46 = .ok (.getfield 25, 3) := by decide +kernel
theorem dX6_isomers_49 : decode cX6_isomers 49 = .ok (.aload_n 0, 1) := by decide +kernel
theorem dX6_isomers_50 : decode cX6_isomers 50 = .ok (.getfield 14, 3) := by decide +kernel
theorem dX6_isomers_53 : decode cX6_isomers 53 = .ok (.iload_n 3, 1) := by decide +kernel
theorem dX6_isomers_54 : decode cX6_isomers 54 = .ok (.invokevirtual 159, 3) := by decide +kernel
theorem dX6_isomers_57 : decode cX6_isomers 57 = .ok (.aload_n 0, 1) := by decide +kernel
theorem dX6_isomers_58 : decode cX6_isomers 58 = .ok (.getfield 31, 3) := by decide +kernel
theorem dX6_isomers_61 : decode cX6_isomers 61 = .ok (.aload_n 0, 1) := by decide +kernel
theorem dX6_isomers_62 : decode cX6_isomers 62 = .ok (.getfield 14, 3) := by decide +kernel
theorem dX6_isomers_65 : decode cX6_isomers 65 = .ok (.aload_n 0, 1) := by decide +kernel
theorem dX6_isomers_66 : decode cX6_isomers 66 = .ok (.getfield 25, 3) := by decide +kernel
theorem dX6_isomers_69 : decode cX6_isomers 69 = .ok (.invokevirtual 163, 3) := by decide +kernel
theorem dX6_isomers_72 : decode cX6_isomers 72 = .ok (.istore 4, 2) := by decide +kernel
theorem dX6_isomers_74 : decode cX6_isomers 74 = .ok (.aload_n 0, 1) := by decide +kernel
theorem dX6_isomers_75 : decode cX6_isomers 75 = .ok (.iload 4, 2) := by decide +kernel
theorem dX6_isomers_77 : decode cX6_isomers 77 = .ok (.iload_n 2, 1) := by decide +kernel
theorem dX6_isomers_78 : decode cX6_isomers 78 = .ok (.invokevirtual 167, 3) := by decide +kernel
theorem dX6_isomers_81 : decode cX6_isomers 81 = .ok (.ifCond .ne 14, 3) := by decide +kernel
theorem dX6_isomers_84 : decode cX6_isomers 84 = .ok (.aload_n 0, 1) := by decide +kernel
theorem dX6_isomers_85 : decode cX6_isomers 85 = .ok (.getfield 59, 3) := by decide +kernel
theorem dX6_isomers_88 : decode cX6_isomers 88 = .ok (.iload_n 2, 1) := by decide +kernel
theorem dX6_isomers_89 : decode cX6_isomers 89 = .ok (.iload 4, 2) := by decide +kernel
theorem dX6_isomers_91 : decode cX6_isomers 91 = .ok (.iastore, 1) := by decide +kernel
theorem dX6_isomers_92 : decode cX6_isomers 92 = .ok (.iinc 2 1, 3) := by decide +kernel
theorem dX6_isomers_95 : decode cX6_isomers 95 = .ok (.iinc 3 1, 3) := by decide +kernel
theorem dX6_isomers_98 : decode cX6_isomers 98 = .ok (.goto (-71), 3) := by decide +kernel
theorem dX6_isomers_101 : decode cX6_isomers 101 = .ok (.iload_n 2, 1) := by decide +kernel
theorem dX6_isomers_102 : decode cX6_isomers 102 = .ok (.ireturn, 1) := by decide +kernel
theorem dX4_countDrawn_0 : decode cX4_countDrawn 0 = .ok (.iconst 0, 1) := by decide +kernel
theorem dX4_countDrawn_1 : decode cX4_countDrawn 1 = .ok (.istore_n 2, 1) := by decide +kernel
theorem dX4_countDrawn_2 : decode cX4_countDrawn 2 = .ok (.iconst 0, 1) := by decide +kernel
theorem dX4_countDrawn_3 : decode cX4_countDrawn 3 = .ok (.istore_n 3, 1) := by decide +kernel
theorem dX4_countDrawn_4 : decode cX4_countDrawn 4 = .ok (.iload_n 3, 1) := by decide +kernel
theorem dX4_countDrawn_5 : decode cX4_countDrawn 5 = .ok (.aload_n 1, 1) := by decide +kernel
theorem dX4_countDrawn_6 : decode cX4_countDrawn 6 = .ok (.getfield 25, 3) := by decide +kernel
theorem dX4_countDrawn_9 : decode cX4_countDrawn 9 = .ok (.if_icmp .ge 26, 3) := by decide +kernel
theorem dX4_countDrawn_12 : decode cX4_countDrawn 12 = .ok (.iload_n 2, 1) := by decide +kernel
theorem dX4_countDrawn_13 : decode cX4_countDrawn 13 = .ok (.aload_n 0, 1) := by decide +kernel
theorem dX4_countDrawn_14 : decode cX4_countDrawn 14 = .ok (.getfield 9, 3) := by decide +kernel
theorem dX4_countDrawn_17 : decode cX4_countDrawn 17 = .ok (.iload_n 3, 1) := by decide +kernel
theorem dX4_countDrawn_18 : decode cX4_countDrawn 18 = .ok (.iaload, 1) := by decide +kernel
theorem dX4_countDrawn_19 : decode cX4_countDrawn 19 = .ok (.ifCond .eq 7, 3) := by decide +kernel
theorem dX4_countDrawn_22 : decode cX4_countDrawn 22 = .ok (.iconst 1, 1) := by decide +kernel
theorem dX4_countDrawn_23 : decode cX4_countDrawn 23 = .ok (.goto 4, 3) := by decide +kernel
theorem dX4_countDrawn_26 : decode cX4_countDrawn 26 = .ok (.iconst 0, 1) := by decide +kernel
theorem dX4_countDrawn_27 : decode cX4_countDrawn 27 = .ok (.iadd, 1) := by decide +kernel
theorem dX4_countDrawn_28 : decode cX4_countDrawn 28 = .ok (.istore_n 2, 1) := by decide +kernel
theorem dX4_countDrawn_29 : decode cX4_countDrawn 29 = .ok (.iinc 3 1, 3) := by decide +kernel
theorem dX4_countDrawn_32 : decode cX4_countDrawn 32 = .ok (.goto (-28), 3) := by decide +kernel
theorem dX4_countDrawn_35 : decode cX4_countDrawn 35 = .ok (.iconst 0, 1) := by decide +kernel
theorem dX4_countDrawn_36 : decode cX4_countDrawn 36 = .ok (.istore_n 3, 1) := by decide +kernel
theorem dX4_countDrawn_37 : decode cX4_countDrawn 37 = .ok (.iload_n 3, 1) := by decide +kernel
theorem dX4_countDrawn_38 : decode cX4_countDrawn 38 = .ok (.aload_n 1, 1) := by decide +kernel
theorem dX4_countDrawn_39 : decode cX4_countDrawn 39 = .ok (.getfield 35, 3) := by decide +kernel
theorem dX4_countDrawn_42 : decode cX4_countDrawn 42 = .ok (.if_icmp .ge 26, 3) := by decide +kernel
theorem dX4_countDrawn_45 : decode cX4_countDrawn 45 = .ok (.iload_n 2, 1) := by decide +kernel
theorem dX4_countDrawn_46 : decode cX4_countDrawn 46 = .ok (.aload_n 0, 1) := by decide +kernel
theorem dX4_countDrawn_47 : decode cX4_countDrawn 47 = .ok (.getfield 15, 3) := by decide +kernel
theorem dX4_countDrawn_50 : decode cX4_countDrawn 50 = .ok (.iload_n 3, 1) := by decide +kernel
theorem dX4_countDrawn_51 : decode cX4_countDrawn 51 = .ok (.iaload, 1) := by decide +kernel
theorem dX4_countDrawn_52 : decode cX4_countDrawn 52 = .ok (.ifCond .eq 7, 3) := by decide +kernel
theorem dX4_countDrawn_55 : decode cX4_countDrawn 55 = .ok (.iconst 1, 1) := by decide +kernel
theorem dX4_countDrawn_56 : decode cX4_countDrawn 56 = .ok (.goto 4, 3) := by decide +kernel
theorem dX4_countDrawn_59 : decode cX4_countDrawn 59 = .ok (.iconst 0, 1) := by decide +kernel
theorem dX4_countDrawn_60 : decode cX4_countDrawn 60 = .ok (.iadd, 1) := by decide +kernel
theorem dX4_countDrawn_61 : decode cX4_countDrawn 61 = .ok (.istore_n 2, 1) := by decide +kernel
theorem dX4_countDrawn_62 : decode cX4_countDrawn 62 = .ok (.iinc 3 1, 3) := by decide +kernel
theorem dX4_countDrawn_65 : decode cX4_countDrawn 65 = .ok (.goto (-28), 3) := by decide +kernel
theorem dX4_countDrawn_68 : decode cX4_countDrawn 68 = .ok (.iload_n 2, 1) := by decide +kernel
theorem dX4_countDrawn_69 : decode cX4_countDrawn 69 = .ok (.ireturn, 1) := by decide +kernel
theorem dX4_turnSome_0 : decode cX4_turnSome 0 = .ok (.iload_n 2, 1) := by decide +kernel
theorem dX4_turnSome_1 : decode cX4_turnSome 1 = .ok (.istore_n 3, 1) := by decide +kernel
theorem dX4_turnSome_2 : decode cX4_turnSome 2 = .ok (.iconst 0, 1) := by decide +kernel
theorem dX4_turnSome_3 : decode cX4_turnSome 3 = .ok (.istore 4, 2) := by decide +kernel
theorem dX4_turnSome_5 : decode cX4_turnSome 5 = .ok (.iload 4, 2) := by decide +kernel
theorem dX4_turnSome_7 : decode cX4_turnSome 7 = .ok (.aload_n 1, 1) := by decide +kernel
theorem dX4_turnSome_8 : decode cX4_turnSome 8 = .ok (.getfield 25, 3) := by decide +kernel
theorem dX4_turnSome_11 : decode cX4_turnSome 11 = .ok (.if_icmp .ge 54, 3) := by decide +kernel
theorem dX4_turnSome_14 : decode cX4_turnSome 14 = .ok (.aload_n 0, 1) := by decide +kernel
theorem dX4_turnSome_15 : decode cX4_turnSome 15 = .ok (.getfield 9, 3) := by decide +kernel
theorem dX4_turnSome_18 : decode cX4_turnSome 18 = .ok (.iload 4, 2) := by decide +kernel
theorem dX4_turnSome_20 : decode cX4_turnSome 20 = .ok (.iaload, 1) := by decide +kernel
theorem dX4_turnSome_21 : decode cX4_turnSome 21 = .ok (.ifCond .eq 38, 3) := by decide +kernel
theorem dX4_turnSome_24 : decode cX4_turnSome 24 = .ok (.aload_n 0, 1) := by decide +kernel
theorem dX4_turnSome_25 : decode cX4_turnSome 25 = .ok (.getfield 9, 3) := by decide +kernel
theorem dX4_turnSome_28 : decode cX4_turnSome 28 = .ok (.iload 4, 2) := by decide +kernel
theorem dX4_turnSome_30 : decode cX4_turnSome 30 = .ok (.iload_n 3, 1) := by decide +kernel
theorem dX4_turnSome_31 : decode cX4_turnSome 31 = .ok (.iconst 1, 1) := by decide +kernel
theorem dX4_turnSome_32 : decode cX4_turnSome 32 = .ok (.iand, 1) := by decide +kernel
theorem dX4_turnSome_33 : decode cX4_turnSome 33 = .ok (.ifCond .eq 14, 3) := by decide +kernel
theorem dX4_turnSome_36 : decode cX4_turnSome 36 = .ok (.aload_n 0, 1) := by decide +kernel
theorem dX4_turnSome_37 : decode cX4_turnSome 37 = .ok (.getfield 9, 3) := by decide +kernel
theorem dX4_turnSome_40 : decode cX4_turnSome 40 = .ok (.iload 4, 2) := by decide +kernel
theorem dX4_turnSome_42 : decode cX4_turnSome 42 = .ok (.iaload, 1) := by decide +kernel
theorem dX4_turnSome_43 : decode cX4_turnSome 43 = .ok (.ineg, 1) := by decide +kernel
theorem dX4_turnSome_44 : decode cX4_turnSome 44 = .ok (.goto 10, 3) := by decide +kernel
theorem dX4_turnSome_47 : decode cX4_turnSome 47 = .ok (.aload_n 0, 1) := by decide +kernel
theorem dX4_turnSome_48 : decode cX4_turnSome 48 = .ok (.getfield 9, 3) := by decide +kernel
theorem dX4_turnSome_51 : decode cX4_turnSome 51 = .ok (.iload 4, 2) := by decide +kernel
theorem dX4_turnSome_53 : decode cX4_turnSome 53 = .ok (.iaload, 1) := by decide +kernel
theorem dX4_turnSome_54 : decode cX4_turnSome 54 = .ok (.iastore, 1) := by decide +kernel
theorem dX4_turnSome_55 : decode cX4_turnSome 55 = .ok (.iload_n 3, 1) := by decide +kernel
theorem dX4_turnSome_56 : decode cX4_turnSome 56 = .ok (.iconst 1, 1) := by decide +kernel
theorem dX4_turnSome_57 : decode cX4_turnSome 57 = .ok (.ishr, 1) := by decide +kernel
theorem dX4_turnSome_58 : decode cX4_turnSome 58 = .ok (.istore_n 3, 1) := by decide +kernel
theorem dX4_turnSome_59 : decode cX4_turnSome 59 = .ok (.iinc 4 1, 3) := by decide +kernel
theorem dX4_turnSome_62 : decode cX4_turnSome 62 = .ok (.goto (-57), 3) := by decide +kernel
theorem dX4_turnSome_65 : decode cX4_turnSome 65 = .ok (.iconst 0, 1) := by decide +kernel
theorem dX4_turnSome_66 : decode cX4_turnSome 66 = .ok (.istore 4, 2) := by decide +kernel
theorem dX4_turnSome_68 : decode cX4_turnSome 68 = .ok (.iload 4, 2) := by decide +kernel
theorem dX4_turnSome_70 : decode cX4_turnSome 70 = .ok (.aload_n 1, 1) := by decide +kernel
theorem dX4_turnSome_71 : decode cX4_turnSome 71 = .ok (.getfield 35, 3) := by decide +kernel
theorem dX4_turnSome_74 : decode cX4_turnSome 74 = .ok (.if_icmp .ge 54, 3) := by decide +kernel
theorem dX4_turnSome_77 : decode cX4_turnSome 77 = .ok (.aload_n 0, 1) := by decide +kernel
theorem dX4_turnSome_78 : decode cX4_turnSome 78 = .ok (.getfield 15, 3) := by decide +kernel
theorem dX4_turnSome_81 : decode cX4_turnSome 81 = .ok (.iload 4, 2) := by decide +kernel
theorem dX4_turnSome_83 : decode cX4_turnSome 83 = .ok (.iaload, 1) := by decide +kernel
theorem dX4_turnSome_84 : decode cX4_turnSome 84 = .ok (.ifCond .eq 38, 3) := by decide +kernel
theorem dX4_turnSome_87 : decode cX4_turnSome 87 = .ok (.aload_n 0, 1) := by decide +kernel
theorem dX4_turnSome_88 : decode cX4_turnSome 88 = .ok (.getfield 15, 3) := by decide +kernel
theorem dX4_turnSome_91 : decode cX4_turnSome 91 = .ok (.iload 4, 2) := by decide +kernel
theorem dX4_turnSome_93 : decode cX4_turnSome 93 = .ok (.iload_n 3, 1) := by decide +kernel
theorem dX4_turnSome_94 : decode cX4_turnSome 94 = .ok (.iconst 1, 1) := by decide +kernel
theorem dX4_turnSome_95 : decode cX4_turnSome 95 = .ok (.iand, 1) := by decide +kernel
theorem dX4_turnSome_96 : decode cX4_turnSome 96 = .ok (.ifCond .eq 14, 3) := by decide +kernel
theorem dX4_turnSome_99 : decode cX4_turnSome 99 = .ok (.aload_n 0, 1) := by decide +kernel
theorem dX4_turnSome_100 : decode cX4_turnSome 100 = .ok (.getfield 15, 3) := by decide +kernel
theorem dX4_turnSome_103 : decode cX4_turnSome 103 = .ok (.iload 4, 2) := by decide +kernel
theorem dX4_turnSome_105 : decode cX4_turnSome 105 = .ok (.iaload, 1) := by decide +kernel
theorem dX4_turnSome_106 : decode cX4_turnSome 106 = .ok (.ineg, 1) := by decide +kernel
theorem dX4_turnSome_107 : decode cX4_turnSome 107 = .ok (.goto 10, 3) := by decide +kernel
theorem dX4_turnSome_110 : decode cX4_turnSome 110 = .ok (.aload_n 0, 1) := by decide +kernel
theorem dX4_turnSome_111 : decode cX4_turnSome 111 = .ok (.getfield 15, 3) := by decide +kernel
theorem dX4_turnSome_114 : decode cX4_turnSome 114 = .ok (.iload 4, 2) := by decide +kernel
theorem dX4_turnSome_116 : decode cX4_turnSome 116 = .ok (.iaload, 1) := by decide +kernel
theorem dX4_turnSome_117 : decode cX4_turnSome 117 = .ok (.iastore, 1) := by decide +kernel
theorem dX4_turnSome_118 : decode cX4_turnSome 118 = .ok (.iload_n 3, 1) := by decide +kernel
theorem dX4_turnSome_119 : decode cX4_turnSome 119 = .ok (.iconst 1, 1) := by decide +kernel
theorem dX4_turnSome_120 : decode cX4_turnSome 120 = .ok (.ishr, 1) := by decide +kernel
theorem dX4_turnSome_121 : decode cX4_turnSome 121 = .ok (.istore_n 3, 1) := by decide +kernel
theorem dX4_turnSome_122 : decode cX4_turnSome 122 = .ok (.iinc 4 1, 3) := by decide +kernel
theorem dX4_turnSome_125 : decode cX4_turnSome 125 = .ok (.goto (-57), 3) := by decide +kernel
theorem dX4_turnSome_128 : decode cX4_turnSome 128 = .ok (.return_, 1) := by decide +kernel
theorem dX6_isFound_0 : decode cX6_isFound 0 = .ok (.iconst 0, 1) := by decide +kernel
theorem dX6_isFound_1 : decode cX6_isFound 1 = .ok (.istore_n 3, 1) := by decide +kernel
theorem dX6_isFound_2 : decode cX6_isFound 2 = .ok (.iload_n 3, 1) := by decide +kernel
theorem dX6_isFound_3 : decode cX6_isFound 3 = .ok (.iload_n 2, 1) := by decide +kernel
theorem dX6_isFound_4 : decode cX6_isFound 4 = .ok (.if_icmp .ge 21, 3) := by decide +kernel
theorem dX6_isFound_7 : decode cX6_isFound 7 = .ok (.aload_n 0, 1) := by decide +kernel
theorem dX6_isFound_8 : decode cX6_isFound 8 = .ok (.getfield 59, 3) := by decide +kernel
theorem dX6_isFound_11 : decode cX6_isFound 11 = .ok (.iload_n 3, 1) := by decide +kernel
theorem dX6_isFound_12 : decode cX6_isFound 12 = .ok (.iaload, 1) := by decide +kernel
theorem dX6_isFound_13 : decode cX6_isFound 13 = .ok (.iload_n 1, 1) := by decide +kernel
theorem dX6_isFound_14 : decode cX6_isFound 14 = .ok (.if_icmp .ne 5, 3) := by decide +kernel
theorem dX6_isFound_17 : decode cX6_isFound 17 = .ok (.iconst 1, 1) := by decide +kernel
theorem dX6_isFound_18 : decode cX6_isFound 18 = .ok (.ireturn, 1) := by decide +kernel
theorem dX6_isFound_19 : decode cX6_isFound 19 = .ok (.iinc 3 1, 3) := by decide +kernel
theorem dX6_isFound_22 : decode cX6_isFound 22 = .ok (.goto (-20), 3) := by decide +kernel
theorem dX6_isFound_25 : decode cX6_isFound 25 = .ok (.iconst 0, 1) := by decide +kernel
theorem dX6_isFound_26 : decode cX6_isFound 26 = .ok (.ireturn, 1) := by decide +kernel
theorem dX6_keep_0 : decode cX6_keep 0 = .ok (.aload_n 0, 1) := by decide +kernel
theorem dX6_keep_1 : decode cX6_keep 1 = .ok (.invokevirtual 142, 3) := by decide +kernel
theorem dX6_keep_4 : decode cX6_keep 4 = .ok (.aload_n 0, 1) := by decide +kernel
theorem dX6_keep_5 : decode cX6_keep 5 = .ok (.getfield 42, 3) := by decide +kernel
theorem dX6_keep_8 : decode cX6_keep 8 = .ok (.aload_n 0, 1) := by decide +kernel
theorem dX6_keep_9 : decode cX6_keep 9 = .ok (.getfield 38, 3) := by decide +kernel
theorem dX6_keep_12 : decode cX6_keep 12 = .ok (.invokevirtual 170, 3) := by decide +kernel
theorem dX6_keep_15 : decode cX6_keep 15 = .ok (.aload_n 0, 1) := by decide +kernel
theorem dX6_keep_16 : decode cX6_keep 16 = .ok (.getfield 42, 3) := by decide +kernel
theorem dX6_keep_19 : decode cX6_keep 19 = .ok (.getfield 173, 3) := by decide +kernel
theorem dX6_keep_22 : decode cX6_keep 22 = .ok (.ireturn, 1) := by decide +kernel
theorem dX1_copyFrom_0 : decode cX1_copyFrom 0 = .ok (.aload_n 0, 1) := by decide +kernel
theorem dX1_copyFrom_1 : decode cX1_copyFrom 1 = .ok (.aload_n 1, 1) := by decide +kernel
theorem dX1_copyFrom_2 : decode cX1_copyFrom 2 = .ok (.getfield 15, 3) := by decide +kernel
theorem dX1_copyFrom_5 : decode cX1_copyFrom 5 = .ok (.aload_n 1, 1) := by decide +kernel
theorem dX1_copyFrom_6 : decode cX1_copyFrom 6 = .ok (.getfield 9, 3) := by decide +kernel
theorem dX1_copyFrom_9 : decode cX1_copyFrom 9 = .ok (.aload_n 1, 1) := by decide +kernel
theorem dX1_copyFrom_10 : decode cX1_copyFrom 10 = .ok (.getfield 19, 3) := by decide +kernel
theorem dX1_copyFrom_13 : decode cX1_copyFrom 13 = .ok (.invokevirtual 28, 3) := by decide +kernel
theorem dX1_copyFrom_16 : decode cX1_copyFrom 16 = .ok (.return_, 1) := by decide +kernel
theorem dX6_compare_0 : decode cX6_compare 0 = .ok (.aload_n 0, 1) := by decide +kernel
theorem dX6_compare_1 : decode cX6_compare 1 = .ok (.invokevirtual 142, 3) := by decide +kernel
theorem dX6_compare_4 : decode cX6_compare 4 = .ok (.aload_n 0, 1) := by decide +kernel
theorem dX6_compare_5 : decode cX6_compare 5 = .ok (.getfield 38, 3) := by decide +kernel
theorem dX6_compare_8 : decode cX6_compare 8 = .ok (.aload_n 0, 1) := by decide +kernel
theorem dX6_compare_9 : decode cX6_compare 9 = .ok (.getfield 42, 3) := by decide +kernel
theorem dX6_compare_12 : decode cX6_compare 12 = .ok (.invokevirtual 174, 3) := by decide +kernel
theorem dX6_compare_15 : decode cX6_compare 15 = .ok (.ifCond .ne 5, 3) := by decide +kernel
theorem dX6_compare_18 : decode cX6_compare 18 = .ok (.iconst 3, 1) := by decide +kernel
theorem dX6_compare_19 : decode cX6_compare 19 = .ok (.ireturn, 1) := by decide +kernel
theorem dX6_compare_20 : decode cX6_compare 20 = .ok (.aload_n 0, 1) := by decide +kernel
theorem dX6_compare_21 : decode cX6_compare 21 = .ok (.getfield 38, 3) := by decide +kernel
theorem dX6_compare_24 : decode cX6_compare 24 = .ok (.getfield 148, 3) := by decide +kernel
theorem dX6_compare_27 : decode cX6_compare 27 = .ok (.aload_n 0, 1) := by decide +kernel
theorem dX6_compare_28 : decode cX6_compare 28 = .ok (.getfield 42, 3) := by decide +kernel
theorem dX6_compare_31 : decode cX6_compare 31 = .ok (.getfield 148, 3) := by decide +kernel
theorem dX6_compare_34 : decode cX6_compare 34 = .ok (.if_icmp .ne 5, 3) := by decide +kernel
theorem dX6_compare_37 : decode cX6_compare 37 = .ok (.iconst 0, 1) := by decide +kernel
theorem dX6_compare_38 : decode cX6_compare 38 = .ok (.ireturn, 1) := by decide +kernel
theorem dX6_compare_39 : decode cX6_compare 39 = .ok (.aload_n 0, 1) := by decide +kernel
theorem dX6_compare_40 : decode cX6_compare 40 = .ok (.getfield 63, 3) := by decide +kernel
theorem dX6_compare_43 : decode cX6_compare 43 = .ok (.aload_n 0, 1) := by decide +kernel
theorem dX6_compare_44 : decode cX6_compare 44 = .ok (.getfield 42, 3) := by decide +kernel
theorem dX6_compare_47 : decode cX6_compare 47 = .ok (.getfield 148, 3) := by decide +kernel
theorem dX6_compare_50 : decode cX6_compare 50 = .ok (.if_icmp .ne 7, 3) := by decide +kernel
theorem dX6_compare_53 : decode cX6_compare 53 = .ok (.iconst 2, 1) := by decide +kernel
theorem dX6_compare_54 : decode cX6_compare 54 = .ok (.goto 4, 3) := by decide +kernel
theorem dX6_compare_57 : decode cX6_compare 57 = .ok (.iconst 1, 1) := by decide +kernel
theorem dX6_compare_58 : decode cX6_compare 58 = .ok (.ireturn, 1) := by decide +kernel
theorem dX1_hasRowsOf_0 : decode cX1_hasRowsOf 0 = .ok (.aload_n 0, 1) := by decide +kernel
theorem dX1_hasRowsOf_1 : decode cX1_hasRowsOf 1 = .ok (.getfield 9, 3) := by decide +kernel
theorem dX1_hasRowsOf_4 : decode cX1_hasRowsOf 4 = .ok (.aload_n 1, 1) := by decide +kernel
theorem dX1_hasRowsOf_5 : decode cX1_hasRowsOf 5 = .ok (.getfield 9, 3) := by decide +kernel
theorem dX1_hasRowsOf_8 : decode cX1_hasRowsOf 8 = .ok (.if_icmp .eq 5, 3) := by decide +kernel
theorem dX1_hasRowsOf_11 : decode cX1_hasRowsOf 11 = .ok (.iconst 0, 1) := by decide +kernel
theorem dX1_hasRowsOf_12 : decode cX1_hasRowsOf 12 = .ok (.ireturn, 1) := by decide +kernel
theorem dX1_hasRowsOf_13 : decode cX1_hasRowsOf 13 = .ok (.iconst 0, 1) := by decide +kernel
theorem dX1_hasRowsOf_14 : decode cX1_hasRowsOf 14 = .ok (.istore_n 2, 1) := by decide +kernel
theorem dX1_hasRowsOf_15 : decode cX1_hasRowsOf 15 = .ok (.iload_n 2, 1) := by decide +kernel
theorem dX1_hasRowsOf_16 : decode cX1_hasRowsOf 16 = .ok (.aload_n 0, 1) := by decide +kernel
theorem dX1_hasRowsOf_17 : decode cX1_hasRowsOf 17 = .ok (.getfield 9, 3) := by decide +kernel
theorem dX1_hasRowsOf_20 : decode cX1_hasRowsOf 20 = .ok (.if_icmp .ge 26, 3) := by decide +kernel
theorem dX1_hasRowsOf_23 : decode cX1_hasRowsOf 23 = .ok (.aload_n 0, 1) := by decide +kernel
theorem dX1_hasRowsOf_24 : decode cX1_hasRowsOf 24 = .ok (.getfield 15, 3) := by decide +kernel
theorem dX1_hasRowsOf_27 : decode cX1_hasRowsOf 27 = .ok (.iload_n 2, 1) := by decide +kernel
theorem dX1_hasRowsOf_28 : decode cX1_hasRowsOf 28 = .ok (.iaload, 1) := by decide +kernel
theorem dX1_hasRowsOf_29 : decode cX1_hasRowsOf 29 = .ok (.aload_n 1, 1) := by decide +kernel
theorem dX1_hasRowsOf_30 : decode cX1_hasRowsOf 30 = .ok (.getfield 15, 3) := by decide +kernel
theorem dX1_hasRowsOf_33 : decode cX1_hasRowsOf 33 = .ok (.iload_n 2, 1) := by decide +kernel
theorem dX1_hasRowsOf_34 : decode cX1_hasRowsOf 34 = .ok (.iaload, 1) := by decide +kernel
theorem dX1_hasRowsOf_35 : decode cX1_hasRowsOf 35 = .ok (.if_icmp .eq 5, 3) := by decide +kernel
theorem dX1_hasRowsOf_38 : decode cX1_hasRowsOf 38 = .ok (.iconst 0, 1) := by decide +kernel
theorem dX1_hasRowsOf_39 : decode cX1_hasRowsOf 39 = .ok (.ireturn, 1) := by decide +kernel
theorem dX1_hasRowsOf_40 : decode cX1_hasRowsOf 40 = .ok (.iinc 2 1, 3) := by decide +kernel
theorem dX1_hasRowsOf_43 : decode cX1_hasRowsOf 43 = .ok (.goto (-28), 3) := by decide +kernel
theorem dX1_hasRowsOf_46 : decode cX1_hasRowsOf 46 = .ok (.iconst 1, 1) := by decide +kernel
theorem dX1_hasRowsOf_47 : decode cX1_hasRowsOf 47 = .ok (.ireturn, 1) := by decide +kernel
theorem dX6_write_0 : decode cX6_write 0 = .ok (.aload_n 0, 1) := by decide +kernel
theorem dX6_write_1 : decode cX6_write 1 = .ok (.invokevirtual 142, 3) := by decide +kernel
theorem dX6_write_4 : decode cX6_write 4 = .ok (.aload_n 0, 1) := by decide +kernel
theorem dX6_write_5 : decode cX6_write 5 = .ok (.getfield 55, 3) := by decide +kernel
theorem dX6_write_8 : decode cX6_write 8 = .ok (.aload_n 0, 1) := by decide +kernel
theorem dX6_write_9 : decode cX6_write 9 = .ok (.getfield 14, 3) := by decide +kernel
theorem dX6_write_12 : decode cX6_write 12 = .ok (.aload_n 0, 1) := by decide +kernel
theorem dX6_write_13 : decode cX6_write 13 = .ok (.getfield 21, 3) := by decide +kernel
theorem dX6_write_16 : decode cX6_write 16 = .ok (.aload_n 0, 1) := by decide +kernel
theorem dX6_write_17 : decode cX6_write 17 = .ok (.getfield 48, 3) := by decide +kernel
theorem dX6_write_20 : decode cX6_write 20 = .ok (.invokevirtual 178, 3) := by decide +kernel
theorem dX6_write_23 : decode cX6_write 23 = .ok (.aload_n 0, 1) := by decide +kernel
theorem dX6_write_24 : decode cX6_write 24 = .ok (.getfield 55, 3) := by decide +kernel
theorem dX6_write_27 : decode cX6_write 27 = .ok (.getfield 182, 3) := by decide +kernel
theorem dX6_write_30 : decode cX6_write 30 = .ok (.ireturn, 1) := by decide +kernel
theorem dX5_describe_0 : decode cX5_describe 0 = .ok (.aload_n 0, 1) := by decide +kernel
theorem dX5_describe_1 : decode cX5_describe 1 = .ok (.iconst 0, 1) := by decide +kernel
theorem dX5_describe_2 : decode cX5_describe 2 = .ok (.putfield 15, 3) := by decide +kernel
theorem dX5_describe_5 : decode cX5_describe 5 = .ok (.iconst 0, 1) := by decide +kernel
theorem dX5_describe_6 : decode cX5_describe 6 = .ok (.istore 4, 2) := by decide +kernel
theorem dX5_describe_8 : decode cX5_describe 8 = .ok (.iload 4, 2) := by decide +kernel
theorem dX5_describe_10 : decode cX5_describe 10 = .ok (.aload_n 1, 1) := by decide +kernel
theorem dX5_describe_11 : decode cX5_describe 11 = .ok (.getfield 19, 3) := by decide +kernel
theorem dX5_describe_14 : decode cX5_describe 14 = .ok (.if_icmp .ge 109, 3) := by decide +kernel
theorem dX5_describe_17 : decode cX5_describe 17 = .ok (.aload_n 3, 1) := by decide +kernel
theorem dX5_describe_18 : decode cX5_describe 18 = .ok (.getfield 24, 3) := by decide +kernel
theorem dX5_describe_21 : decode cX5_describe 21 = .ok (.iload 4, 2) := by decide +kernel
theorem dX5_describe_23 : decode cX5_describe 23 = .ok (.iaload, 1) := by decide +kernel
theorem dX5_describe_24 : decode cX5_describe 24 = .ok (.istore 5, 2) := by decide +kernel
theorem dX5_describe_26 : decode cX5_describe 26 = .ok (.aload_n 0, 1) := by decide +kernel
theorem dX5_describe_27 : decode cX5_describe 27 = .ok (.aload_n 1, 1) := by decide +kernel
theorem dX5_describe_28 : decode cX5_describe 28 = .ok (.getfield 30, 3) := by decide +kernel
theorem dX5_describe_31 : decode cX5_describe 31 = .ok (.iload 5, 2) := by decide +kernel
theorem dX5_describe_33 : decode cX5_describe 33 = .ok (.iaload, 1) := by decide +kernel
theorem dX5_describe_34 : decode cX5_describe 34 = .ok (.invokevirtual 33, 3) := by decide +kernel
theorem dX5_describe_37 : decode cX5_describe 37 = .ok (.aload_n 0, 1) := by decide +kernel
theorem dX5_describe_38 : decode cX5_describe 38 = .ok (.aload_n 3, 1) := by decide +kernel
theorem dX5_describe_39 : decode cX5_describe 39 = .ok (.aload_n 1, 1) := by decide +kernel
theorem dX5_describe_40 : decode cX5_describe 40 = .ok (.aload_n 2, 1) := by decide +kernel
theorem dX5_describe_41 : decode cX5_describe 41 = .ok (.iload 5, 2) := by decide +kernel
theorem dX5_describe_43 : decode cX5_describe 43 = .ok (.invokevirtual 37, 3) := by decide +kernel
theorem dX5_describe_46 : decode cX5_describe 46 = .ok (.invokevirtual 41, 3) := by decide +kernel
theorem dX5_describe_49 : decode cX5_describe 49 = .ok (.iconst 0, 1) := by decide +kernel
theorem dX5_describe_50 : decode cX5_describe 50 = .ok (.istore 6, 2) := by decide +kernel
theorem dX5_describe_52 : decode cX5_describe 52 = .ok (.iload 6, 2) := by decide +kernel
theorem dX5_describe_54 : decode cX5_describe 54 = .ok (.iload 4, 2) := by decide +kernel
theorem dX5_describe_56 : decode cX5_describe 56 = .ok (.if_icmp .ge 55, 3) := by decide +kernel
theorem dX5_describe_59 : decode cX5_describe 59 = .ok (.aload_n 1, 1) := by decide +kernel
theorem dX5_describe_60 : decode cX5_describe 60 = .ok (.iload 5, 2) := by decide +kernel
theorem dX5_describe_62 : decode cX5_describe 62 = .ok (.aload_n 3, 1) := by decide +kernel
theorem dX5_describe_63 : decode cX5_describe 63 = .ok (.getfield 24, 3) := by decide +kernel
theorem dX5_describe_66 : decode cX5_describe 66 = .ok (.iload 6, 2) := by decide +kernel
theorem dX5_describe_68 : decode cX5_describe 68 = .ok (.iaload, 1) := by decide +kernel
theorem dX5_describe_69 : decode cX5_describe 69 = .ok (.invokevirtual 44, 3) := by decide +kernel
theorem dX5_describe_72 : decode cX5_describe 72 = .ok (.istore 7, 2) := by decide +kernel
theorem dX5_describe_74 : decode cX5_describe 74 = .ok (.iload 7, 2) := by decide +kernel
theorem dX5_describe_76 : decode cX5_describe 76 = .ok (.iconst (-1), 1) := by decide +kernel
theorem dX5_describe_77 : decode cX5_describe 77 = .ok (.if_icmp .eq 28, 3) := by decide +kernel
theorem dX5_describe_80 : decode cX5_describe 80 = .ok (.aload_n 3, 1) := by decide +kernel
theorem dX5_describe_81 : decode cX5_describe 81 = .ok (.aload_n 1, 1) := by decide +kernel
theorem dX5_describe_82 : decode cX5_describe 82 = .ok (.aload_n 2, 1) := by decide +kernel
theorem dX5_describe_83 : decode cX5_describe 83 = .ok (.iload 7, 2) := by decide +kernel
theorem dX5_describe_85 : decode cX5_describe 85 = .ok (.invokevirtual 48, 3) := by decide +kernel
theorem dX5_describe_88 : decode cX5_describe 88 = .ok (.istore 8, 2) := by decide +kernel
theorem dX5_describe_90 : decode cX5_describe 90 = .ok (.aload_n 0, 1) := by decide +kernel
theorem dX5_describe_91 : decode cX5_describe 91 = .ok (.iload 6, 2) := by decide +kernel
theorem dX5_describe_93 : decode cX5_describe 93 = .ok (.aload_n 1, 1) := by decide +kernel
theorem dX5_describe_94 : decode cX5_describe 94 = .ok (.getfield 51, 3) := by decide +kernel
theorem dX5_describe_97 : decode cX5_describe 97 = .ok (.iload 7, 2) := by decide +kernel
theorem dX5_describe_99 : decode cX5_describe 99 = .ok (.iaload, 1) := by decide +kernel
theorem dX5_describe_100 : decode cX5_describe 100 = .ok (.iload 8, 2) := by decide +kernel
theorem dX5_describe_102 : decode cX5_describe 102 = .ok (.invokevirtual 54, 3) := by decide +kernel
theorem dX5_describe_105 : decode cX5_describe 105 = .ok (.iinc 6 1, 3) := by decide +kernel
theorem dX5_describe_108 : decode cX5_describe 108 = .ok (.goto (-56), 3) := by decide +kernel
theorem dX5_describe_111 : decode cX5_describe 111 = .ok (.aload_n 0, 1) := by decide +kernel
theorem dX5_describe_112 : decode cX5_describe 112 = .ok (.bipush 59, 2) := by decide +kernel
theorem dX5_describe_114 : decode cX5_describe 114 = .ok (.invokevirtual 58, 3) := by decide +kernel
theorem dX5_describe_117 : decode cX5_describe 117 = .ok (.iinc 4 1, 3) := by decide +kernel
theorem dX5_describe_120 : decode cX5_describe 120 = .ok (.goto (-112), 3) := by decide +kernel
theorem dX5_describe_123 : decode cX5_describe 123 = .ok (.return_, 1) := by decide +kernel
theorem dX5_addElement_0 : decode cX5_addElement 0 = .ok (.aload_n 0, 1) := by decide +kernel
theorem dX5_addElement_1 : decode cX5_addElement 1 = .ok (.ldc 62, 2) := by decide +kernel
theorem dX5_addElement_3 : decode cX5_addElement 3 = .ok (.iload_n 1, 1) := by decide +kernel
theorem dX5_addElement_4 : decode cX5_addElement 4 = .ok (.invokevirtual 64, 3) := by decide +kernel
theorem dX5_addElement_7 : decode cX5_addElement 7 = .ok (.invokevirtual 58, 3) := by decide +kernel
theorem dX5_addElement_10 : decode cX5_addElement 10 = .ok (.iload_n 1, 1) := by decide +kernel
theorem dX5_addElement_11 : decode cX5_addElement 11 = .ok (.iconst 4, 1) := by decide +kernel
theorem dX5_addElement_12 : decode cX5_addElement 12 = .ok (.if_icmp .ne 9, 3) := by decide +kernel
theorem dX5_addElement_15 : decode cX5_addElement 15 = .ok (.aload_n 0, 1) := by decide +kernel
theorem dX5_addElement_16 : decode cX5_addElement 16 = .ok (.bipush 108, 2) := by decide +kernel
theorem dX5_addElement_18 : decode cX5_addElement 18 = .ok (.invokevirtual 58, 3) := by decide +kernel
theorem dX5_addElement_21 : decode cX5_addElement 21 = .ok (.return_, 1) := by decide +kernel
theorem dJ0_charAt_0 : decode cJ0_charAt 0 = .ok (.aload_n 0, 1) := by decide +kernel
theorem dJ0_charAt_1 : decode cJ0_charAt 1 = .ok (.invokevirtual 492, 3) := by decide +kernel
theorem dJ0_charAt_4 : decode cJ0_charAt 4 = .ok (.ifCond .eq 12, 3) := by decide +kernel
theorem dJ0_charAt_7 : decode cJ0_charAt 7 = .ok (.aload_n 0, 1) := by decide +kernel
theorem dJ0_charAt_8 : decode cJ0_charAt 8 = .ok (.getfield 9, 3) := by decide +kernel
theorem dJ0_charAt_11 : decode cJ0_charAt 11 = .ok (.iload_n 1, 1) := by decide +kernel
theorem dJ0_charAt_12 : decode cJ0_charAt 12 = .ok (.invokestatic 495, 3) := by decide +kernel
theorem dJ0_charAt_15 : decode cJ0_charAt 15 = .ok (.ireturn, 1) := by decide +kernel
theorem dJ0_charAt_16 : decode cJ0_charAt 16 = .ok (.aload_n 0, 1) := by decide +kernel
theorem dJ0_charAt_17 : decode cJ0_charAt 17 = .ok (.getfield 9, 3) := by decide +kernel
theorem dJ0_charAt_20 : decode cJ0_charAt 20 = .ok (.iload_n 1, 1) := by decide +kernel
theorem dJ0_charAt_21 : decode cJ0_charAt 21 = .ok (.invokestatic 498, 3) := by decide +kernel
theorem dJ0_charAt_24 : decode cJ0_charAt 24 = .ok (.ireturn, 1) := by decide +kernel
theorem dJ0_isLatin1_0 : decode cJ0_isLatin1 0 = .ok (.getstatic 38, 3) := by decide +kernel
theorem dJ0_isLatin1_3 : decode cJ0_isLatin1 3 = .ok (.ifCond .eq 14, 3) := by decide +kernel
theorem dJ0_isLatin1_6 : decode cJ0_isLatin1 6 = .ok (.aload_n 0, 1) := by decide +kernel
theorem dJ0_isLatin1_7 : decode cJ0_isLatin1 7 = .ok (.getfield 15, 3) := by decide +kernel
theorem dJ0_isLatin1_10 : decode cJ0_isLatin1 10 = .ok (.ifCond .ne 7, 3) := by decide +kernel
theorem dJ0_isLatin1_13 : decode cJ0_isLatin1 13 = .ok (.iconst 1, 1) := by decide +kernel
theorem dJ0_isLatin1_14 : decode cJ0_isLatin1 14 = .ok (.goto 4, 3) := by decide +kernel
theorem dJ0_isLatin1_17 : decode cJ0_isLatin1 17 = .ok (.iconst 0, 1) := by decide +kernel
theorem dJ0_isLatin1_18 : decode cJ0_isLatin1 18 = .ok (.ireturn, 1) := by decide +kernel
theorem dJ1_charAt_0 : decode cJ1_charAt 0 = .ok (.iload_n 1, 1) := by decide +kernel
theorem dJ1_charAt_1 : decode cJ1_charAt 1 = .ok (.aload_n 0, 1) := by decide +kernel
theorem dJ1_charAt_2 : decode cJ1_charAt 2 = .ok (.arraylength, 1) := by decide +kernel
theorem dJ1_charAt_3 : decode cJ1_charAt 3 = .ok (.invokestatic 9, 3) := by decide +kernel
theorem dJ1_charAt_6 : decode cJ1_charAt 6 = .ok (.aload_n 0, 1) := by decide +kernel
theorem dJ1_charAt_7 : decode cJ1_charAt 7 = .ok (.iload_n 1, 1) := by decide +kernel
theorem dJ1_charAt_8 : decode cJ1_charAt 8 = .ok (.baload, 1) := by decide +kernel
theorem dJ1_charAt_9 : decode cJ1_charAt 9 = .ok (.sipush 255, 3) := by decide +kernel
theorem dJ1_charAt_12 : decode cJ1_charAt 12 = .ok (.iand, 1) := by decide +kernel
theorem dJ1_charAt_13 : decode cJ1_charAt 13 = .ok (.i2c, 1) := by decide +kernel
theorem dJ1_charAt_14 : decode cJ1_charAt 14 = .ok (.ireturn, 1) := by decide +kernel
theorem dJ0_checkIndex_0 : decode cJ0_checkIndex 0 = .ok (.iload_n 0, 1) := by decide +kernel
theorem dJ0_checkIndex_1 : decode cJ0_checkIndex 1 = .ok (.iload_n 1, 1) := by decide +kernel
theorem dJ0_checkIndex_2 : decode cJ0_checkIndex 2 = .ok (.getstatic 1053, 3) := by decide +kernel
theorem dJ0_checkIndex_5 : decode cJ0_checkIndex 5 = .ok (.invokestatic 1059, 3) := by decide +kernel
theorem dJ0_checkIndex_8 : decode cJ0_checkIndex 8 = .ok (.pop, 1) := by decide +kernel
theorem dJ0_checkIndex_9 : decode cJ0_checkIndex 9 = .ok (.return_, 1) := by decide +kernel
theorem dJ3_checkIndex_0 : decode cJ3_checkIndex 0 = .ok (.iload_n 0, 1) := by decide +kernel
theorem dJ3_checkIndex_1 : decode cJ3_checkIndex 1 = .ok (.ifCond .lt 8, 3) := by decide +kernel
theorem dJ3_checkIndex_4 : decode cJ3_checkIndex 4 = .ok (.iload_n 0, 1) := by decide +kernel
theorem dJ3_checkIndex_5 : decode cJ3_checkIndex 5 = .ok (.iload_n 1, 1) := by decide +kernel
theorem dJ3_checkIndex_6 : decode cJ3_checkIndex 6 = .ok (.if_icmp .lt 10, 3) := by decide +kernel
theorem dJ3_checkIndex_9 : decode cJ3_checkIndex 9 = .ok (.aload_n 2, 1) := by decide +kernel
theorem dJ3_checkIndex_10 : decode cJ3_checkIndex 10 = .ok (.iload_n 0, 1) := by decide +kernel
theorem dJ3_checkIndex_11 : decode cJ3_checkIndex 11 = .ok (.iload_n 1, 1) := by decide +kernel
theorem dJ3_checkIndex_12 : decode cJ3_checkIndex 12 = .ok (.invokestatic 95, 3) := by decide +kernel
theorem dJ3_checkIndex_15 : decode cJ3_checkIndex 15 = .ok (.athrow, 1) := by decide +kernel
theorem dJ3_checkIndex_16 : decode cJ3_checkIndex 16 = .ok (.iload_n 0, 1) := by decide +kernel
theorem dJ3_checkIndex_17 : decode cJ3_checkIndex 17 = .ok (.ireturn, 1) := by decide +kernel
theorem dJ2_charAt_0 : decode cJ2_charAt 0 = .ok (.iload_n 1, 1) := by decide +kernel
theorem dJ2_charAt_1 : decode cJ2_charAt 1 = .ok (.aload_n 0, 1) := by decide +kernel
theorem dJ2_charAt_2 : decode cJ2_charAt 2 = .ok (.invokestatic 67, 3) := by decide +kernel
theorem dJ2_charAt_5 : decode cJ2_charAt 5 = .ok (.aload_n 0, 1) := by decide +kernel
theorem dJ2_charAt_6 : decode cJ2_charAt 6 = .ok (.iload_n 1, 1) := by decide +kernel
theorem dJ2_charAt_7 : decode cJ2_charAt 7 = .ok (.invokestatic 71, 3) := by decide +kernel
theorem dJ2_charAt_10 : decode cJ2_charAt 10 = .ok (.ireturn, 1) := by decide +kernel
theorem dJ2_checkIndex_0 : decode cJ2_checkIndex 0 = .ok (.iload_n 0, 1) := by decide +kernel
theorem dJ2_checkIndex_1 : decode cJ2_checkIndex 1 = .ok (.aload_n 1, 1) := by decide +kernel
theorem dJ2_checkIndex_2 : decode cJ2_checkIndex 2 = .ok (.invokestatic 48, 3) := by decide +kernel
theorem dJ2_checkIndex_5 : decode cJ2_checkIndex 5 = .ok (.invokestatic 414, 3) := by decide +kernel
theorem dJ2_checkIndex_8 : decode cJ2_checkIndex 8 = .ok (.return_, 1) := by decide +kernel
theorem dJ2_length_0 : decode cJ2_length 0 = .ok (.aload_n 0, 1) := by decide +kernel
theorem dJ2_length_1 : decode cJ2_length 1 = .ok (.arraylength, 1) := by decide +kernel
theorem dJ2_length_2 : decode cJ2_length 2 = .ok (.iconst 1, 1) := by decide +kernel
theorem dJ2_length_3 : decode cJ2_length 3 = .ok (.ishr, 1) := by decide +kernel
theorem dJ2_length_4 : decode cJ2_length 4 = .ok (.ireturn, 1) := by decide +kernel
theorem dJ2_getChar_0 : decode cJ2_getChar 0 = .ok (.getstatic 44, 3) := by decide +kernel
theorem dJ2_getChar_3 : decode cJ2_getChar 3 = .ok (.ifCond .ne 25, 3) := by decide +kernel
theorem dJ2_getChar_6 : decode cJ2_getChar 6 = .ok (.iload_n 1, 1) := by decide +kernel
theorem dJ2_getChar_7 : decode cJ2_getChar 7 = .ok (.ifCond .lt 11, 3) := by decide +kernel
theorem dJ2_getChar_10 : decode cJ2_getChar 10 = .ok (.iload_n 1, 1) := by decide +kernel
theorem dJ2_getChar_11 : decode cJ2_getChar 11 = .ok (.aload_n 0, 1) := by decide +kernel
theorem dJ2_getChar_12 : decode cJ2_getChar 12 = .ok (.invokestatic 48, 3) := by decide +kernel
theorem dJ2_getChar_15 : decode cJ2_getChar 15 = .ok (.if_icmp .lt 13, 3) := by decide +kernel
theorem dJ2_getChar_18 : decode cJ2_getChar 18 = .ok (.new 52, 3) := by decide +kernel
theorem dJ2_getChar_21 : decode cJ2_getChar 21 = .ok (.dup, 1) := by decide +kernel
theorem dJ2_getChar_22 : decode cJ2_getChar 22 = .ok (.ldc 54, 2) := by decide +kernel
theorem dJ2_getChar_24 : decode cJ2_getChar 24 = .ok (.invokespecial 56, 3) := by decide +kernel
theorem dJ2_getChar_27 : decode cJ2_getChar 27 = .ok (.athrow, 1) := by decide +kernel
theorem dJ2_getChar_28 : decode cJ2_getChar 28 = .ok (.iload_n 1, 1) := by decide +kernel
theorem dJ2_getChar_29 : decode cJ2_getChar 29 = .ok (.iconst 1, 1) := by decide +kernel
theorem dJ2_getChar_30 : decode cJ2_getChar 30 = .ok (.ishl, 1) := by decide +kernel
theorem dJ2_getChar_31 : decode cJ2_getChar 31 = .ok (.istore_n 1, 1) := by decide +kernel
theorem dJ2_getChar_32 : decode cJ2_getChar 32 = .ok (.aload_n 0, 1) := by decide +kernel
theorem dJ2_getChar_33 : decode cJ2_getChar 33 = .ok (.iload_n 1, 1) := by decide +kernel
theorem dJ2_getChar_34 : decode cJ2_getChar 34 = .ok (.iinc 1 1, 3) := by decide +kernel
theorem dJ2_getChar_37 : decode cJ2_getChar 37 = .ok (.baload, 1) := by decide +kernel
theorem dJ2_getChar_38 : decode cJ2_getChar 38 = .ok (.sipush 255, 3) := by decide +kernel
theorem dJ2_getChar_41 : decode cJ2_getChar 41 = .ok (.iand, 1) := by decide +kernel
theorem dJ2_getChar_42 : decode cJ2_getChar 42 = .ok (.getstatic 59, 3) := by decide +kernel
theorem dJ2_getChar_45 : decode cJ2_getChar 45 = .ok (.ishl, 1) := by decide +kernel
theorem dJ2_getChar_46 : decode cJ2_getChar 46 = .ok (.aload_n 0, 1) := by decide +kernel
theorem dJ2_getChar_47 : decode cJ2_getChar 47 = .ok (.iload_n 1, 1) := by decide +kernel
theorem dJ2_getChar_48 : decode cJ2_getChar 48 = .ok (.baload, 1) := by decide +kernel
theorem dJ2_getChar_49 : decode cJ2_getChar 49 = .ok (.sipush 255, 3) := by decide +kernel
theorem dJ2_getChar_52 : decode cJ2_getChar 52 = .ok (.iand, 1) := by decide +kernel
theorem dJ2_getChar_53 : decode cJ2_getChar 53 = .ok (.getstatic 63, 3) := by decide +kernel
theorem dJ2_getChar_56 : decode cJ2_getChar 56 = .ok (.ishl, 1) := by decide +kernel
theorem dJ2_getChar_57 : decode cJ2_getChar 57 = .ok (.ior, 1) := by decide +kernel
theorem dJ2_getChar_58 : decode cJ2_getChar 58 = .ok (.i2c, 1) := by decide +kernel
theorem dJ2_getChar_59 : decode cJ2_getChar 59 = .ok (.ireturn, 1) := by decide +kernel
theorem dX5_add_0 : decode cX5_add 0 = .ok (.aload_n 0, 1) := by decide +kernel
theorem dX5_add_1 : decode cX5_add 1 = .ok (.getfield 15, 3) := by decide +kernel
theorem dX5_add_4 : decode cX5_add 4 = .ok (.aload_n 0, 1) := by decide +kernel
theorem dX5_add_5 : decode cX5_add 5 = .ok (.getfield 9, 3) := by decide +kernel
theorem dX5_add_8 : decode cX5_add 8 = .ok (.arraylength, 1) := by decide +kernel
theorem dX5_add_9 : decode cX5_add 9 = .ok (.if_icmp .ge 23, 3) := by decide +kernel
theorem dX5_add_12 : decode cX5_add 12 = .ok (.aload_n 0, 1) := by decide +kernel
theorem dX5_add_13 : decode cX5_add 13 = .ok (.getfield 9, 3) := by decide +kernel
theorem dX5_add_16 : decode cX5_add 16 = .ok (.aload_n 0, 1) := by decide +kernel
theorem dX5_add_17 : decode cX5_add 17 = .ok (.getfield 15, 3) := by decide +kernel
theorem dX5_add_20 : decode cX5_add 20 = .ok (.iload_n 1, 1) := by decide +kernel
theorem dX5_add_21 : decode cX5_add 21 = .ok (.castore, 1) := by decide +kernel
theorem dX5_add_22 : decode cX5_add 22 = .ok (.aload_n 0, 1) := by decide +kernel
theorem dX5_add_23 : decode cX5_add 23 = .ok (.dup, 1) := by decide +kernel
theorem dX5_add_24 : decode cX5_add 24 = .ok (.getfield 15, 3) := by decide +kernel
theorem dX5_add_27 : decode cX5_add 27 = .ok (.iconst 1, 1) := by decide +kernel
theorem dX5_add_28 : decode cX5_add 28 = .ok (.iadd, 1) := by decide +kernel
theorem dX5_add_29 : decode cX5_add 29 = .ok (.putfield 15, 3) := by decide +kernel
theorem dX5_add_32 : decode cX5_add 32 = .ok (.return_, 1) := by decide +kernel
theorem dX5_addSense_0 : decode cX5_addSense 0 = .ok (.iload_n 1, 1) := by decide +kernel
theorem dX5_addSense_1 : decode cX5_addSense 1 = .ok (.ifCond .eq 9, 3) := by decide +kernel
theorem dX5_addSense_4 : decode cX5_addSense 4 = .ok (.aload_n 0, 1) := by decide +kernel
theorem dX5_addSense_5 : decode cX5_addSense 5 = .ok (.bipush 64, 2) := by decide +kernel
theorem dX5_addSense_7 : decode cX5_addSense 7 = .ok (.invokevirtual 58, 3) := by decide +kernel
theorem dX5_addSense_10 : decode cX5_addSense 10 = .ok (.iload_n 1, 1) := by decide +kernel
theorem dX5_addSense_11 : decode cX5_addSense 11 = .ok (.ifCond .le 9, 3) := by decide +kernel
theorem dX5_addSense_14 : decode cX5_addSense 14 = .ok (.aload_n 0, 1) := by decide +kernel
theorem dX5_addSense_15 : decode cX5_addSense 15 = .ok (.bipush 64, 2) := by decide +kernel
theorem dX5_addSense_17 : decode cX5_addSense 17 = .ok (.invokevirtual 58, 3) := by decide +kernel
theorem dX5_addSense_20 : decode cX5_addSense 20 = .ok (.return_, 1) := by decide +kernel
theorem dX5_addBond_0 : decode cX5_addBond 0 = .ok (.aload_n 0, 1) := by decide +kernel
theorem dX5_addBond_1 : decode cX5_addBond 1 = .ok (.bipush 40, 2) := by decide +kernel
theorem dX5_addBond_3 : decode cX5_addBond 3 = .ok (.invokevirtual 58, 3) := by decide +kernel
theorem dX5_addBond_6 : decode cX5_addBond 6 = .ok (.aload_n 0, 1) := by decide +kernel
theorem dX5_addBond_7 : decode cX5_addBond 7 = .ok (.bipush 48, 2) := by decide +kernel
theorem dX5_addBond_9 : decode cX5_addBond 9 = .ok (.iload_n 1, 1) := by decide +kernel
theorem dX5_addBond_10 : decode cX5_addBond 10 = .ok (.iadd, 1) := by decide +kernel
theorem dX5_addBond_11 : decode cX5_addBond 11 = .ok (.i2c, 1) := by decide +kernel
theorem dX5_addBond_12 : decode cX5_addBond 12 = .ok (.invokevirtual 58, 3) := by decide +kernel
theorem dX5_addBond_15 : decode cX5_addBond 15 = .ok (.iload_n 2, 1) := by decide +kernel
theorem dX5_addBond_16 : decode cX5_addBond 16 = .ok (.iconst 2, 1) := by decide +kernel
theorem dX5_addBond_17 : decode cX5_addBond 17 = .ok (.if_icmp .ne 9, 3) := by decide +kernel
theorem dX5_addBond_20 : decode cX5_addBond 20 = .ok (.aload_n 0, 1) := by decide +kernel
theorem dX5_addBond_21 : decode cX5_addBond 21 = .ok (.bipush 61, 2) := by decide +kernel
theorem dX5_addBond_23 : decode cX5_addBond 23 = .ok (.invokevirtual 58, 3) := by decide +kernel
theorem dX5_addBond_26 : decode cX5_addBond 26 = .ok (.iload_n 2, 1) := by decide +kernel
theorem dX5_addBond_27 : decode cX5_addBond 27 = .ok (.iconst 3, 1) := by decide +kernel
theorem dX5_addBond_28 : decode cX5_addBond 28 = .ok (.if_icmp .ne 9, 3) := by decide +kernel
theorem dX5_addBond_31 : decode cX5_addBond 31 = .ok (.aload_n 0, 1) := by decide +kernel
theorem dX5_addBond_32 : decode cX5_addBond 32 = .ok (.bipush 35, 2) := by decide +kernel
theorem dX5_addBond_34 : decode cX5_addBond 34 = .ok (.invokevirtual 58, 3) := by decide +kernel
theorem dX5_addBond_37 : decode cX5_addBond 37 = .ok (.iload_n 3, 1) := by decide +kernel
theorem dX5_addBond_38 : decode cX5_addBond 38 = .ok (.ifCond .eq 18, 3) := by decide +kernel
theorem dX5_addBond_41 : decode cX5_addBond 41 = .ok (.aload_n 0, 1) := by decide +kernel
theorem dX5_addBond_42 : decode cX5_addBond 42 = .ok (.iload_n 3, 1) := by decide +kernel
theorem dX5_addBond_43 : decode cX5_addBond 43 = .ok (.ifCond .le 8, 3) := by decide +kernel
theorem dX5_addBond_46 : decode cX5_addBond 46 = .ok (.bipush 99, 2) := by decide +kernel
theorem dX5_addBond_48 : decode cX5_addBond 48 = .ok (.goto 5, 3) := by decide +kernel
theorem dX5_addBond_51 : decode cX5_addBond 51 = .ok (.bipush 116, 2) := by decide +kernel
theorem dX5_addBond_53 : decode cX5_addBond 53 = .ok (.invokevirtual 58, 3) := by decide +kernel
theorem dX5_addBond_56 : decode cX5_addBond 56 = .ok (.aload_n 0, 1) := by decide +kernel
theorem dX5_addBond_57 : decode cX5_addBond 57 = .ok (.bipush 41, 2) := by decide +kernel
theorem dX5_addBond_59 : decode cX5_addBond 59 = .ok (.invokevirtual 58, 3) := by decide +kernel
theorem dX5_addBond_62 : decode cX5_addBond 62 = .ok (.return_, 1) := by decide +kernel
theorem dX6_at_0 : decode cX6_at 0 = .ok (.iload_n 1, 1) := by decide +kernel
theorem dX6_at_1 : decode cX6_at 1 = .ok (.ifCond .lt 26, 3) := by decide +kernel
theorem dX6_at_4 : decode cX6_at 4 = .ok (.iload_n 1, 1) := by decide +kernel
theorem dX6_at_5 : decode cX6_at 5 = .ok (.aload_n 0, 1) := by decide +kernel
theorem dX6_at_6 : decode cX6_at 6 = .ok (.getfield 55, 3) := by decide +kernel
theorem dX6_at_9 : decode cX6_at 9 = .ok (.getfield 182, 3) := by decide +kernel
theorem dX6_at_12 : decode cX6_at 12 = .ok (.if_icmp .ge 15, 3) := by decide +kernel
theorem dX6_at_15 : decode cX6_at 15 = .ok (.aload_n 0, 1) := by decide +kernel
theorem dX6_at_16 : decode cX6_at 16 = .ok (.getfield 55, 3) := by decide +kernel
theorem dX6_at_19 : decode cX6_at 19 = .ok (.getfield 185, 3) := by decide +kernel
theorem dX6_at_22 : decode cX6_at 22 = .ok (.iload_n 1, 1) := by decide +kernel
theorem dX6_at_23 : decode cX6_at 23 = .ok (.caload, 1) := by decide +kernel
theorem dX6_at_24 : decode cX6_at 24 = .ok (.goto 4, 3) := by decide +kernel
theorem dX6_at_27 : decode cX6_at 27 = .ok (.iconst (-1), 1) := by decide +kernel
theorem dX6_at_28 : decode cX6_at 28 = .ok (.ireturn, 1) := by decide +kernel
theorem dX7_init_0 : decode cX7_init 0 = .ok (.aload_n 0, 1) := by decide +kernel
theorem dX7_init_1 : decode cX7_init 1 = .ok (.invokespecial 1, 3) := by decide +kernel
theorem dX7_init_4 : decode cX7_init 4 = .ok (.aload_n 0, 1) := by decide +kernel
theorem dX7_init_5 : decode cX7_init 5 = .ok (.bipush 7, 2) := by decide +kernel
theorem dX7_init_7 : decode cX7_init 7 = .ok (.newarray .int, 2) := by decide +kernel
theorem dX7_init_9 : decode cX7_init 9 = .ok (.putfield 7, 3) := by decide +kernel
theorem dX7_init_12 : decode cX7_init 12 = .ok (.aload_n 0, 1) := by decide +kernel
theorem dX7_init_13 : decode cX7_init 13 = .ok (.bipush 7, 2) := by decide +kernel
theorem dX7_init_15 : decode cX7_init 15 = .ok (.newarray .int, 2) := by decide +kernel
theorem dX7_init_17 : decode cX7_init 17 = .ok (.putfield 13, 3) := by decide +kernel
theorem dX7_init_20 : decode cX7_init 20 = .ok (.aload_n 0, 1) := by decide +kernel
theorem dX7_init_21 : decode cX7_init 21 = .ok (.bipush 7, 2) := by decide +kernel
theorem dX7_init_23 : decode cX7_init 23 = .ok (.newarray .int, 2) := by decide +kernel
theorem dX7_init_25 : decode cX7_init 25 = .ok (.putfield 16, 3) := by decide +kernel
theorem dX7_init_28 : decode cX7_init 28 = .ok (.aload_n 0, 1) := by decide +kernel
theorem dX7_init_29 : decode cX7_init 29 = .ok (.bipush 9, 2) := by decide +kernel
theorem dX7_init_31 : decode cX7_init 31 = .ok (.newarray .int, 2) := by decide +kernel
theorem dX7_init_33 : decode cX7_init 33 = .ok (.putfield 19, 3) := by decide +kernel
theorem dX7_init_36 : decode cX7_init 36 = .ok (.aload_n 0, 1) := by decide +kernel
theorem dX7_init_37 : decode cX7_init 37 = .ok (.bipush 9, 2) := by decide +kernel
theorem dX7_init_39 : decode cX7_init 39 = .ok (.newarray .int, 2) := by decide +kernel
theorem dX7_init_41 : decode cX7_init 41 = .ok (.putfield 22, 3) := by decide +kernel
theorem dX7_init_44 : decode cX7_init 44 = .ok (.aload_n 0, 1) := by decide +kernel
theorem dX7_init_45 : decode cX7_init 45 = .ok (.bipush 9, 2) := by decide +kernel
theorem dX7_init_47 : decode cX7_init 47 = .ok (.newarray .int, 2) := by decide +kernel
theorem dX7_init_49 : decode cX7_init 49 = .ok (.putfield 25, 3) := by decide +kernel
theorem dX7_init_52 : decode cX7_init 52 = .ok (.aload_n 0, 1) := by decide +kernel
theorem dX7_init_53 : decode cX7_init 53 = .ok (.bipush 9, 2) := by decide +kernel
theorem dX7_init_55 : decode cX7_init 55 = .ok (.newarray .int, 2) := by decide +kernel
theorem dX7_init_57 : decode cX7_init 57 = .ok (.putfield 28, 3) := by decide +kernel
theorem dX7_init_60 : decode cX7_init 60 = .ok (.aload_n 0, 1) := by decide +kernel
theorem dX7_init_61 : decode cX7_init 61 = .ok (.bipush 7, 2) := by decide +kernel
theorem dX7_init_63 : decode cX7_init 63 = .ok (.newarray .int, 2) := by decide +kernel
theorem dX7_init_65 : decode cX7_init 65 = .ok (.putfield 31, 3) := by decide +kernel
theorem dX7_init_68 : decode cX7_init 68 = .ok (.aload_n 0, 1) := by decide +kernel
theorem dX7_init_69 : decode cX7_init 69 = .ok (.bipush 7, 2) := by decide +kernel
theorem dX7_init_71 : decode cX7_init 71 = .ok (.newarray .int, 2) := by decide +kernel
theorem dX7_init_73 : decode cX7_init 73 = .ok (.putfield 34, 3) := by decide +kernel
theorem dX7_init_76 : decode cX7_init 76 = .ok (.aload_n 0, 1) := by decide +kernel
theorem dX7_init_77 : decode cX7_init 77 = .ok (.bipush 7, 2) := by decide +kernel
theorem dX7_init_79 : decode cX7_init 79 = .ok (.newarray .int, 2) := by decide +kernel
theorem dX7_init_81 : decode cX7_init 81 = .ok (.putfield 37, 3) := by decide +kernel
theorem dX7_init_84 : decode cX7_init 84 = .ok (.aload_n 0, 1) := by decide +kernel
theorem dX7_init_85 : decode cX7_init 85 = .ok (.sipush 5040, 3) := by decide +kernel
theorem dX7_init_88 : decode cX7_init 88 = .ok (.newarray .int, 2) := by decide +kernel
theorem dX7_init_90 : decode cX7_init 90 = .ok (.putfield 40, 3) := by decide +kernel
theorem dX7_init_93 : decode cX7_init 93 = .ok (.aload_n 0, 1) := by decide +kernel
theorem dX7_init_94 : decode cX7_init 94 = .ok (.bipush 7, 2) := by decide +kernel
theorem dX7_init_96 : decode cX7_init 96 = .ok (.newarray .int, 2) := by decide +kernel
theorem dX7_init_98 : decode cX7_init 98 = .ok (.putfield 43, 3) := by decide +kernel
theorem dX7_init_101 : decode cX7_init 101 = .ok (.aload_n 0, 1) := by decide +kernel
theorem dX7_init_102 : decode cX7_init 102 = .ok (.sipush 128, 3) := by decide +kernel
theorem dX7_init_105 : decode cX7_init 105 = .ok (.newarray .int, 2) := by decide +kernel
theorem dX7_init_107 : decode cX7_init 107 = .ok (.putfield 46, 3) := by decide +kernel
theorem dX7_init_110 : decode cX7_init 110 = .ok (.aload_n 0, 1) := by decide +kernel
theorem dX7_init_111 : decode cX7_init 111 = .ok (.bipush 12, 2) := by decide +kernel
theorem dX7_init_113 : decode cX7_init 113 = .ok (.newarray .int, 2) := by decide +kernel
theorem dX7_init_115 : decode cX7_init 115 = .ok (.putfield 49, 3) := by decide +kernel
theorem dX7_init_118 : decode cX7_init 118 = .ok (.aload_n 0, 1) := by decide +kernel
theorem dX7_init_119 : decode cX7_init 119 = .ok (.bipush 16, 2) := by decide +kernel
theorem dX7_init_121 : decode cX7_init 121 = .ok (.newarray .int, 2) := by decide +kernel
theorem dX7_init_123 : decode cX7_init 123 = .ok (.putfield 52, 3) := by decide +kernel
theorem dX7_init_126 : decode cX7_init 126 = .ok (.return_, 1) := by decide +kernel
theorem dX7_atom_0 : decode cX7_atom 0 = .ok (.iload_n 1, 1) := by decide +kernel
theorem dX7_atom_1 : decode cX7_atom 1 = .ok (.ifCond .lt 22, 3) := by decide +kernel
theorem dX7_atom_4 : decode cX7_atom 4 = .ok (.iload_n 1, 1) := by decide +kernel
theorem dX7_atom_5 : decode cX7_atom 5 = .ok (.iconst 5, 1) := by decide +kernel
theorem dX7_atom_6 : decode cX7_atom 6 = .ok (.if_icmp .gt 17, 3) := by decide +kernel
theorem dX7_atom_9 : decode cX7_atom 9 = .ok (.iload_n 2, 1) := by decide +kernel
theorem dX7_atom_10 : decode cX7_atom 10 = .ok (.invokestatic 62, 3) := by decide +kernel
theorem dX7_atom_13 : decode cX7_atom 13 = .ok (.ifCond .eq 10, 3) := by decide +kernel
theorem dX7_atom_16 : decode cX7_atom 16 = .ok (.iload_n 3, 1) := by decide +kernel
theorem dX7_atom_17 : decode cX7_atom 17 = .ok (.invokestatic 62, 3) := by decide +kernel
theorem dX7_atom_20 : decode cX7_atom 20 = .ok (.ifCond .ne 5, 3) := by decide +kernel
theorem dX7_atom_23 : decode cX7_atom 23 = .ok (.iconst (-1), 1) := by decide +kernel
theorem dX7_atom_24 : decode cX7_atom 24 = .ok (.ireturn, 1) := by decide +kernel
theorem dX7_atom_25 : decode cX7_atom 25 = .ok (.aload_n 0, 1) := by decide +kernel
theorem dX7_atom_26 : decode cX7_atom 26 = .ok (.getfield 55, 3) := by decide +kernel
theorem dX7_atom_29 : decode cX7_atom 29 = .ok (.bipush 7, 2) := by decide +kernel
theorem dX7_atom_31 : decode cX7_atom 31 = .ok (.if_icmp .ne 6, 3) := by decide +kernel
theorem dX7_atom_34 : decode cX7_atom 34 = .ok (.bipush (-2), 2) := by decide +kernel
theorem dX7_atom_36 : decode cX7_atom 36 = .ok (.ireturn, 1) := by decide +kernel
theorem dX7_atom_37 : decode cX7_atom 37 = .ok (.aload_n 0, 1) := by decide +kernel
theorem dX7_atom_38 : decode cX7_atom 38 = .ok (.getfield 7, 3) := by decide +kernel
theorem dX7_atom_41 : decode cX7_atom 41 = .ok (.aload_n 0, 1) := by decide +kernel
theorem dX7_atom_42 : decode cX7_atom 42 = .ok (.getfield 55, 3) := by decide +kernel
theorem dX7_atom_45 : decode cX7_atom 45 = .ok (.iload_n 1, 1) := by decide +kernel
theorem dX7_atom_46 : decode cX7_atom 46 = .ok (.iastore, 1) := by decide +kernel
theorem dX7_atom_47 : decode cX7_atom 47 = .ok (.aload_n 0, 1) := by decide +kernel
theorem dX7_atom_48 : decode cX7_atom 48 = .ok (.getfield 13, 3) := by decide +kernel
theorem dX7_atom_51 : decode cX7_atom 51 = .ok (.aload_n 0, 1) := by decide +kernel
theorem dX7_atom_52 : decode cX7_atom 52 = .ok (.getfield 55, 3) := by decide +kernel
theorem dX7_atom_55 : decode cX7_atom 55 = .ok (.iload_n 2, 1) := by decide +kernel
theorem dX7_atom_56 : decode cX7_atom 56 = .ok (.iastore, 1) := by decide +kernel
theorem dX7_atom_57 : decode cX7_atom 57 = .ok (.aload_n 0, 1) := by decide +kernel
theorem dX7_atom_58 : decode cX7_atom 58 = .ok (.getfield 16, 3) := by decide +kernel
theorem dX7_atom_61 : decode cX7_atom 61 = .ok (.aload_n 0, 1) := by decide +kernel
theorem dX7_atom_62 : decode cX7_atom 62 = .ok (.getfield 55, 3) := by decide +kernel
theorem dX7_atom_65 : decode cX7_atom 65 = .ok (.iload_n 3, 1) := by decide +kernel
theorem dX7_atom_66 : decode cX7_atom 66 = .ok (.iastore, 1) := by decide +kernel
theorem dX7_atom_67 : decode cX7_atom 67 = .ok (.aload_n 0, 1) := by decide +kernel
theorem dX7_atom_68 : decode cX7_atom 68 = .ok (.dup, 1) := by decide +kernel
theorem dX7_atom_69 : decode cX7_atom 69 = .ok (.getfield 55, 3) := by decide +kernel
theorem dX7_atom_72 : decode cX7_atom 72 = .ok (.iconst 1, 1) := by decide +kernel
theorem dX7_atom_73 : decode cX7_atom 73 = .ok (.iadd, 1) := by decide +kernel
theorem dX7_atom_74 : decode cX7_atom 74 = .ok (.putfield 55, 3) := by decide +kernel
theorem dX7_atom_77 : decode cX7_atom 77 = .ok (.aload_n 0, 1) := by decide +kernel
theorem dX7_atom_78 : decode cX7_atom 78 = .ok (.iconst 0, 1) := by decide +kernel
theorem dX7_atom_79 : decode cX7_atom 79 = .ok (.putfield 66, 3) := by decide +kernel
theorem dX7_atom_82 : decode cX7_atom 82 = .ok (.aload_n 0, 1) := by decide +kernel
theorem dX7_atom_83 : decode cX7_atom 83 = .ok (.getfield 55, 3) := by decide +kernel
theorem dX7_atom_86 : decode cX7_atom 86 = .ok (.iconst 1, 1) := by decide +kernel
theorem dX7_atom_87 : decode cX7_atom 87 = .ok (.isub, 1) := by decide +kernel
theorem dX7_atom_88 : decode cX7_atom 88 = .ok (.ireturn, 1) := by decide +kernel
theorem dX7_isPlace_0 : decode cX7_isPlace 0 = .ok (.iload_n 0, 1) := by decide +kernel
theorem dX7_isPlace_1 : decode cX7_isPlace 1 = .ok (.sipush (-1000), 3) := by decide +kernel
theorem dX7_isPlace_4 : decode cX7_isPlace 4 = .ok (.if_icmp .lt 14, 3) := by decide +kernel
theorem dX7_isPlace_7 : decode cX7_isPlace 7 = .ok (.iload_n 0, 1) := by decide +kernel
theorem dX7_isPlace_8 : decode cX7_isPlace 8 = .ok (.sipush 1000, 3) := by decide +kernel
theorem dX7_isPlace_11 : decode cX7_isPlace 11 = .ok (.if_icmp .gt 7, 3) := by decide +kernel
theorem dX7_isPlace_14 : decode cX7_isPlace 14 = .ok (.iconst 1, 1) := by decide +kernel
theorem dX7_isPlace_15 : decode cX7_isPlace 15 = .ok (.goto 4, 3) := by decide +kernel
theorem dX7_isPlace_18 : decode cX7_isPlace 18 = .ok (.iconst 0, 1) := by decide +kernel
theorem dX7_isPlace_19 : decode cX7_isPlace 19 = .ok (.ireturn, 1) := by decide +kernel
theorem dX7_bond_0 : decode cX7_bond 0 = .ok (.aload_n 0, 1) := by decide +kernel
theorem dX7_bond_1 : decode cX7_bond 1 = .ok (.iload_n 1, 1) := by decide +kernel
theorem dX7_bond_2 : decode cX7_bond 2 = .ok (.invokevirtual 74, 3) := by decide +kernel
theorem dX7_bond_5 : decode cX7_bond 5 = .ok (.ifCond .eq 46, 3) := by decide +kernel
theorem dX7_bond_8 : decode cX7_bond 8 = .ok (.aload_n 0, 1) := by decide +kernel
theorem dX7_bond_9 : decode cX7_bond 9 = .ok (.iload_n 2, 1) := by decide +kernel
theorem dX7_bond_10 : decode cX7_bond 10 = .ok (.invokevirtual 74, 3) := by decide +kernel
theorem dX7_bond_13 : decode cX7_bond 13 = .ok (.ifCond .eq 38, 3) := by decide +kernel
theorem dX7_bond_16 : decode cX7_bond 16 = .ok (.iload_n 1, 1) := by decide +kernel
theorem dX7_bond_17 : decode cX7_bond 17 = .ok (.iload_n 2, 1) := by decide +kernel
theorem dX7_bond_18 : decode cX7_bond 18 = .ok (.if_icmp .eq 33, 3) := by decide +kernel
theorem dX7_bond_21 : decode cX7_bond 21 = .ok (.iload_n 3, 1) := by decide +kernel
theorem dX7_bond_22 : decode cX7_bond 22 = .ok (.iconst 1, 1) := by decide +kernel
theorem dX7_bond_23 : decode cX7_bond 23 = .ok (.if_icmp .lt 28, 3) := by decide +kernel
theorem dX7_bond_26 : decode cX7_bond 26 = .ok (.iload_n 3, 1) := by decide +kernel
theorem dX7_bond_27 : decode cX7_bond 27 = .ok (.iconst 3, 1) := by decide +kernel
theorem dX7_bond_28 : decode cX7_bond 28 = .ok (.if_icmp .gt 23, 3) := by decide +kernel
theorem dX7_bond_31 : decode cX7_bond 31 = .ok (.iload 4, 2) := by decide +kernel
theorem dX7_bond_33 : decode cX7_bond 33 = .ok (.ifCond .lt 18, 3) := by decide +kernel
theorem dX7_bond_36 : decode cX7_bond 36 = .ok (.iload 4, 2) := by decide +kernel
theorem dX7_bond_38 : decode cX7_bond 38 = .ok (.iconst 2, 1) := by decide +kernel
theorem dX7_bond_39 : decode cX7_bond 39 = .ok (.if_icmp .gt 12, 3) := by decide +kernel
theorem dX7_bond_42 : decode cX7_bond 42 = .ok (.aload_n 0, 1) := by decide +kernel
theorem dX7_bond_43 : decode cX7_bond 43 = .ok (.iload_n 1, 1) := by decide +kernel
theorem dX7_bond_44 : decode cX7_bond 44 = .ok (.iload_n 2, 1) := by decide +kernel
theorem dX7_bond_45 : decode cX7_bond 45 = .ok (.invokevirtual 77, 3) := by decide +kernel
theorem dX7_bond_48 : decode cX7_bond 48 = .ok (.ifCond .lt 5, 3) := by decide +kernel
theorem dX7_bond_51 : decode cX7_bond 51 = .ok (.iconst (-1), 1) := by decide +kernel
theorem dX7_bond_52 : decode cX7_bond 52 = .ok (.ireturn, 1) := by decide +kernel
theorem dX7_bond_53 : decode cX7_bond 53 = .ok (.aload_n 0, 1) := by decide +kernel
theorem dX7_bond_54 : decode cX7_bond 54 = .ok (.getfield 59, 3) := by decide +kernel
theorem dX7_bond_57 : decode cX7_bond 57 = .ok (.bipush 9, 2) := by decide +kernel
theorem dX7_bond_59 : decode cX7_bond 59 = .ok (.if_icmp .ne 6, 3) := by decide +kernel
theorem dX7_bond_62 : decode cX7_bond 62 = .ok (.bipush (-2), 2) := by decide +kernel
theorem dX7_bond_64 : decode cX7_bond 64 = .ok (.ireturn, 1) := by decide +kernel
theorem dX7_bond_65 : decode cX7_bond 65 = .ok (.aload_n 0, 1) := by decide +kernel
theorem dX7_bond_66 : decode cX7_bond 66 = .ok (.iload_n 1, 1) := by decide +kernel
theorem dX7_bond_67 : decode cX7_bond 67 = .ok (.invokevirtual 81, 3) := by decide +kernel
theorem dX7_bond_70 : decode cX7_bond 70 = .ok (.iload_n 3, 1) := by decide +kernel
theorem dX7_bond_71 : decode cX7_bond 71 = .ok (.if_icmp .lt 12, 3) := by decide +kernel
theorem dX7_bond_74 : decode cX7_bond 74 = .ok (.aload_n 0, 1) := by decide +kernel
theorem dX7_bond_75 : decode cX7_bond 75 = .ok (.iload_n 2, 1) := by decide +kernel
theorem dX7_bond_76 : decode cX7_bond 76 = .ok (.invokevirtual 81, 3) := by decide +kernel
theorem dX7_bond_79 : decode cX7_bond 79 = .ok (.iload_n 3, 1) := by decide +kernel
theorem dX7_bond_80 : decode cX7_bond 80 = .ok (.if_icmp .ge 6, 3) := by decide +kernel
theorem dX7_bond_83 : decode cX7_bond 83 = .ok (.bipush (-3), 2) := by decide +kernel
theorem dX7_bond_85 : decode cX7_bond 85 = .ok (.ireturn, 1) := by decide +kernel
theorem dX7_bond_86 : decode cX7_bond 86 = .ok (.aload_n 0, 1) := by decide +kernel
theorem dX7_bond_87 : decode cX7_bond 87 = .ok (.getfield 19, 3) := by decide +kernel
theorem dX7_bond_90 : decode cX7_bond 90 = .ok (.aload_n 0, 1) := by decide +kernel
theorem dX7_bond_91 : decode cX7_bond 91 = .ok (.getfield 59, 3) := by decide +kernel
theorem dX7_bond_94 : decode cX7_bond 94 = .ok (.iload_n 1, 1) := by decide +kernel
theorem dX7_bond_95 : decode cX7_bond 95 = .ok (.iastore, 1) := by decide +kernel
theorem dX7_bond_96 : decode cX7_bond 96 = .ok (.aload_n 0, 1) := by decide +kernel
theorem dX7_bond_97 : decode cX7_bond 97 = .ok (.getfield 22, 3) := by decide +kernel
theorem dX7_bond_100 : decode cX7_bond 100 = .ok (.aload_n 0, 1) := by decide +kernel
theorem dX7_bond_101 : decode cX7_bond 101 = .ok (.getfield 59, 3) := by decide +kernel
theorem dX7_bond_104 : decode cX7_bond 104 = .ok (.iload_n 2, 1) := by decide +kernel
theorem dX7_bond_105 : decode cX7_bond 105 = .ok (.iastore, 1) := by decide +kernel
theorem dX7_bond_106 : decode cX7_bond 106 = .ok (.aload_n 0, 1) := by decide +kernel
theorem dX7_bond_107 : decode cX7_bond 107 = .ok (.getfield 25, 3) := by decide +kernel
theorem dX7_bond_110 : decode cX7_bond 110 = .ok (.aload_n 0, 1) := by decide +kernel
theorem dX7_bond_111 : decode cX7_bond 111 = .ok (.getfield 59, 3) := by decide +kernel
theorem dX7_bond_114 : decode cX7_bond 114 = .ok (.iload_n 3, 1) := by decide +kernel
theorem dX7_bond_115 : decode cX7_bond 115 = .ok (.iastore, 1) := by decide +kernel
theorem dX7_bond_116 : decode cX7_bond 116 = .ok (.aload_n 0, 1) := by decide +kernel
theorem dX7_bond_117 : decode cX7_bond 117 = .ok (.getfield 28, 3) := by decide +kernel
theorem dX7_bond_120 : decode cX7_bond 120 = .ok (.aload_n 0, 1) := by decide +kernel
theorem dX7_bond_121 : decode cX7_bond 121 = .ok (.getfield 59, 3) := by decide +kernel
theorem dX7_bond_124 : decode cX7_bond 124 = .ok (.iload 4, 2) := by decide +kernel
theorem dX7_bond_126 : decode cX7_bond 126 = .ok (.iastore, 1) := by decide +kernel
theorem dX7_bond_127 : decode cX7_bond 127 = .ok (.aload_n 0, 1) := by decide +kernel
theorem dX7_bond_128 : decode cX7_bond 128 = .ok (.dup, 1) := by decide +kernel
theorem dX7_bond_129 : decode cX7_bond 129 = .ok (.getfield 59, 3) := by decide +kernel
theorem dX7_bond_132 : decode cX7_bond 132 = .ok (.iconst 1, 1) := by decide +kernel
theorem dX7_bond_133 : decode cX7_bond 133 = .ok (.iadd, 1) := by decide +kernel
theorem dX7_bond_134 : decode cX7_bond 134 = .ok (.putfield 59, 3) := by decide +kernel
theorem dX7_bond_137 : decode cX7_bond 137 = .ok (.aload_n 0, 1) := by decide +kernel
theorem dX7_bond_138 : decode cX7_bond 138 = .ok (.iconst 0, 1) := by decide +kernel
theorem dX7_bond_139 : decode cX7_bond 139 = .ok (.putfield 66, 3) := by decide +kernel
theorem dX7_bond_142 : decode cX7_bond 142 = .ok (.aload_n 0, 1) := by decide +kernel
theorem dX7_bond_143 : decode cX7_bond 143 = .ok (.getfield 59, 3) := by decide +kernel
theorem dX7_bond_146 : decode cX7_bond 146 = .ok (.iconst 1, 1) := by decide +kernel
theorem dX7_bond_147 : decode cX7_bond 147 = .ok (.isub, 1) := by decide +kernel
theorem dX7_bond_148 : decode cX7_bond 148 = .ok (.ireturn, 1) := by decide +kernel
theorem dX7_isAtom_0 : decode cX7_isAtom 0 = .ok (.iload_n 1, 1) := by decide +kernel
theorem dX7_isAtom_1 : decode cX7_isAtom 1 = .ok (.ifCond .lt 15, 3) := by decide +kernel
theorem dX7_isAtom_4 : decode cX7_isAtom 4 = .ok (.iload_n 1, 1) := by decide +kernel
theorem dX7_isAtom_5 : decode cX7_isAtom 5 = .ok (.aload_n 0, 1) := by decide +kernel
theorem dX7_isAtom_6 : decode cX7_isAtom 6 = .ok (.getfield 55, 3) := by decide +kernel
theorem dX7_isAtom_9 : decode cX7_isAtom 9 = .ok (.if_icmp .ge 7, 3) := by decide +kernel
theorem dX7_isAtom_12 : decode cX7_isAtom 12 = .ok (.iconst 1, 1) := by decide +kernel
theorem dX7_isAtom_13 : decode cX7_isAtom 13 = .ok (.goto 4, 3) := by decide +kernel
theorem dX7_isAtom_16 : decode cX7_isAtom 16 = .ok (.iconst 0, 1) := by decide +kernel
theorem dX7_isAtom_17 : decode cX7_isAtom 17 = .ok (.ireturn, 1) := by decide +kernel
theorem dX7_bondOf_0 : decode cX7_bondOf 0 = .ok (.iconst (-1), 1) := by decide +kernel
theorem dX7_bondOf_1 : decode cX7_bondOf 1 = .ok (.istore_n 3, 1) := by decide +kernel
theorem dX7_bondOf_2 : decode cX7_bondOf 2 = .ok (.iconst 0, 1) := by decide +kernel
theorem dX7_bondOf_3 : decode cX7_bondOf 3 = .ok (.istore 4, 2) := by decide +kernel
theorem dX7_bondOf_5 : decode cX7_bondOf 5 = .ok (.iload 4, 2) := by decide +kernel
theorem dX7_bondOf_7 : decode cX7_bondOf 7 = .ok (.aload_n 0, 1) := by decide +kernel
theorem dX7_bondOf_8 : decode cX7_bondOf 8 = .ok (.getfield 59, 3) := by decide +kernel
theorem dX7_bondOf_11 : decode cX7_bondOf 11 = .ok (.if_icmp .ge 60, 3) := by decide +kernel
theorem dX7_bondOf_14 : decode cX7_bondOf 14 = .ok (.aload_n 0, 1) := by decide +kernel
theorem dX7_bondOf_15 : decode cX7_bondOf 15 = .ok (.getfield 19, 3) := by decide +kernel
theorem dX7_bondOf_18 : decode cX7_bondOf 18 = .ok (.iload 4, 2) := by decide +kernel
theorem dX7_bondOf_20 : decode cX7_bondOf 20 = .ok (.iaload, 1) := by decide +kernel
theorem dX7_bondOf_21 : decode cX7_bondOf 21 = .ok (.iload_n 1, 1) := by decide +kernel
theorem dX7_bondOf_22 : decode cX7_bondOf 22 = .ok (.if_icmp .ne 14, 3) := by decide +kernel
theorem dX7_bondOf_25 : decode cX7_bondOf 25 = .ok (.aload_n 0, 1) := by decide +kernel
theorem dX7_bondOf_26 : decode cX7_bondOf 26 = .ok (.getfield 22, 3) := by decide +kernel
theorem dX7_bondOf_29 : decode cX7_bondOf 29 = .ok (.iload 4, 2) := by decide +kernel
theorem dX7_bondOf_31 : decode cX7_bondOf 31 = .ok (.iaload, 1) := by decide +kernel
theorem dX7_bondOf_32 : decode cX7_bondOf 32 = .ok (.iload_n 2, 1) := by decide +kernel
theorem dX7_bondOf_33 : decode cX7_bondOf 33 = .ok (.if_icmp .eq 25, 3) := by decide +kernel
theorem dX7_bondOf_36 : decode cX7_bondOf 36 = .ok (.aload_n 0, 1) := by decide +kernel
theorem dX7_bondOf_37 : decode cX7_bondOf 37 = .ok (.getfield 19, 3) := by decide +kernel
theorem dX7_bondOf_40 : decode cX7_bondOf 40 = .ok (.iload 4, 2) := by decide +kernel
theorem dX7_bondOf_42 : decode cX7_bondOf 42 = .ok (.iaload, 1) := by decide +kernel
theorem dX7_bondOf_43 : decode cX7_bondOf 43 = .ok (.iload_n 2, 1) := by decide +kernel
theorem dX7_bondOf_44 : decode cX7_bondOf 44 = .ok (.if_icmp .ne 19, 3) := by decide +kernel
theorem dX7_bondOf_47 : decode cX7_bondOf 47 = .ok (.aload_n 0, 1) := by decide +kernel
theorem dX7_bondOf_48 : decode cX7_bondOf 48 = .ok (.getfield 22, 3) := by decide +kernel
theorem dX7_bondOf_51 : decode cX7_bondOf 51 = .ok (.iload 4, 2) := by decide +kernel
theorem dX7_bondOf_53 : decode cX7_bondOf 53 = .ok (.iaload, 1) := by decide +kernel
theorem dX7_bondOf_54 : decode cX7_bondOf 54 = .ok (.iload_n 1, 1) := by decide +kernel
theorem dX7_bondOf_55 : decode cX7_bondOf 55 = .ok (.if_icmp .ne 8, 3) := by decide +kernel
theorem dX7_bondOf_58 : decode cX7_bondOf 58 = .ok (.iload 4, 2) := by decide +kernel
theorem dX7_bondOf_60 : decode cX7_bondOf 60 = .ok (.goto 4, 3) := by decide +kernel
theorem dX7_bondOf_63 : decode cX7_bondOf 63 = .ok (.iload_n 3, 1) := by decide +kernel
theorem dX7_bondOf_64 : decode cX7_bondOf 64 = .ok (.istore_n 3, 1) := by decide +kernel
theorem dX7_bondOf_65 : decode cX7_bondOf 65 = .ok (.iinc 4 1, 3) := by decide +kernel
theorem dX7_bondOf_68 : decode cX7_bondOf 68 = .ok (.goto (-63), 3) := by decide +kernel
theorem dX7_bondOf_71 : decode cX7_bondOf 71 = .ok (.iload_n 3, 1) := by decide +kernel
theorem dX7_bondOf_72 : decode cX7_bondOf 72 = .ok (.ireturn, 1) := by decide +kernel
theorem dX7_left_0 : decode cX7_left 0 = .ok (.aload_n 0, 1) := by decide +kernel
theorem dX7_left_1 : decode cX7_left 1 = .ok (.getfield 7, 3) := by decide +kernel
theorem dX7_left_4 : decode cX7_left 4 = .ok (.iload_n 1, 1) := by decide +kernel
theorem dX7_left_5 : decode cX7_left 5 = .ok (.iaload, 1) := by decide +kernel
theorem dX7_left_6 : decode cX7_left 6 = .ok (.invokestatic 70, 3) := by decide +kernel
theorem dX7_left_9 : decode cX7_left 9 = .ok (.istore_n 2, 1) := by decide +kernel
theorem dX7_left_10 : decode cX7_left 10 = .ok (.iconst 0, 1) := by decide +kernel
theorem dX7_left_11 : decode cX7_left 11 = .ok (.istore_n 3, 1) := by decide +kernel
theorem dX7_left_12 : decode cX7_left 12 = .ok (.iload_n 3, 1) := by decide +kernel
theorem dX7_left_13 : decode cX7_left 13 = .ok (.aload_n 0, 1) := by decide +kernel
theorem dX7_left_14 : decode cX7_left 14 = .ok (.getfield 59, 3) := by decide +kernel
theorem dX7_left_17 : decode cX7_left 17 = .ok (.if_icmp .ge 42, 3) := by decide +kernel
theorem dX7_left_20 : decode cX7_left 20 = .ok (.iload_n 2, 1) := by decide +kernel
theorem dX7_left_21 : decode cX7_left 21 = .ok (.aload_n 0, 1) := by decide +kernel
theorem dX7_left_22 : decode cX7_left 22 = .ok (.getfield 19, 3) := by decide +kernel
theorem dX7_left_25 : decode cX7_left 25 = .ok (.iload_n 3, 1) := by decide +kernel
theorem dX7_left_26 : decode cX7_left 26 = .ok (.iaload, 1) := by decide +kernel
theorem dX7_left_27 : decode cX7_left 27 = .ok (.iload_n 1, 1) := by decide +kernel
theorem dX7_left_28 : decode cX7_left 28 = .ok (.if_icmp .eq 13, 3) := by decide +kernel
theorem dX7_left_31 : decode cX7_left 31 = .ok (.aload_n 0, 1) := by decide +kernel
theorem dX7_left_32 : decode cX7_left 32 = .ok (.getfield 22, 3) := by decide +kernel
theorem dX7_left_35 : decode cX7_left 35 = .ok (.iload_n 3, 1) := by decide +kernel
theorem dX7_left_36 : decode cX7_left 36 = .ok (.iaload, 1) := by decide +kernel
theorem dX7_left_37 : decode cX7_left 37 = .ok (.iload_n 1, 1) := by decide +kernel
theorem dX7_left_38 : decode cX7_left 38 = .ok (.if_icmp .ne 12, 3) := by decide +kernel
theorem dX7_left_41 : decode cX7_left 41 = .ok (.aload_n 0, 1) := by decide +kernel
theorem dX7_left_42 : decode cX7_left 42 = .ok (.getfield 25, 3) := by decide +kernel
theorem dX7_left_45 : decode cX7_left 45 = .ok (.iload_n 3, 1) := by decide +kernel
theorem dX7_left_46 : decode cX7_left 46 = .ok (.iaload, 1) := by decide +kernel
theorem dX7_left_47 : decode cX7_left 47 = .ok (.goto 4, 3) := by decide +kernel
theorem dX7_left_50 : decode cX7_left 50 = .ok (.iconst 0, 1) := by decide +kernel
theorem dX7_left_51 : decode cX7_left 51 = .ok (.isub, 1) := by decide +kernel
theorem dX7_left_52 : decode cX7_left 52 = .ok (.istore_n 2, 1) := by decide +kernel
theorem dX7_left_53 : decode cX7_left 53 = .ok (.iinc 3 1, 3) := by decide +kernel
theorem dX7_left_56 : decode cX7_left 56 = .ok (.goto (-44), 3) := by decide +kernel
theorem dX7_left_59 : decode cX7_left 59 = .ok (.iload_n 2, 1) := by decide +kernel
theorem dX7_left_60 : decode cX7_left 60 = .ok (.ireturn, 1) := by decide +kernel
theorem dX7_valence_0 : decode cX7_valence 0 = .ok (.iload_n 0, 1) := by decide +kernel
theorem dX7_valence_1 : decode cX7_valence 1 = .ok (.ifCond .ne 7, 3) := by decide +kernel
theorem dX7_valence_4 : decode cX7_valence 4 = .ok (.iconst 4, 1) := by decide +kernel
theorem dX7_valence_5 : decode cX7_valence 5 = .ok (.goto 27, 3) := by decide +kernel
theorem dX7_valence_8 : decode cX7_valence 8 = .ok (.iload_n 0, 1) := by decide +kernel
theorem dX7_valence_9 : decode cX7_valence 9 = .ok (.iconst 1, 1) := by decide +kernel
theorem dX7_valence_10 : decode cX7_valence 10 = .ok (.if_icmp .ne 7, 3) := by decide +kernel
theorem dX7_valence_13 : decode cX7_valence 13 = .ok (.iconst 3, 1) := by decide +kernel
theorem dX7_valence_14 : decode cX7_valence 14 = .ok (.goto 18, 3) := by decide +kernel
theorem dX7_valence_17 : decode cX7_valence 17 = .ok (.iload_n 0, 1) := by decide +kernel
theorem dX7_valence_18 : decode cX7_valence 18 = .ok (.iconst 2, 1) := by decide +kernel
theorem dX7_valence_19 : decode cX7_valence 19 = .ok (.if_icmp .eq 8, 3) := by decide +kernel
theorem dX7_valence_22 : decode cX7_valence 22 = .ok (.iload_n 0, 1) := by decide +kernel
theorem dX7_valence_23 : decode cX7_valence 23 = .ok (.iconst 5, 1) := by decide +kernel
theorem dX7_valence_24 : decode cX7_valence 24 = .ok (.if_icmp .ne 7, 3) := by decide +kernel
theorem dX7_valence_27 : decode cX7_valence 27 = .ok (.iconst 2, 1) := by decide +kernel
theorem dX7_valence_28 : decode cX7_valence 28 = .ok (.goto 4, 3) := by decide +kernel
theorem dX7_valence_31 : decode cX7_valence 31 = .ok (.iconst 1, 1) := by decide +kernel
theorem dX7_valence_32 : decode cX7_valence 32 = .ok (.ireturn, 1) := by decide +kernel
theorem dX7_move_0 : decode cX7_move 0 = .ok (.aload_n 0, 1) := by decide +kernel
theorem dX7_move_1 : decode cX7_move 1 = .ok (.iload_n 1, 1) := by decide +kernel
theorem dX7_move_2 : decode cX7_move 2 = .ok (.invokevirtual 74, 3) := by decide +kernel
theorem dX7_move_5 : decode cX7_move 5 = .ok (.ifCond .eq 17, 3) := by decide +kernel
theorem dX7_move_8 : decode cX7_move 8 = .ok (.iload_n 2, 1) := by decide +kernel
theorem dX7_move_9 : decode cX7_move 9 = .ok (.invokestatic 62, 3) := by decide +kernel
theorem dX7_move_12 : decode cX7_move 12 = .ok (.ifCond .eq 10, 3) := by decide +kernel
theorem dX7_move_15 : decode cX7_move 15 = .ok (.iload_n 3, 1) := by decide +kernel
theorem dX7_move_16 : decode cX7_move 16 = .ok (.invokestatic 62, 3) := by decide +kernel
theorem dX7_move_19 : decode cX7_move 19 = .ok (.ifCond .ne 5, 3) := by decide +kernel
theorem dX7_move_22 : decode cX7_move 22 = .ok (.iconst 0, 1) := by decide +kernel
theorem dX7_move_23 : decode cX7_move 23 = .ok (.ireturn, 1) := by decide +kernel
theorem dX7_move_24 : decode cX7_move 24 = .ok (.aload_n 0, 1) := by decide +kernel
theorem dX7_move_25 : decode cX7_move 25 = .ok (.getfield 13, 3) := by decide +kernel
theorem dX7_move_28 : decode cX7_move 28 = .ok (.iload_n 1, 1) := by decide +kernel
theorem dX7_move_29 : decode cX7_move 29 = .ok (.iload_n 2, 1) := by decide +kernel
theorem dX7_move_30 : decode cX7_move 30 = .ok (.iastore, 1) := by decide +kernel
theorem dX7_move_31 : decode cX7_move 31 = .ok (.aload_n 0, 1) := by decide +kernel
theorem dX7_move_32 : decode cX7_move 32 = .ok (.getfield 16, 3) := by decide +kernel
theorem dX7_move_35 : decode cX7_move 35 = .ok (.iload_n 1, 1) := by decide +kernel
theorem dX7_move_36 : decode cX7_move 36 = .ok (.iload_n 3, 1) := by decide +kernel
theorem dX7_move_37 : decode cX7_move 37 = .ok (.iastore, 1) := by decide +kernel
theorem dX7_move_38 : decode cX7_move 38 = .ok (.iconst 1, 1) := by decide +kernel
theorem dX7_move_39 : decode cX7_move 39 = .ok (.ireturn, 1) := by decide +kernel
theorem dX7_mark_0 : decode cX7_mark 0 = .ok (.aload_n 0, 1) := by decide +kernel
theorem dX7_mark_1 : decode cX7_mark 1 = .ok (.iload_n 1, 1) := by decide +kernel
theorem dX7_mark_2 : decode cX7_mark 2 = .ok (.invokevirtual 84, 3) := by decide +kernel
theorem dX7_mark_5 : decode cX7_mark 5 = .ok (.ifCond .eq 32, 3) := by decide +kernel
theorem dX7_mark_8 : decode cX7_mark 8 = .ok (.iload_n 2, 1) := by decide +kernel
theorem dX7_mark_9 : decode cX7_mark 9 = .ok (.ifCond .lt 28, 3) := by decide +kernel
theorem dX7_mark_12 : decode cX7_mark 12 = .ok (.iload_n 2, 1) := by decide +kernel
theorem dX7_mark_13 : decode cX7_mark 13 = .ok (.iconst 2, 1) := by decide +kernel
theorem dX7_mark_14 : decode cX7_mark 14 = .ok (.if_icmp .gt 23, 3) := by decide +kernel
theorem dX7_mark_17 : decode cX7_mark 17 = .ok (.aload_n 0, 1) := by decide +kernel
theorem dX7_mark_18 : decode cX7_mark 18 = .ok (.getfield 19, 3) := by decide +kernel
theorem dX7_mark_21 : decode cX7_mark 21 = .ok (.iload_n 1, 1) := by decide +kernel
theorem dX7_mark_22 : decode cX7_mark 22 = .ok (.iaload, 1) := by decide +kernel
theorem dX7_mark_23 : decode cX7_mark 23 = .ok (.iload_n 3, 1) := by decide +kernel
theorem dX7_mark_24 : decode cX7_mark 24 = .ok (.if_icmp .eq 15, 3) := by decide +kernel
theorem dX7_mark_27 : decode cX7_mark 27 = .ok (.aload_n 0, 1) := by decide +kernel
theorem dX7_mark_28 : decode cX7_mark 28 = .ok (.getfield 22, 3) := by decide +kernel
theorem dX7_mark_31 : decode cX7_mark 31 = .ok (.iload_n 1, 1) := by decide +kernel
theorem dX7_mark_32 : decode cX7_mark 32 = .ok (.iaload, 1) := by decide +kernel
theorem dX7_mark_33 : decode cX7_mark 33 = .ok (.iload_n 3, 1) := by decide +kernel
theorem dX7_mark_34 : decode cX7_mark 34 = .ok (.if_icmp .eq 5, 3) := by decide +kernel
theorem dX7_mark_37 : decode cX7_mark 37 = .ok (.iconst 0, 1) := by decide +kernel
theorem dX7_mark_38 : decode cX7_mark 38 = .ok (.ireturn, 1) := by decide +kernel
theorem dX7_mark_39 : decode cX7_mark 39 = .ok (.aload_n 0, 1) := by decide +kernel
theorem dX7_mark_40 : decode cX7_mark 40 = .ok (.getfield 19, 3) := by decide +kernel
theorem dX7_mark_43 : decode cX7_mark 43 = .ok (.iload_n 1, 1) := by decide +kernel
theorem dX7_mark_44 : decode cX7_mark 44 = .ok (.iaload, 1) := by decide +kernel
theorem dX7_mark_45 : decode cX7_mark 45 = .ok (.aload_n 0, 1) := by decide +kernel
theorem dX7_mark_46 : decode cX7_mark 46 = .ok (.getfield 22, 3) := by decide +kernel
theorem dX7_mark_49 : decode cX7_mark 49 = .ok (.iload_n 1, 1) := by decide +kernel
theorem dX7_mark_50 : decode cX7_mark 50 = .ok (.iaload, 1) := by decide +kernel
theorem dX7_mark_51 : decode cX7_mark 51 = .ok (.iadd, 1) := by decide +kernel
theorem dX7_mark_52 : decode cX7_mark 52 = .ok (.iload_n 3, 1) := by decide +kernel
theorem dX7_mark_53 : decode cX7_mark 53 = .ok (.isub, 1) := by decide +kernel
theorem dX7_mark_54 : decode cX7_mark 54 = .ok (.istore 4, 2) := by decide +kernel
theorem dX7_mark_56 : decode cX7_mark 56 = .ok (.aload_n 0, 1) := by decide +kernel
theorem dX7_mark_57 : decode cX7_mark 57 = .ok (.getfield 19, 3) := by decide +kernel
theorem dX7_mark_60 : decode cX7_mark 60 = .ok (.iload_n 1, 1) := by decide +kernel
theorem dX7_mark_61 : decode cX7_mark 61 = .ok (.iload_n 3, 1) := by decide +kernel
theorem dX7_mark_62 : decode cX7_mark 62 = .ok (.iastore, 1) := by decide +kernel
theorem dX7_mark_63 : decode cX7_mark 63 = .ok (.aload_n 0, 1) := by decide +kernel
theorem dX7_mark_64 : decode cX7_mark 64 = .ok (.getfield 22, 3) := by decide +kernel
theorem dX7_mark_67 : decode cX7_mark 67 = .ok (.iload_n 1, 1) := by decide +kernel
theorem dX7_mark_68 : decode cX7_mark 68 = .ok (.iload 4, 2) := by decide +kernel
theorem dX7_mark_70 : decode cX7_mark 70 = .ok (.iastore, 1) := by decide +kernel
theorem dX7_mark_71 : decode cX7_mark 71 = .ok (.aload_n 0, 1) := by decide +kernel
theorem dX7_mark_72 : decode cX7_mark 72 = .ok (.getfield 28, 3) := by decide +kernel
theorem dX7_mark_75 : decode cX7_mark 75 = .ok (.iload_n 1, 1) := by decide +kernel
theorem dX7_mark_76 : decode cX7_mark 76 = .ok (.iload_n 2, 1) := by decide +kernel
theorem dX7_mark_77 : decode cX7_mark 77 = .ok (.iastore, 1) := by decide +kernel
theorem dX7_mark_78 : decode cX7_mark 78 = .ok (.iconst 1, 1) := by decide +kernel
theorem dX7_mark_79 : decode cX7_mark 79 = .ok (.ireturn, 1) := by decide +kernel
theorem dX7_isBond_0 : decode cX7_isBond 0 = .ok (.iload_n 1, 1) := by decide +kernel
theorem dX7_isBond_1 : decode cX7_isBond 1 = .ok (.ifCond .lt 15, 3) := by decide +kernel
theorem dX7_isBond_4 : decode cX7_isBond 4 = .ok (.iload_n 1, 1) := by decide +kernel
theorem dX7_isBond_5 : decode cX7_isBond 5 = .ok (.aload_n 0, 1) := by decide +kernel
theorem dX7_isBond_6 : decode cX7_isBond 6 = .ok (.getfield 59, 3) := by decide +kernel
theorem dX7_isBond_9 : decode cX7_isBond 9 = .ok (.if_icmp .ge 7, 3) := by decide +kernel
theorem dX7_isBond_12 : decode cX7_isBond 12 = .ok (.iconst 1, 1) := by decide +kernel
theorem dX7_isBond_13 : decode cX7_isBond 13 = .ok (.goto 4, 3) := by decide +kernel
theorem dX7_isBond_16 : decode cX7_isBond 16 = .ok (.iconst 0, 1) := by decide +kernel
theorem dX7_isBond_17 : decode cX7_isBond 17 = .ok (.ireturn, 1) := by decide +kernel
theorem dX7_clear_0 : decode cX7_clear 0 = .ok (.aload_n 0, 1) := by decide +kernel
theorem dX7_clear_1 : decode cX7_clear 1 = .ok (.getfield 55, 3) := by decide +kernel
theorem dX7_clear_4 : decode cX7_clear 4 = .ok (.istore_n 1, 1) := by decide +kernel
theorem dX7_clear_5 : decode cX7_clear 5 = .ok (.aload_n 0, 1) := by decide +kernel
theorem dX7_clear_6 : decode cX7_clear 6 = .ok (.iconst 0, 1) := by decide +kernel
theorem dX7_clear_7 : decode cX7_clear 7 = .ok (.putfield 55, 3) := by decide +kernel
theorem dX7_clear_10 : decode cX7_clear 10 = .ok (.aload_n 0, 1) := by decide +kernel
theorem dX7_clear_11 : decode cX7_clear 11 = .ok (.iconst 0, 1) := by decide +kernel
theorem dX7_clear_12 : decode cX7_clear 12 = .ok (.putfield 59, 3) := by decide +kernel
theorem dX7_clear_15 : decode cX7_clear 15 = .ok (.aload_n 0, 1) := by decide +kernel
theorem dX7_clear_16 : decode cX7_clear 16 = .ok (.iconst 0, 1) := by decide +kernel
theorem dX7_clear_17 : decode cX7_clear 17 = .ok (.putfield 66, 3) := by decide +kernel
theorem dX7_clear_20 : decode cX7_clear 20 = .ok (.iload_n 1, 1) := by decide +kernel
theorem dX7_clear_21 : decode cX7_clear 21 = .ok (.ireturn, 1) := by decide +kernel
theorem dX7_flip_0 : decode cX7_flip 0 = .ok (.iconst 0, 1) := by decide +kernel
theorem dX7_flip_1 : decode cX7_flip 1 = .ok (.istore_n 1, 1) := by decide +kernel
theorem dX7_flip_2 : decode cX7_flip 2 = .ok (.iconst 0, 1) := by decide +kernel
theorem dX7_flip_3 : decode cX7_flip 3 = .ok (.istore_n 2, 1) := by decide +kernel
theorem dX7_flip_4 : decode cX7_flip 4 = .ok (.iload_n 2, 1) := by decide +kernel
theorem dX7_flip_5 : decode cX7_flip 5 = .ok (.aload_n 0, 1) := by decide +kernel
theorem dX7_flip_6 : decode cX7_flip 6 = .ok (.getfield 59, 3) := by decide +kernel
theorem dX7_flip_9 : decode cX7_flip 9 = .ok (.if_icmp .ge 53, 3) := by decide +kernel
theorem dX7_flip_12 : decode cX7_flip 12 = .ok (.iload_n 1, 1) := by decide +kernel
theorem dX7_flip_13 : decode cX7_flip 13 = .ok (.aload_n 0, 1) := by decide +kernel
theorem dX7_flip_14 : decode cX7_flip 14 = .ok (.getfield 28, 3) := by decide +kernel
theorem dX7_flip_17 : decode cX7_flip 17 = .ok (.iload_n 2, 1) := by decide +kernel
theorem dX7_flip_18 : decode cX7_flip 18 = .ok (.iaload, 1) := by decide +kernel
theorem dX7_flip_19 : decode cX7_flip 19 = .ok (.ifCond .le 7, 3) := by decide +kernel
theorem dX7_flip_22 : decode cX7_flip 22 = .ok (.iconst 1, 1) := by decide +kernel
theorem dX7_flip_23 : decode cX7_flip 23 = .ok (.goto 4, 3) := by decide +kernel
theorem dX7_flip_26 : decode cX7_flip 26 = .ok (.iconst 0, 1) := by decide +kernel
theorem dX7_flip_27 : decode cX7_flip 27 = .ok (.iadd, 1) := by decide +kernel
theorem dX7_flip_28 : decode cX7_flip 28 = .ok (.istore_n 1, 1) := by decide +kernel
theorem dX7_flip_29 : decode cX7_flip 29 = .ok (.aload_n 0, 1) := by decide +kernel
theorem dX7_flip_30 : decode cX7_flip 30 = .ok (.getfield 28, 3) := by decide +kernel
theorem dX7_flip_33 : decode cX7_flip 33 = .ok (.iload_n 2, 1) := by decide +kernel
theorem dX7_flip_34 : decode cX7_flip 34 = .ok (.aload_n 0, 1) := by decide +kernel
theorem dX7_flip_35 : decode cX7_flip 35 = .ok (.getfield 28, 3) := by decide +kernel
theorem dX7_flip_38 : decode cX7_flip 38 = .ok (.iload_n 2, 1) := by decide +kernel
theorem dX7_flip_39 : decode cX7_flip 39 = .ok (.iaload, 1) := by decide +kernel
theorem dX7_flip_40 : decode cX7_flip 40 = .ok (.ifCond .le 14, 3) := by decide +kernel
theorem dX7_flip_43 : decode cX7_flip 43 = .ok (.iconst 3, 1) := by decide +kernel
theorem dX7_flip_44 : decode cX7_flip 44 = .ok (.aload_n 0, 1) := by decide +kernel
theorem dX7_flip_45 : decode cX7_flip 45 = .ok (.getfield 28, 3) := by decide +kernel
theorem dX7_flip_48 : decode cX7_flip 48 = .ok (.iload_n 2, 1) := by decide +kernel
theorem dX7_flip_49 : decode cX7_flip 49 = .ok (.iaload, 1) := by decide +kernel
theorem dX7_flip_50 : decode cX7_flip 50 = .ok (.isub, 1) := by decide +kernel
theorem dX7_flip_51 : decode cX7_flip 51 = .ok (.goto 4, 3) := by decide +kernel
theorem dX7_flip_54 : decode cX7_flip 54 = .ok (.iconst 0, 1) := by decide +kernel
theorem dX7_flip_55 : decode cX7_flip 55 = .ok (.iastore, 1) := by decide +kernel
theorem dX7_flip_56 : decode cX7_flip 56 = .ok (.iinc 2 1, 3) := by decide +kernel
theorem dX7_flip_59 : decode cX7_flip 59 = .ok (.goto (-55), 3) := by decide +kernel
theorem dX7_flip_62 : decode cX7_flip 62 = .ok (.iload_n 1, 1) := by decide +kernel
theorem dX7_flip_63 : decode cX7_flip 63 = .ok (.ireturn, 1) := by decide +kernel
theorem dX7_hydrogens_0 : decode cX7_hydrogens 0 = .ok (.aload_n 0, 1) := by decide +kernel
theorem dX7_hydrogens_1 : decode cX7_hydrogens 1 = .ok (.iload_n 1, 1) := by decide +kernel
theorem dX7_hydrogens_2 : decode cX7_hydrogens 2 = .ok (.invokevirtual 74, 3) := by decide +kernel
theorem dX7_hydrogens_5 : decode cX7_hydrogens 5 = .ok (.ifCond .eq 11, 3) := by decide +kernel
theorem dX7_hydrogens_8 : decode cX7_hydrogens 8 = .ok (.aload_n 0, 1) := by decide +kernel
theorem dX7_hydrogens_9 : decode cX7_hydrogens 9 = .ok (.iload_n 1, 1) := by decide +kernel
theorem dX7_hydrogens_10 : decode cX7_hydrogens 10 = .ok (.invokevirtual 81, 3) := by decide +kernel
theorem dX7_hydrogens_13 : decode cX7_hydrogens 13 = .ok (.goto 4, 3) := by decide +kernel
theorem dX7_hydrogens_16 : decode cX7_hydrogens 16 = .ok (.iconst (-1), 1) := by decide +kernel
theorem dX7_hydrogens_17 : decode cX7_hydrogens 17 = .ok (.ireturn, 1) := by decide +kernel
theorem dX7_sense_0 : decode cX7_sense 0 = .ok (.aload_n 0, 1) := by decide +kernel
theorem dX7_sense_1 : decode cX7_sense 1 = .ok (.iload_n 1, 1) := by decide +kernel
theorem dX7_sense_2 : decode cX7_sense 2 = .ok (.invokevirtual 74, 3) := by decide +kernel
theorem dX7_sense_5 : decode cX7_sense 5 = .ok (.ifCond .ne 5, 3) := by decide +kernel
theorem dX7_sense_8 : decode cX7_sense 8 = .ok (.iconst (-1), 1) := by decide +kernel
theorem dX7_sense_9 : decode cX7_sense 9 = .ok (.ireturn, 1) := by decide +kernel
theorem dX7_sense_10 : decode cX7_sense 10 = .ok (.aload_n 0, 1) := by decide +kernel
theorem dX7_sense_11 : decode cX7_sense 11 = .ok (.invokevirtual 113, 3) := by decide +kernel
theorem dX7_sense_14 : decode cX7_sense 14 = .ok (.aload_n 0, 1) := by decide +kernel
theorem dX7_sense_15 : decode cX7_sense 15 = .ok (.iload_n 1, 1) := by decide +kernel
theorem dX7_sense_16 : decode cX7_sense 16 = .ok (.invokevirtual 116, 3) := by decide +kernel
theorem dX7_sense_19 : decode cX7_sense 19 = .ok (.iconst 1, 1) := by decide +kernel
theorem dX7_sense_20 : decode cX7_sense 20 = .ok (.iadd, 1) := by decide +kernel
theorem dX7_sense_21 : decode cX7_sense 21 = .ok (.aload_n 0, 1) := by decide +kernel
theorem dX7_sense_22 : decode cX7_sense 22 = .ok (.iload_n 1, 1) := by decide +kernel
theorem dX7_sense_23 : decode cX7_sense 23 = .ok (.invokevirtual 90, 3) := by decide +kernel
theorem dX7_sense_26 : decode cX7_sense 26 = .ok (.ifCond .eq 7, 3) := by decide +kernel
theorem dX7_sense_29 : decode cX7_sense 29 = .ok (.iconst 4, 1) := by decide +kernel
theorem dX7_sense_30 : decode cX7_sense 30 = .ok (.goto 4, 3) := by decide +kernel
theorem dX7_sense_33 : decode cX7_sense 33 = .ok (.iconst 0, 1) := by decide +kernel
theorem dX7_sense_34 : decode cX7_sense 34 = .ok (.iadd, 1) := by decide +kernel
theorem dX7_sense_35 : decode cX7_sense 35 = .ok (.ireturn, 1) := by decide +kernel
theorem dX7_ownNumbers_0 : decode cX7_ownNumbers 0 = .ok (.iconst 0, 1) := by decide +kernel
theorem dX7_ownNumbers_1 : decode cX7_ownNumbers 1 = .ok (.istore_n 1, 1) := by decide +kernel
theorem dX7_ownNumbers_2 : decode cX7_ownNumbers 2 = .ok (.iload_n 1, 1) := by decide +kernel
theorem dX7_ownNumbers_3 : decode cX7_ownNumbers 3 = .ok (.aload_n 0, 1) := by decide +kernel
theorem dX7_ownNumbers_4 : decode cX7_ownNumbers 4 = .ok (.getfield 55, 3) := by decide +kernel
theorem dX7_ownNumbers_7 : decode cX7_ownNumbers 7 = .ok (.if_icmp .ge 23, 3) := by decide +kernel
theorem dX7_ownNumbers_10 : decode cX7_ownNumbers 10 = .ok (.aload_n 0, 1) := by decide +kernel
theorem dX7_ownNumbers_11 : decode cX7_ownNumbers 11 = .ok (.getfield 31, 3) := by decide +kernel
theorem dX7_ownNumbers_14 : decode cX7_ownNumbers 14 = .ok (.iload_n 1, 1) := by decide +kernel
theorem dX7_ownNumbers_15 : decode cX7_ownNumbers 15 = .ok (.iload_n 1, 1) := by decide +kernel
theorem dX7_ownNumbers_16 : decode cX7_ownNumbers 16 = .ok (.iastore, 1) := by decide +kernel
theorem dX7_ownNumbers_17 : decode cX7_ownNumbers 17 = .ok (.aload_n 0, 1) := by decide +kernel
theorem dX7_ownNumbers_18 : decode cX7_ownNumbers 18 = .ok (.getfield 34, 3) := by decide +kernel
theorem dX7_ownNumbers_21 : decode cX7_ownNumbers 21 = .ok (.iload_n 1, 1) := by decide +kernel
theorem dX7_ownNumbers_22 : decode cX7_ownNumbers 22 = .ok (.iload_n 1, 1) := by decide +kernel
theorem dX7_ownNumbers_23 : decode cX7_ownNumbers 23 = .ok (.iastore, 1) := by decide +kernel
theorem dX7_ownNumbers_24 : decode cX7_ownNumbers 24 = .ok (.iinc 1 1, 3) := by decide +kernel
theorem dX7_ownNumbers_27 : decode cX7_ownNumbers 27 = .ok (.goto (-25), 3) := by decide +kernel
theorem dX7_ownNumbers_30 : decode cX7_ownNumbers 30 = .ok (.return_, 1) := by decide +kernel
theorem dX7_centreSense_0 : decode cX7_centreSense 0 = .ok (.aload_n 0, 1) := by decide +kernel
theorem dX7_centreSense_1 : decode cX7_centreSense 1 = .ok (.iload_n 1, 1) := by decide +kernel
theorem dX7_centreSense_2 : decode cX7_centreSense 2 = .ok (.invokevirtual 90, 3) := by decide +kernel
theorem dX7_centreSense_5 : decode cX7_centreSense 5 = .ok (.ifCond .ne 5, 3) := by decide +kernel
theorem dX7_centreSense_8 : decode cX7_centreSense 8 = .ok (.iconst 0, 1) := by decide +kernel
theorem dX7_centreSense_9 : decode cX7_centreSense 9 = .ok (.ireturn, 1) := by decide +kernel
theorem dX7_centreSense_10 : decode cX7_centreSense 10 = .ok (.aload_n 0, 1) := by decide +kernel
theorem dX7_centreSense_11 : decode cX7_centreSense 11 = .ok (.iload_n 1, 1) := by decide +kernel
theorem dX7_centreSense_12 : decode cX7_centreSense 12 = .ok (.invokevirtual 93, 3) := by decide +kernel
theorem dX7_centreSense_15 : decode cX7_centreSense 15 = .ok (.iconst 4, 1) := by decide +kernel
theorem dX7_centreSense_16 : decode cX7_centreSense 16 = .ok (.if_icmp .ne 41, 3) := by decide +kernel
theorem dX7_centreSense_19 : decode cX7_centreSense 19 = .ok (.iconst 0, 1) := by decide +kernel
theorem dX7_centreSense_20 : decode cX7_centreSense 20 = .ok (.istore_n 2, 1) := by decide +kernel
theorem dX7_centreSense_21 : decode cX7_centreSense 21 = .ok (.iload_n 2, 1) := by decide +kernel
theorem dX7_centreSense_22 : decode cX7_centreSense 22 = .ok (.bipush 9, 2) := by decide +kernel
theorem dX7_centreSense_24 : decode cX7_centreSense 24 = .ok (.if_icmp .ge 33, 3) := by decide +kernel
theorem dX7_centreSense_27 : decode cX7_centreSense 27 = .ok (.aload_n 0, 1) := by decide +kernel
theorem dX7_centreSense_28 : decode cX7_centreSense 28 = .ok (.getfield 49, 3) := by decide +kernel
theorem dX7_centreSense_31 : decode cX7_centreSense 31 = .ok (.iload_n 2, 1) := by decide +kernel
theorem dX7_centreSense_32 : decode cX7_centreSense 32 = .ok (.aload_n 0, 1) := by decide +kernel
theorem dX7_centreSense_33 : decode cX7_centreSense 33 = .ok (.getfield 49, 3) := by decide +kernel
theorem dX7_centreSense_36 : decode cX7_centreSense 36 = .ok (.iload_n 2, 1) := by decide +kernel
theorem dX7_centreSense_37 : decode cX7_centreSense 37 = .ok (.iaload, 1) := by decide +kernel
theorem dX7_centreSense_38 : decode cX7_centreSense 38 = .ok (.aload_n 0, 1) := by decide +kernel
theorem dX7_centreSense_39 : decode cX7_centreSense 39 = .ok (.getfield 49, 3) := by decide +kernel
theorem dX7_centreSense_42 : decode cX7_centreSense 42 = .ok (.bipush 9, 2) := by decide +kernel
theorem dX7_centreSense_44 : decode cX7_centreSense 44 = .ok (.iload_n 2, 1) := by decide +kernel
theorem dX7_centreSense_45 : decode cX7_centreSense 45 = .ok (.iconst 3, 1) := by decide +kernel
theorem dX7_centreSense_46 : decode cX7_centreSense 46 = .ok (.irem, 1) := by decide +kernel
theorem dX7_centreSense_47 : decode cX7_centreSense 47 = .ok (.iadd, 1) := by decide +kernel
theorem dX7_centreSense_48 : decode cX7_centreSense 48 = .ok (.iaload, 1) := by decide +kernel
theorem dX7_centreSense_49 : decode cX7_centreSense 49 = .ok (.isub, 1) := by decide +kernel
theorem dX7_centreSense_50 : decode cX7_centreSense 50 = .ok (.iastore, 1) := by decide +kernel
theorem dX7_centreSense_51 : decode cX7_centreSense 51 = .ok (.iinc 2 1, 3) := by decide +kernel
theorem dX7_centreSense_54 : decode cX7_centreSense 54 = .ok (.goto (-33), 3) := by decide +kernel
theorem dX7_centreSense_57 : decode cX7_centreSense 57 = .ok (.aload_n 0, 1) := by decide +kernel
theorem dX7_centreSense_58 : decode cX7_centreSense 58 = .ok (.getfield 49, 3) := by decide +kernel
theorem dX7_centreSense_61 : decode cX7_centreSense 61 = .ok (.iconst 4, 1) := by decide +kernel
theorem dX7_centreSense_62 : decode cX7_centreSense 62 = .ok (.iaload, 1) := by decide +kernel
theorem dX7_centreSense_63 : decode cX7_centreSense 63 = .ok (.aload_n 0, 1) := by decide +kernel
theorem dX7_centreSense_64 : decode cX7_centreSense 64 = .ok (.getfield 49, 3) := by decide +kernel
theorem dX7_centreSense_67 : decode cX7_centreSense 67 = .ok (.bipush 8, 2) := by decide +kernel
theorem dX7_centreSense_69 : decode cX7_centreSense 69 = .ok (.iaload, 1) := by decide +kernel
theorem dX7_centreSense_70 : decode cX7_centreSense 70 = .ok (.imul, 1) := by decide +kernel
theorem dX7_centreSense_71 : decode cX7_centreSense 71 = .ok (.aload_n 0, 1) := by decide +kernel
theorem dX7_centreSense_72 : decode cX7_centreSense 72 = .ok (.getfield 49, 3) := by decide +kernel
theorem dX7_centreSense_75 : decode cX7_centreSense 75 = .ok (.iconst 5, 1) := by decide +kernel
theorem dX7_centreSense_76 : decode cX7_centreSense 76 = .ok (.iaload, 1) := by decide +kernel
theorem dX7_centreSense_77 : decode cX7_centreSense 77 = .ok (.aload_n 0, 1) := by decide +kernel
theorem dX7_centreSense_78 : decode cX7_centreSense 78 = .ok (.getfield 49, 3) := by decide +kernel
theorem dX7_centreSense_81 : decode cX7_centreSense 81 = .ok (.bipush 7, 2) := by decide +kernel
theorem dX7_centreSense_83 : decode cX7_centreSense 83 = .ok (.iaload, 1) := by decide +kernel
theorem dX7_centreSense_84 : decode cX7_centreSense 84 = .ok (.imul, 1) := by decide +kernel
theorem dX7_centreSense_85 : decode cX7_centreSense 85 = .ok (.isub, 1) := by decide +kernel
theorem dX7_centreSense_86 : decode cX7_centreSense 86 = .ok (.istore_n 2, 1) := by decide +kernel
theorem dX7_centreSense_87 : decode cX7_centreSense 87 = .ok (.aload_n 0, 1) := by decide +kernel
theorem dX7_centreSense_88 : decode cX7_centreSense 88 = .ok (.getfield 49, 3) := by decide +kernel
theorem dX7_centreSense_91 : decode cX7_centreSense 91 = .ok (.iconst 3, 1) := by decide +kernel
theorem dX7_centreSense_92 : decode cX7_centreSense 92 = .ok (.iaload, 1) := by decide +kernel
theorem dX7_centreSense_93 : decode cX7_centreSense 93 = .ok (.aload_n 0, 1) := by decide +kernel
theorem dX7_centreSense_94 : decode cX7_centreSense 94 = .ok (.getfield 49, 3) := by decide +kernel
theorem dX7_centreSense_97 : decode cX7_centreSense 97 = .ok (.bipush 8, 2) := by decide +kernel
theorem dX7_centreSense_99 : decode cX7_centreSense 99 = .ok (.iaload, 1) := by decide +kernel
theorem dX7_centreSense_100 : decode cX7_centreSense 100 = .ok (.imul, 1) := by decide +kernel
theorem dX7_centreSense_101 : decode cX7_centreSense 101 = .ok (.aload_n 0, 1) := by decide +kernel
theorem dX7_centreSense_102 : decode cX7_centreSense 102 = .ok (.getfield 49, 3) := by decide +kernel
theorem dX7_centreSense_105 : decode cX7_centreSense 105 = .ok (.iconst 5, 1) := by decide +kernel
theorem dX7_centreSense_106 : decode cX7_centreSense 106 = .ok (.iaload, 1) := by decide +kernel
theorem dX7_centreSense_107 : decode cX7_centreSense 107 = .ok (.aload_n 0, 1) := by decide +kernel
theorem dX7_centreSense_108 : decode cX7_centreSense 108 = .ok (.getfield 49, 3) := by decide +kernel
theorem dX7_centreSense_111 : decode cX7_centreSense 111 = .ok (.bipush 6, 2) := by decide +kernel
theorem dX7_centreSense_113 : decode cX7_centreSense 113 = .ok (.iaload, 1) := by decide +kernel
theorem dX7_centreSense_114 : decode cX7_centreSense 114 = .ok (.imul, 1) := by decide +kernel
theorem dX7_centreSense_115 : decode cX7_centreSense 115 = .ok (.isub, 1) := by decide +kernel
theorem dX7_centreSense_116 : decode cX7_centreSense 116 = .ok (.istore_n 3, 1) := by decide +kernel
theorem dX7_centreSense_117 : decode cX7_centreSense 117 = .ok (.aload_n 0, 1) := by decide +kernel
theorem dX7_centreSense_118 : decode cX7_centreSense 118 = .ok (.getfield 49, 3) := by decide +kernel
theorem dX7_centreSense_121 : decode cX7_centreSense 121 = .ok (.iconst 3, 1) := by decide +kernel
theorem dX7_centreSense_122 : decode cX7_centreSense 122 = .ok (.iaload, 1) := by decide +kernel
theorem dX7_centreSense_123 : decode cX7_centreSense 123 = .ok (.aload_n 0, 1) := by decide +kernel
theorem dX7_centreSense_124 : decode cX7_centreSense 124 = .ok (.getfield 49, 3) := by decide +kernel
theorem dX7_centreSense_127 : decode cX7_centreSense 127 = .ok (.bipush 7, 2) := by decide +kernel
theorem dX7_centreSense_129 : decode cX7_centreSense 129 = .ok (.iaload, 1) := by decide +kernel
theorem dX7_centreSense_130 : decode cX7_centreSense 130 = .ok (.imul, 1) := by decide +kernel
theorem dX7_centreSense_131 : decode cX7_centreSense 131 = .ok (.aload_n 0, 1) := by decide +kernel
theorem dX7_centreSense_132 : decode cX7_centreSense 132 = .ok (.getfield 49, 3) := by decide +kernel
theorem dX7_centreSense_135 : decode cX7_centreSense 135 = .ok (.iconst 4, 1) := by decide +kernel
theorem dX7_centreSense_136 : decode cX7_centreSense 136 = .ok (.iaload, 1) := by decide +kernel
theorem dX7_centreSense_137 : decode cX7_centreSense 137 = .ok (.aload_n 0, 1) := by decide +kernel
theorem dX7_centreSense_138 : decode cX7_centreSense 138 = .ok (.getfield 49, 3) := by decide +kernel
theorem dX7_centreSense_141 : decode cX7_centreSense 141 = .ok (.bipush 6, 2) := by decide +kernel
theorem dX7_centreSense_143 : decode cX7_centreSense 143 = .ok (.iaload, 1) := by decide +kernel
theorem dX7_centreSense_144 : decode cX7_centreSense 144 = .ok (.imul, 1) := by decide +kernel
theorem dX7_centreSense_145 : decode cX7_centreSense 145 = .ok (.isub, 1) := by decide +kernel
theorem dX7_centreSense_146 : decode cX7_centreSense 146 = .ok (.istore 4, 2) := by decide +kernel
theorem dX7_centreSense_148 : decode cX7_centreSense 148 = .ok (.aload_n 0, 1) := by decide +kernel
theorem dX7_centreSense_149 : decode cX7_centreSense 149 = .ok (.getfield 49, 3) := by decide +kernel
theorem dX7_centreSense_152 : decode cX7_centreSense 152 = .ok (.iconst 0, 1) := by decide +kernel
theorem dX7_centreSense_153 : decode cX7_centreSense 153 = .ok (.iaload, 1) := by decide +kernel
theorem dX7_centreSense_154 : decode cX7_centreSense 154 = .ok (.iload_n 2, 1) := by decide +kernel
theorem dX7_centreSense_155 : decode cX7_centreSense 155 = .ok (.imul, 1) := by decide +kernel
theorem dX7_centreSense_156 : decode cX7_centreSense 156 = .ok (.aload_n 0, 1) := by decide +kernel
theorem dX7_centreSense_157 : decode cX7_centreSense 157 = .ok (.getfield 49, 3) := by decide +kernel
theorem dX7_centreSense_160 : decode cX7_centreSense 160 = .ok (.iconst 1, 1) := by decide +kernel
theorem dX7_centreSense_161 : decode cX7_centreSense 161 = .ok (.iaload, 1) := by decide +kernel
theorem dX7_centreSense_162 : decode cX7_centreSense 162 = .ok (.iload_n 3, 1) := by decide +kernel
theorem dX7_centreSense_163 : decode cX7_centreSense 163 = .ok (.imul, 1) := by decide +kernel
theorem dX7_centreSense_164 : decode cX7_centreSense 164 = .ok (.isub, 1) := by decide +kernel
theorem dX7_centreSense_165 : decode cX7_centreSense 165 = .ok (.aload_n 0, 1) := by decide +kernel
theorem dX7_centreSense_166 : decode cX7_centreSense 166 = .ok (.getfield 49, 3) := by decide +kernel
theorem dX7_centreSense_169 : decode cX7_centreSense 169 = .ok (.iconst 2, 1) := by decide +kernel
theorem dX7_centreSense_170 : decode cX7_centreSense 170 = .ok (.iaload, 1) := by decide +kernel
theorem dX7_centreSense_171 : decode cX7_centreSense 171 = .ok (.iload 4, 2) := by decide +kernel
theorem dX7_centreSense_173 : decode cX7_centreSense 173 = .ok (.imul, 1) := by decide +kernel
theorem dX7_centreSense_174 : decode cX7_centreSense 174 = .ok (.iadd, 1) := by decide +kernel
theorem dX7_centreSense_175 : decode cX7_centreSense 175 = .ok (.invokestatic 96, 3) := by decide +kernel
theorem dX7_centreSense_178 : decode cX7_centreSense 178 = .ok (.ireturn, 1) := by decide +kernel
theorem dX7_isCentre_0 : decode cX7_isCentre 0 = .ok (.aload_n 0, 1) := by decide +kernel
theorem dX7_isCentre_1 : decode cX7_isCentre 1 = .ok (.getfield 7, 3) := by decide +kernel
theorem dX7_isCentre_4 : decode cX7_isCentre 4 = .ok (.iload_n 1, 1) := by decide +kernel
theorem dX7_isCentre_5 : decode cX7_isCentre 5 = .ok (.iaload, 1) := by decide +kernel
theorem dX7_isCentre_6 : decode cX7_isCentre 6 = .ok (.ifCond .ne 17, 3) := by decide +kernel
theorem dX7_isCentre_9 : decode cX7_isCentre 9 = .ok (.aload_n 0, 1) := by decide +kernel
theorem dX7_isCentre_10 : decode cX7_isCentre 10 = .ok (.iload_n 1, 1) := by decide +kernel
theorem dX7_isCentre_11 : decode cX7_isCentre 11 = .ok (.iconst (-1), 1) := by decide +kernel
theorem dX7_isCentre_12 : decode cX7_isCentre 12 = .ok (.invokevirtual 87, 3) := by decide +kernel
theorem dX7_isCentre_15 : decode cX7_isCentre 15 = .ok (.iconst 3, 1) := by decide +kernel
theorem dX7_isCentre_16 : decode cX7_isCentre 16 = .ok (.if_icmp .lt 7, 3) := by decide +kernel
theorem dX7_isCentre_19 : decode cX7_isCentre 19 = .ok (.iconst 1, 1) := by decide +kernel
theorem dX7_isCentre_20 : decode cX7_isCentre 20 = .ok (.goto 4, 3) := by decide +kernel
theorem dX7_isCentre_23 : decode cX7_isCentre 23 = .ok (.iconst 0, 1) := by decide +kernel
theorem dX7_isCentre_24 : decode cX7_isCentre 24 = .ok (.ireturn, 1) := by decide +kernel
theorem dX7_singles_0 : decode cX7_singles 0 = .ok (.iconst 0, 1) := by decide +kernel
theorem dX7_singles_1 : decode cX7_singles 1 = .ok (.istore_n 3, 1) := by decide +kernel
theorem dX7_singles_2 : decode cX7_singles 2 = .ok (.iconst 1, 1) := by decide +kernel
theorem dX7_singles_3 : decode cX7_singles 3 = .ok (.istore 4, 2) := by decide +kernel
theorem dX7_singles_5 : decode cX7_singles 5 = .ok (.iconst 0, 1) := by decide +kernel
theorem dX7_singles_6 : decode cX7_singles 6 = .ok (.istore 5, 2) := by decide +kernel
theorem dX7_singles_8 : decode cX7_singles 8 = .ok (.iload 5, 2) := by decide +kernel
theorem dX7_singles_10 : decode cX7_singles 10 = .ok (.aload_n 0, 1) := by decide +kernel
theorem dX7_singles_11 : decode cX7_singles 11 = .ok (.getfield 59, 3) := by decide +kernel
theorem dX7_singles_14 : decode cX7_singles 14 = .ok (.if_icmp .ge 63, 3) := by decide +kernel
theorem dX7_singles_17 : decode cX7_singles 17 = .ok (.iload 5, 2) := by decide +kernel
theorem dX7_singles_19 : decode cX7_singles 19 = .ok (.iload_n 2, 1) := by decide +kernel
theorem dX7_singles_20 : decode cX7_singles 20 = .ok (.if_icmp .eq 51, 3) := by decide +kernel
theorem dX7_singles_23 : decode cX7_singles 23 = .ok (.aload_n 0, 1) := by decide +kernel
theorem dX7_singles_24 : decode cX7_singles 24 = .ok (.getfield 19, 3) := by decide +kernel
theorem dX7_singles_27 : decode cX7_singles 27 = .ok (.iload 5, 2) := by decide +kernel
theorem dX7_singles_29 : decode cX7_singles 29 = .ok (.iaload, 1) := by decide +kernel
theorem dX7_singles_30 : decode cX7_singles 30 = .ok (.iload_n 1, 1) := by decide +kernel
theorem dX7_singles_31 : decode cX7_singles 31 = .ok (.if_icmp .eq 14, 3) := by decide +kernel
theorem dX7_singles_34 : decode cX7_singles 34 = .ok (.aload_n 0, 1) := by decide +kernel
theorem dX7_singles_35 : decode cX7_singles 35 = .ok (.getfield 22, 3) := by decide +kernel
theorem dX7_singles_38 : decode cX7_singles 38 = .ok (.iload 5, 2) := by decide +kernel
theorem dX7_singles_40 : decode cX7_singles 40 = .ok (.iaload, 1) := by decide +kernel
theorem dX7_singles_41 : decode cX7_singles 41 = .ok (.iload_n 1, 1) := by decide +kernel
theorem dX7_singles_42 : decode cX7_singles 42 = .ok (.if_icmp .ne 29, 3) := by decide +kernel
theorem dX7_singles_45 : decode cX7_singles 45 = .ok (.iinc 3 1, 3) := by decide +kernel
theorem dX7_singles_48 : decode cX7_singles 48 = .ok (.iload 4, 2) := by decide +kernel
theorem dX7_singles_50 : decode cX7_singles 50 = .ok (.ifCond .eq 18, 3) := by decide +kernel
theorem dX7_singles_53 : decode cX7_singles 53 = .ok (.aload_n 0, 1) := by decide +kernel
theorem dX7_singles_54 : decode cX7_singles 54 = .ok (.getfield 25, 3) := by decide +kernel
theorem dX7_singles_57 : decode cX7_singles 57 = .ok (.iload 5, 2) := by decide +kernel
theorem dX7_singles_59 : decode cX7_singles 59 = .ok (.iaload, 1) := by decide +kernel
theorem dX7_singles_60 : decode cX7_singles 60 = .ok (.iconst 1, 1) := by decide +kernel
theorem dX7_singles_61 : decode cX7_singles 61 = .ok (.if_icmp .ne 7, 3) := by decide +kernel
theorem dX7_singles_64 : decode cX7_singles 64 = .ok (.iconst 1, 1) := by decide +kernel
theorem dX7_singles_65 : decode cX7_singles 65 = .ok (.goto 4, 3) := by decide +kernel
theorem dX7_singles_68 : decode cX7_singles 68 = .ok (.iconst 0, 1) := by decide +kernel
theorem dX7_singles_69 : decode cX7_singles 69 = .ok (.istore 4, 2) := by decide +kernel
theorem dX7_singles_71 : decode cX7_singles 71 = .ok (.iinc 5 1, 3) := by decide +kernel
theorem dX7_singles_74 : decode cX7_singles 74 = .ok (.goto (-66), 3) := by decide +kernel
theorem dX7_singles_77 : decode cX7_singles 77 = .ok (.iload 4, 2) := by decide +kernel
theorem dX7_singles_79 : decode cX7_singles 79 = .ok (.ifCond .eq 7, 3) := by decide +kernel
theorem dX7_singles_82 : decode cX7_singles 82 = .ok (.iload_n 3, 1) := by decide +kernel
theorem dX7_singles_83 : decode cX7_singles 83 = .ok (.goto 4, 3) := by decide +kernel
theorem dX7_singles_86 : decode cX7_singles 86 = .ok (.iconst (-1), 1) := by decide +kernel
theorem dX7_singles_87 : decode cX7_singles 87 = .ok (.ireturn, 1) := by decide +kernel
theorem dX7_points_0 : decode cX7_points 0 = .ok (.iconst 0, 1) := by decide +kernel
theorem dX7_points_1 : decode cX7_points 1 = .ok (.istore_n 2, 1) := by decide +kernel
theorem dX7_points_2 : decode cX7_points 2 = .ok (.iconst 0, 1) := by decide +kernel
theorem dX7_points_3 : decode cX7_points 3 = .ok (.istore_n 3, 1) := by decide +kernel
theorem dX7_points_4 : decode cX7_points 4 = .ok (.iload_n 3, 1) := by decide +kernel
theorem dX7_points_5 : decode cX7_points 5 = .ok (.aload_n 0, 1) := by decide +kernel
theorem dX7_points_6 : decode cX7_points 6 = .ok (.getfield 55, 3) := by decide +kernel
theorem dX7_points_9 : decode cX7_points 9 = .ok (.if_icmp .ge 140, 3) := by decide +kernel
theorem dX7_points_12 : decode cX7_points 12 = .ok (.aload_n 0, 1) := by decide +kernel
theorem dX7_points_13 : decode cX7_points 13 = .ok (.iload_n 1, 1) := by decide +kernel
theorem dX7_points_14 : decode cX7_points 14 = .ok (.aload_n 0, 1) := by decide +kernel
theorem dX7_points_15 : decode cX7_points 15 = .ok (.getfield 31, 3) := by decide +kernel
theorem dX7_points_18 : decode cX7_points 18 = .ok (.iload_n 3, 1) := by decide +kernel
theorem dX7_points_19 : decode cX7_points 19 = .ok (.iaload, 1) := by decide +kernel
theorem dX7_points_20 : decode cX7_points 20 = .ok (.invokevirtual 77, 3) := by decide +kernel
theorem dX7_points_23 : decode cX7_points 23 = .ok (.istore 4, 2) := by decide +kernel
theorem dX7_points_25 : decode cX7_points 25 = .ok (.iload 4, 2) := by decide +kernel
theorem dX7_points_27 : decode cX7_points 27 = .ok (.ifCond .lt 116, 3) := by decide +kernel
theorem dX7_points_30 : decode cX7_points 30 = .ok (.aload_n 0, 1) := by decide +kernel
theorem dX7_points_31 : decode cX7_points 31 = .ok (.getfield 49, 3) := by decide +kernel
theorem dX7_points_34 : decode cX7_points 34 = .ok (.iconst 3, 1) := by decide +kernel
theorem dX7_points_35 : decode cX7_points 35 = .ok (.iload_n 2, 1) := by decide +kernel
theorem dX7_points_36 : decode cX7_points 36 = .ok (.imul, 1) := by decide +kernel
theorem dX7_points_37 : decode cX7_points 37 = .ok (.aload_n 0, 1) := by decide +kernel
theorem dX7_points_38 : decode cX7_points 38 = .ok (.getfield 13, 3) := by decide +kernel
theorem dX7_points_41 : decode cX7_points 41 = .ok (.aload_n 0, 1) := by decide +kernel
theorem dX7_points_42 : decode cX7_points 42 = .ok (.getfield 31, 3) := by decide +kernel
theorem dX7_points_45 : decode cX7_points 45 = .ok (.iload_n 3, 1) := by decide +kernel
theorem dX7_points_46 : decode cX7_points 46 = .ok (.iaload, 1) := by decide +kernel
theorem dX7_points_47 : decode cX7_points 47 = .ok (.iaload, 1) := by decide +kernel
theorem dX7_points_48 : decode cX7_points 48 = .ok (.aload_n 0, 1) := by decide +kernel
theorem dX7_points_49 : decode cX7_points 49 = .ok (.getfield 13, 3) := by decide +kernel
theorem dX7_points_52 : decode cX7_points 52 = .ok (.iload_n 1, 1) := by decide +kernel
theorem dX7_points_53 : decode cX7_points 53 = .ok (.iaload, 1) := by decide +kernel
theorem dX7_points_54 : decode cX7_points 54 = .ok (.isub, 1) := by decide +kernel
theorem dX7_points_55 : decode cX7_points 55 = .ok (.iastore, 1) := by decide +kernel
theorem dX7_points_56 : decode cX7_points 56 = .ok (.aload_n 0, 1) := by decide +kernel
theorem dX7_points_57 : decode cX7_points 57 = .ok (.getfield 49, 3) := by decide +kernel
theorem dX7_points_60 : decode cX7_points 60 = .ok (.iconst 3, 1) := by decide +kernel
theorem dX7_points_61 : decode cX7_points 61 = .ok (.iload_n 2, 1) := by decide +kernel
theorem dX7_points_62 : decode cX7_points 62 = .ok (.imul, 1) := by decide +kernel
theorem dX7_points_63 : decode cX7_points 63 = .ok (.iconst 1, 1) := by decide +kernel
theorem dX7_points_64 : decode cX7_points 64 = .ok (.iadd, 1) := by decide +kernel
theorem dX7_points_65 : decode cX7_points 65 = .ok (.aload_n 0, 1) := by decide +kernel
theorem dX7_points_66 : decode cX7_points 66 = .ok (.getfield 16, 3) := by decide +kernel
theorem dX7_points_69 : decode cX7_points 69 = .ok (.aload_n 0, 1) := by decide +kernel
theorem dX7_points_70 : decode cX7_points 70 = .ok (.getfield 31, 3) := by decide +kernel
theorem dX7_points_73 : decode cX7_points 73 = .ok (.iload_n 3, 1) := by decide +kernel
theorem dX7_points_74 : decode cX7_points 74 = .ok (.iaload, 1) := by decide +kernel
theorem dX7_points_75 : decode cX7_points 75 = .ok (.iaload, 1) := by decide +kernel
theorem dX7_points_76 : decode cX7_points 76 = .ok (.aload_n 0, 1) := by decide +kernel
theorem dX7_points_77 : decode cX7_points 77 = .ok (.getfield 16, 3) := by decide +kernel
theorem dX7_points_80 : decode cX7_points 80 = .ok (.iload_n 1, 1) := by decide +kernel
theorem dX7_points_81 : decode cX7_points 81 = .ok (.iaload, 1) := by decide +kernel
theorem dX7_points_82 : decode cX7_points 82 = .ok (.isub, 1) := by decide +kernel
theorem dX7_points_83 : decode cX7_points 83 = .ok (.iastore, 1) := by decide +kernel
theorem dX7_points_84 : decode cX7_points 84 = .ok (.aload_n 0, 1) := by decide +kernel
theorem dX7_points_85 : decode cX7_points 85 = .ok (.getfield 49, 3) := by decide +kernel
theorem dX7_points_88 : decode cX7_points 88 = .ok (.iconst 3, 1) := by decide +kernel
theorem dX7_points_89 : decode cX7_points 89 = .ok (.iload_n 2, 1) := by decide +kernel
theorem dX7_points_90 : decode cX7_points 90 = .ok (.imul, 1) := by decide +kernel
theorem dX7_points_91 : decode cX7_points 91 = .ok (.iconst 2, 1) := by decide +kernel
theorem dX7_points_92 : decode cX7_points 92 = .ok (.iadd, 1) := by decide +kernel
theorem dX7_points_93 : decode cX7_points 93 = .ok (.aload_n 0, 1) := by decide +kernel
theorem dX7_points_94 : decode cX7_points 94 = .ok (.getfield 19, 3) := by decide +kernel
theorem dX7_points_97 : decode cX7_points 97 = .ok (.iload 4, 2) := by decide +kernel
theorem dX7_points_99 : decode cX7_points 99 = .ok (.iaload, 1) := by decide +kernel
theorem dX7_points_100 : decode cX7_points 100 = .ok (.iload_n 1, 1) := by decide +kernel
theorem dX7_points_101 : decode cX7_points 101 = .ok (.if_icmp .eq 7, 3) := by decide +kernel
theorem dX7_points_104 : decode cX7_points 104 = .ok (.iconst 0, 1) := by decide +kernel
theorem dX7_points_105 : decode cX7_points 105 = .ok (.goto 34, 3) := by decide +kernel
theorem dX7_points_108 : decode cX7_points 108 = .ok (.aload_n 0, 1) := by decide +kernel
theorem dX7_points_109 : decode cX7_points 109 = .ok (.getfield 28, 3) := by decide +kernel
theorem dX7_points_112 : decode cX7_points 112 = .ok (.iload 4, 2) := by decide +kernel
theorem dX7_points_114 : decode cX7_points 114 = .ok (.iaload, 1) := by decide +kernel
theorem dX7_points_115 : decode cX7_points 115 = .ok (.iconst 1, 1) := by decide +kernel
theorem dX7_points_116 : decode cX7_points 116 = .ok (.if_icmp .ne 7, 3) := by decide +kernel
theorem dX7_points_119 : decode cX7_points 119 = .ok (.iconst 1, 1) := by decide +kernel
theorem dX7_points_120 : decode cX7_points 120 = .ok (.goto 19, 3) := by decide +kernel
theorem dX7_points_123 : decode cX7_points 123 = .ok (.aload_n 0, 1) := by decide +kernel
theorem dX7_points_124 : decode cX7_points 124 = .ok (.getfield 28, 3) := by decide +kernel
theorem dX7_points_127 : decode cX7_points 127 = .ok (.iload 4, 2) := by decide +kernel
theorem dX7_points_129 : decode cX7_points 129 = .ok (.iaload, 1) := by decide +kernel
theorem dX7_points_130 : decode cX7_points 130 = .ok (.iconst 2, 1) := by decide +kernel
theorem dX7_points_131 : decode cX7_points 131 = .ok (.if_icmp .ne 7, 3) := by decide +kernel
theorem dX7_points_134 : decode cX7_points 134 = .ok (.iconst (-1), 1) := by decide +kernel
theorem dX7_points_135 : decode cX7_points 135 = .ok (.goto 4, 3) := by decide +kernel
theorem dX7_points_138 : decode cX7_points 138 = .ok (.iconst 0, 1) := by decide +kernel
theorem dX7_points_139 : decode cX7_points 139 = .ok (.iastore, 1) := by decide +kernel
theorem dX7_points_140 : decode cX7_points 140 = .ok (.iinc 2 1, 3) := by decide +kernel
theorem dX7_points_143 : decode cX7_points 143 = .ok (.iinc 3 1, 3) := by decide +kernel
theorem dX7_points_146 : decode cX7_points 146 = .ok (.goto (-142), 3) := by decide +kernel
theorem dX7_points_149 : decode cX7_points 149 = .ok (.iload_n 2, 1) := by decide +kernel
theorem dX7_points_150 : decode cX7_points 150 = .ok (.ireturn, 1) := by decide +kernel
theorem dX7_sign_0 : decode cX7_sign 0 = .ok (.iload_n 0, 1) := by decide +kernel
theorem dX7_sign_1 : decode cX7_sign 1 = .ok (.ifCond .le 7, 3) := by decide +kernel
theorem dX7_sign_4 : decode cX7_sign 4 = .ok (.iconst 1, 1) := by decide +kernel
theorem dX7_sign_5 : decode cX7_sign 5 = .ok (.goto 12, 3) := by decide +kernel
theorem dX7_sign_8 : decode cX7_sign 8 = .ok (.iload_n 0, 1) := by decide +kernel
theorem dX7_sign_9 : decode cX7_sign 9 = .ok (.ifCond .ge 7, 3) := by decide +kernel
theorem dX7_sign_12 : decode cX7_sign 12 = .ok (.iconst (-1), 1) := by decide +kernel
theorem dX7_sign_13 : decode cX7_sign 13 = .ok (.goto 4, 3) := by decide +kernel
theorem dX7_sign_16 : decode cX7_sign 16 = .ok (.iconst 0, 1) := by decide +kernel
theorem dX7_sign_17 : decode cX7_sign 17 = .ok (.ireturn, 1) := by decide +kernel
theorem dX7_turn_0 : decode cX7_turn 0 = .ok (.aload_n 0, 1) := by decide +kernel
theorem dX7_turn_1 : decode cX7_turn 1 = .ok (.iload_n 1, 1) := by decide +kernel
theorem dX7_turn_2 : decode cX7_turn 2 = .ok (.invokevirtual 84, 3) := by decide +kernel
theorem dX7_turn_5 : decode cX7_turn 5 = .ok (.ifCond .ne 5, 3) := by decide +kernel
theorem dX7_turn_8 : decode cX7_turn 8 = .ok (.iconst (-1), 1) := by decide +kernel
theorem dX7_turn_9 : decode cX7_turn 9 = .ok (.ireturn, 1) := by decide +kernel
theorem dX7_turn_10 : decode cX7_turn 10 = .ok (.aload_n 0, 1) := by decide +kernel
theorem dX7_turn_11 : decode cX7_turn 11 = .ok (.invokevirtual 113, 3) := by decide +kernel
theorem dX7_turn_14 : decode cX7_turn 14 = .ok (.aload_n 0, 1) := by decide +kernel
theorem dX7_turn_15 : decode cX7_turn 15 = .ok (.iload_n 1, 1) := by decide +kernel
theorem dX7_turn_16 : decode cX7_turn 16 = .ok (.invokevirtual 119, 3) := by decide +kernel
theorem dX7_turn_19 : decode cX7_turn 19 = .ok (.iconst 1, 1) := by decide +kernel
theorem dX7_turn_20 : decode cX7_turn 20 = .ok (.iadd, 1) := by decide +kernel
theorem dX7_turn_21 : decode cX7_turn 21 = .ok (.aload_n 0, 1) := by decide +kernel
theorem dX7_turn_22 : decode cX7_turn 22 = .ok (.iload_n 1, 1) := by decide +kernel
theorem dX7_turn_23 : decode cX7_turn 23 = .ok (.invokevirtual 99, 3) := by decide +kernel
theorem dX7_turn_26 : decode cX7_turn 26 = .ok (.ifCond .eq 7, 3) := by decide +kernel
theorem dX7_turn_29 : decode cX7_turn 29 = .ok (.iconst 4, 1) := by decide +kernel
theorem dX7_turn_30 : decode cX7_turn 30 = .ok (.goto 4, 3) := by decide +kernel
theorem dX7_turn_33 : decode cX7_turn 33 = .ok (.iconst 0, 1) := by decide +kernel
theorem dX7_turn_34 : decode cX7_turn 34 = .ok (.iadd, 1) := by decide +kernel
theorem dX7_turn_35 : decode cX7_turn 35 = .ok (.ireturn, 1) := by decide +kernel
theorem dX7_hingeSense_0 : decode cX7_hingeSense 0 = .ok (.aload_n 0, 1) := by decide +kernel
theorem dX7_hingeSense_1 : decode cX7_hingeSense 1 = .ok (.iload_n 1, 1) := by decide +kernel
theorem dX7_hingeSense_2 : decode cX7_hingeSense 2 = .ok (.invokevirtual 99, 3) := by decide +kernel
theorem dX7_hingeSense_5 : decode cX7_hingeSense 5 = .ok (.ifCond .ne 5, 3) := by decide +kernel
theorem dX7_hingeSense_8 : decode cX7_hingeSense 8 = .ok (.iconst 0, 1) := by decide +kernel
theorem dX7_hingeSense_9 : decode cX7_hingeSense 9 = .ok (.ireturn, 1) := by decide +kernel
theorem dX7_hingeSense_10 : decode cX7_hingeSense 10 = .ok (.aload_n 0, 1) := by decide +kernel
theorem dX7_hingeSense_11 : decode cX7_hingeSense 11 = .ok (.getfield 34, 3) := by decide +kernel
theorem dX7_hingeSense_14 : decode cX7_hingeSense 14 = .ok (.aload_n 0, 1) := by decide +kernel
theorem dX7_hingeSense_15 : decode cX7_hingeSense 15 = .ok (.getfield 19, 3) := by decide +kernel
theorem dX7_hingeSense_18 : decode cX7_hingeSense 18 = .ok (.iload_n 1, 1) := by decide +kernel
theorem dX7_hingeSense_19 : decode cX7_hingeSense 19 = .ok (.iaload, 1) := by decide +kernel
theorem dX7_hingeSense_20 : decode cX7_hingeSense 20 = .ok (.iaload, 1) := by decide +kernel
theorem dX7_hingeSense_21 : decode cX7_hingeSense 21 = .ok (.aload_n 0, 1) := by decide +kernel
theorem dX7_hingeSense_22 : decode cX7_hingeSense 22 = .ok (.getfield 34, 3) := by decide +kernel
theorem dX7_hingeSense_25 : decode cX7_hingeSense 25 = .ok (.aload_n 0, 1) := by decide +kernel
theorem dX7_hingeSense_26 : decode cX7_hingeSense 26 = .ok (.getfield 22, 3) := by decide +kernel
theorem dX7_hingeSense_29 : decode cX7_hingeSense 29 = .ok (.iload_n 1, 1) := by decide +kernel
theorem dX7_hingeSense_30 : decode cX7_hingeSense 30 = .ok (.iaload, 1) := by decide +kernel
theorem dX7_hingeSense_31 : decode cX7_hingeSense 31 = .ok (.iaload, 1) := by decide +kernel
theorem dX7_hingeSense_32 : decode cX7_hingeSense 32 = .ok (.if_icmp .le 7, 3) := by decide +kernel
theorem dX7_hingeSense_35 : decode cX7_hingeSense 35 = .ok (.iconst 1, 1) := by decide +kernel
theorem dX7_hingeSense_36 : decode cX7_hingeSense 36 = .ok (.goto 4, 3) := by decide +kernel
theorem dX7_hingeSense_39 : decode cX7_hingeSense 39 = .ok (.iconst 0, 1) := by decide +kernel
theorem dX7_hingeSense_40 : decode cX7_hingeSense 40 = .ok (.istore_n 2, 1) := by decide +kernel
theorem dX7_hingeSense_41 : decode cX7_hingeSense 41 = .ok (.iload_n 2, 1) := by decide +kernel
theorem dX7_hingeSense_42 : decode cX7_hingeSense 42 = .ok (.ifCond .eq 12, 3) := by decide +kernel
theorem dX7_hingeSense_45 : decode cX7_hingeSense 45 = .ok (.aload_n 0, 1) := by decide +kernel
theorem dX7_hingeSense_46 : decode cX7_hingeSense 46 = .ok (.getfield 22, 3) := by decide +kernel
theorem dX7_hingeSense_49 : decode cX7_hingeSense 49 = .ok (.iload_n 1, 1) := by decide +kernel
theorem dX7_hingeSense_50 : decode cX7_hingeSense 50 = .ok (.iaload, 1) := by decide +kernel
theorem dX7_hingeSense_51 : decode cX7_hingeSense 51 = .ok (.goto 9, 3) := by decide +kernel
theorem dX7_hingeSense_54 : decode cX7_hingeSense 54 = .ok (.aload_n 0, 1) := by decide +kernel
theorem dX7_hingeSense_55 : decode cX7_hingeSense 55 = .ok (.getfield 19, 3) := by decide +kernel
theorem dX7_hingeSense_58 : decode cX7_hingeSense 58 = .ok (.iload_n 1, 1) := by decide +kernel
theorem dX7_hingeSense_59 : decode cX7_hingeSense 59 = .ok (.iaload, 1) := by decide +kernel
theorem dX7_hingeSense_60 : decode cX7_hingeSense 60 = .ok (.istore_n 3, 1) := by decide +kernel
theorem dX7_hingeSense_61 : decode cX7_hingeSense 61 = .ok (.iload_n 2, 1) := by decide +kernel
theorem dX7_hingeSense_62 : decode cX7_hingeSense 62 = .ok (.ifCond .eq 12, 3) := by decide +kernel
theorem dX7_hingeSense_65 : decode cX7_hingeSense 65 = .ok (.aload_n 0, 1) := by decide +kernel
theorem dX7_hingeSense_66 : decode cX7_hingeSense 66 = .ok (.getfield 19, 3) := by decide +kernel
theorem dX7_hingeSense_69 : decode cX7_hingeSense 69 = .ok (.iload_n 1, 1) := by decide +kernel
theorem dX7_hingeSense_70 : decode cX7_hingeSense 70 = .ok (.iaload, 1) := by decide +kernel
theorem dX7_hingeSense_71 : decode cX7_hingeSense 71 = .ok (.goto 9, 3) := by decide +kernel
theorem dX7_hingeSense_74 : decode cX7_hingeSense 74 = .ok (.aload_n 0, 1) := by decide +kernel
theorem dX7_hingeSense_75 : decode cX7_hingeSense 75 = .ok (.getfield 22, 3) := by decide +kernel
theorem dX7_hingeSense_78 : decode cX7_hingeSense 78 = .ok (.iload_n 1, 1) := by decide +kernel
theorem dX7_hingeSense_79 : decode cX7_hingeSense 79 = .ok (.iaload, 1) := by decide +kernel
theorem dX7_hingeSense_80 : decode cX7_hingeSense 80 = .ok (.istore 4, 2) := by decide +kernel
theorem dX7_hingeSense_82 : decode cX7_hingeSense 82 = .ok (.aload_n 0, 1) := by decide +kernel
theorem dX7_hingeSense_83 : decode cX7_hingeSense 83 = .ok (.iload_n 3, 1) := by decide +kernel
theorem dX7_hingeSense_84 : decode cX7_hingeSense 84 = .ok (.iload 4, 2) := by decide +kernel
theorem dX7_hingeSense_86 : decode cX7_hingeSense 86 = .ok (.iload_n 3, 1) := by decide +kernel
theorem dX7_hingeSense_87 : decode cX7_hingeSense 87 = .ok (.iload 4, 2) := by decide +kernel
theorem dX7_hingeSense_89 : decode cX7_hingeSense 89 = .ok (.invokevirtual 102, 3) := by decide +kernel
theorem dX7_hingeSense_92 : decode cX7_hingeSense 92 = .ok (.ifCond .eq 48, 3) := by decide +kernel
theorem dX7_hingeSense_95 : decode cX7_hingeSense 95 = .ok (.aload_n 0, 1) := by decide +kernel
theorem dX7_hingeSense_96 : decode cX7_hingeSense 96 = .ok (.iload_n 3, 1) := by decide +kernel
theorem dX7_hingeSense_97 : decode cX7_hingeSense 97 = .ok (.iload 4, 2) := by decide +kernel
theorem dX7_hingeSense_99 : decode cX7_hingeSense 99 = .ok (.iload 4, 2) := by decide +kernel
theorem dX7_hingeSense_101 : decode cX7_hingeSense 101 = .ok (.iload_n 3, 1) := by decide +kernel
theorem dX7_hingeSense_102 : decode cX7_hingeSense 102 = .ok (.invokevirtual 102, 3) := by decide +kernel
theorem dX7_hingeSense_105 : decode cX7_hingeSense 105 = .ok (.ifCond .eq 35, 3) := by decide +kernel
theorem dX7_hingeSense_108 : decode cX7_hingeSense 108 = .ok (.aload_n 0, 1) := by decide +kernel
theorem dX7_hingeSense_109 : decode cX7_hingeSense 109 = .ok (.iload_n 3, 1) := by decide +kernel
theorem dX7_hingeSense_110 : decode cX7_hingeSense 110 = .ok (.iload 4, 2) := by decide +kernel
theorem dX7_hingeSense_112 : decode cX7_hingeSense 112 = .ok (.aload_n 0, 1) := by decide +kernel
theorem dX7_hingeSense_113 : decode cX7_hingeSense 113 = .ok (.iload_n 3, 1) := by decide +kernel
theorem dX7_hingeSense_114 : decode cX7_hingeSense 114 = .ok (.iload 4, 2) := by decide +kernel
theorem dX7_hingeSense_116 : decode cX7_hingeSense 116 = .ok (.invokevirtual 106, 3) := by decide +kernel
theorem dX7_hingeSense_119 : decode cX7_hingeSense 119 = .ok (.invokevirtual 109, 3) := by decide +kernel
theorem dX7_hingeSense_122 : decode cX7_hingeSense 122 = .ok (.aload_n 0, 1) := by decide +kernel
theorem dX7_hingeSense_123 : decode cX7_hingeSense 123 = .ok (.iload_n 3, 1) := by decide +kernel
theorem dX7_hingeSense_124 : decode cX7_hingeSense 124 = .ok (.iload 4, 2) := by decide +kernel
theorem dX7_hingeSense_126 : decode cX7_hingeSense 126 = .ok (.aload_n 0, 1) := by decide +kernel
theorem dX7_hingeSense_127 : decode cX7_hingeSense 127 = .ok (.iload 4, 2) := by decide +kernel
theorem dX7_hingeSense_129 : decode cX7_hingeSense 129 = .ok (.iload_n 3, 1) := by decide +kernel
theorem dX7_hingeSense_130 : decode cX7_hingeSense 130 = .ok (.invokevirtual 106, 3) := by decide +kernel
theorem dX7_hingeSense_133 : decode cX7_hingeSense 133 = .ok (.invokevirtual 109, 3) := by decide +kernel
theorem dX7_hingeSense_136 : decode cX7_hingeSense 136 = .ok (.imul, 1) := by decide +kernel
theorem dX7_hingeSense_137 : decode cX7_hingeSense 137 = .ok (.goto 4, 3) := by decide +kernel
theorem dX7_hingeSense_140 : decode cX7_hingeSense 140 = .ok (.iconst 0, 1) := by decide +kernel
theorem dX7_hingeSense_141 : decode cX7_hingeSense 141 = .ok (.ireturn, 1) := by decide +kernel
theorem dX7_isHinge_0 : decode cX7_isHinge 0 = .ok (.aload_n 0, 1) := by decide +kernel
theorem dX7_isHinge_1 : decode cX7_isHinge 1 = .ok (.getfield 7, 3) := by decide +kernel
theorem dX7_isHinge_4 : decode cX7_isHinge 4 = .ok (.aload_n 0, 1) := by decide +kernel
theorem dX7_isHinge_5 : decode cX7_isHinge 5 = .ok (.getfield 19, 3) := by decide +kernel
theorem dX7_isHinge_8 : decode cX7_isHinge 8 = .ok (.iload_n 1, 1) := by decide +kernel
theorem dX7_isHinge_9 : decode cX7_isHinge 9 = .ok (.iaload, 1) := by decide +kernel
theorem dX7_isHinge_10 : decode cX7_isHinge 10 = .ok (.iaload, 1) := by decide +kernel
theorem dX7_isHinge_11 : decode cX7_isHinge 11 = .ok (.iconst 1, 1) := by decide +kernel
theorem dX7_isHinge_12 : decode cX7_isHinge 12 = .ok (.if_icmp .gt 22, 3) := by decide +kernel
theorem dX7_isHinge_15 : decode cX7_isHinge 15 = .ok (.aload_n 0, 1) := by decide +kernel
theorem dX7_isHinge_16 : decode cX7_isHinge 16 = .ok (.getfield 7, 3) := by decide +kernel
theorem dX7_isHinge_19 : decode cX7_isHinge 19 = .ok (.aload_n 0, 1) := by decide +kernel
theorem dX7_isHinge_20 : decode cX7_isHinge 20 = .ok (.getfield 22, 3) := by decide +kernel
theorem dX7_isHinge_23 : decode cX7_isHinge 23 = .ok (.iload_n 1, 1) := by decide +kernel
theorem dX7_isHinge_24 : decode cX7_isHinge 24 = .ok (.iaload, 1) := by decide +kernel
theorem dX7_isHinge_25 : decode cX7_isHinge 25 = .ok (.iaload, 1) := by decide +kernel
theorem dX7_isHinge_26 : decode cX7_isHinge 26 = .ok (.iconst 1, 1) := by decide +kernel
theorem dX7_isHinge_27 : decode cX7_isHinge 27 = .ok (.if_icmp .gt 7, 3) := by decide +kernel
theorem dX7_isHinge_30 : decode cX7_isHinge 30 = .ok (.iconst 1, 1) := by decide +kernel
theorem dX7_isHinge_31 : decode cX7_isHinge 31 = .ok (.goto 4, 3) := by decide +kernel
theorem dX7_isHinge_34 : decode cX7_isHinge 34 = .ok (.iconst 0, 1) := by decide +kernel
theorem dX7_isHinge_35 : decode cX7_isHinge 35 = .ok (.istore_n 2, 1) := by decide +kernel
theorem dX7_isHinge_36 : decode cX7_isHinge 36 = .ok (.aload_n 0, 1) := by decide +kernel
theorem dX7_isHinge_37 : decode cX7_isHinge 37 = .ok (.aload_n 0, 1) := by decide +kernel
theorem dX7_isHinge_38 : decode cX7_isHinge 38 = .ok (.getfield 19, 3) := by decide +kernel
theorem dX7_isHinge_41 : decode cX7_isHinge 41 = .ok (.iload_n 1, 1) := by decide +kernel
theorem dX7_isHinge_42 : decode cX7_isHinge 42 = .ok (.iaload, 1) := by decide +kernel
theorem dX7_isHinge_43 : decode cX7_isHinge 43 = .ok (.iload_n 1, 1) := by decide +kernel
theorem dX7_isHinge_44 : decode cX7_isHinge 44 = .ok (.invokevirtual 87, 3) := by decide +kernel
theorem dX7_isHinge_47 : decode cX7_isHinge 47 = .ok (.istore_n 3, 1) := by decide +kernel
theorem dX7_isHinge_48 : decode cX7_isHinge 48 = .ok (.aload_n 0, 1) := by decide +kernel
theorem dX7_isHinge_49 : decode cX7_isHinge 49 = .ok (.aload_n 0, 1) := by decide +kernel
theorem dX7_isHinge_50 : decode cX7_isHinge 50 = .ok (.getfield 22, 3) := by decide +kernel
theorem dX7_isHinge_53 : decode cX7_isHinge 53 = .ok (.iload_n 1, 1) := by decide +kernel
theorem dX7_isHinge_54 : decode cX7_isHinge 54 = .ok (.iaload, 1) := by decide +kernel
theorem dX7_isHinge_55 : decode cX7_isHinge 55 = .ok (.iload_n 1, 1) := by decide +kernel
theorem dX7_isHinge_56 : decode cX7_isHinge 56 = .ok (.invokevirtual 87, 3) := by decide +kernel
theorem dX7_isHinge_59 : decode cX7_isHinge 59 = .ok (.istore 4, 2) := by decide +kernel
theorem dX7_isHinge_61 : decode cX7_isHinge 61 = .ok (.aload_n 0, 1) := by decide +kernel
theorem dX7_isHinge_62 : decode cX7_isHinge 62 = .ok (.getfield 25, 3) := by decide +kernel
theorem dX7_isHinge_65 : decode cX7_isHinge 65 = .ok (.iload_n 1, 1) := by decide +kernel
theorem dX7_isHinge_66 : decode cX7_isHinge 66 = .ok (.iaload, 1) := by decide +kernel
theorem dX7_isHinge_67 : decode cX7_isHinge 67 = .ok (.iconst 2, 1) := by decide +kernel
theorem dX7_isHinge_68 : decode cX7_isHinge 68 = .ok (.if_icmp .ne 33, 3) := by decide +kernel
theorem dX7_isHinge_71 : decode cX7_isHinge 71 = .ok (.iload_n 2, 1) := by decide +kernel
theorem dX7_isHinge_72 : decode cX7_isHinge 72 = .ok (.ifCond .eq 29, 3) := by decide +kernel
theorem dX7_isHinge_75 : decode cX7_isHinge 75 = .ok (.iload_n 3, 1) := by decide +kernel
theorem dX7_isHinge_76 : decode cX7_isHinge 76 = .ok (.iconst 1, 1) := by decide +kernel
theorem dX7_isHinge_77 : decode cX7_isHinge 77 = .ok (.if_icmp .lt 24, 3) := by decide +kernel
theorem dX7_isHinge_80 : decode cX7_isHinge 80 = .ok (.iload_n 3, 1) := by decide +kernel
theorem dX7_isHinge_81 : decode cX7_isHinge 81 = .ok (.iconst 2, 1) := by decide +kernel
theorem dX7_isHinge_82 : decode cX7_isHinge 82 = .ok (.if_icmp .gt 19, 3) := by decide +kernel
theorem dX7_isHinge_85 : decode cX7_isHinge 85 = .ok (.iload 4, 2) := by decide +kernel
theorem dX7_isHinge_87 : decode cX7_isHinge 87 = .ok (.iconst 1, 1) := by decide +kernel
theorem dX7_isHinge_88 : decode cX7_isHinge 88 = .ok (.if_icmp .lt 13, 3) := by decide +kernel
theorem dX7_isHinge_91 : decode cX7_isHinge 91 = .ok (.iload 4, 2) := by decide +kernel
theorem dX7_isHinge_93 : decode cX7_isHinge 93 = .ok (.iconst 2, 1) := by decide +kernel
theorem dX7_isHinge_94 : decode cX7_isHinge 94 = .ok (.if_icmp .gt 7, 3) := by decide +kernel
theorem dX7_isHinge_97 : decode cX7_isHinge 97 = .ok (.iconst 1, 1) := by decide +kernel
theorem dX7_isHinge_98 : decode cX7_isHinge 98 = .ok (.goto 4, 3) := by decide +kernel
theorem dX7_isHinge_101 : decode cX7_isHinge 101 = .ok (.iconst 0, 1) := by decide +kernel
theorem dX7_isHinge_102 : decode cX7_isHinge 102 = .ok (.ireturn, 1) := by decide +kernel
theorem dX7_isClear_0 : decode cX7_isClear 0 = .ok (.iconst 0, 1) := by decide +kernel
theorem dX7_isClear_1 : decode cX7_isClear 1 = .ok (.istore 5, 2) := by decide +kernel
theorem dX7_isClear_3 : decode cX7_isClear 3 = .ok (.iconst 0, 1) := by decide +kernel
theorem dX7_isClear_4 : decode cX7_isClear 4 = .ok (.istore 6, 2) := by decide +kernel
theorem dX7_isClear_6 : decode cX7_isClear 6 = .ok (.iconst 0, 1) := by decide +kernel
theorem dX7_isClear_7 : decode cX7_isClear 7 = .ok (.istore 7, 2) := by decide +kernel
theorem dX7_isClear_9 : decode cX7_isClear 9 = .ok (.iconst 0, 1) := by decide +kernel
theorem dX7_isClear_10 : decode cX7_isClear 10 = .ok (.istore 8, 2) := by decide +kernel
theorem dX7_isClear_12 : decode cX7_isClear 12 = .ok (.iload 8, 2) := by decide +kernel
theorem dX7_isClear_14 : decode cX7_isClear 14 = .ok (.aload_n 0, 1) := by decide +kernel
theorem dX7_isClear_15 : decode cX7_isClear 15 = .ok (.getfield 59, 3) := by decide +kernel
theorem dX7_isClear_18 : decode cX7_isClear 18 = .ok (.if_icmp .ge 125, 3) := by decide +kernel
theorem dX7_isClear_21 : decode cX7_isClear 21 = .ok (.aload_n 0, 1) := by decide +kernel
theorem dX7_isClear_22 : decode cX7_isClear 22 = .ok (.getfield 19, 3) := by decide +kernel
theorem dX7_isClear_25 : decode cX7_isClear 25 = .ok (.iload 8, 2) := by decide +kernel
theorem dX7_isClear_27 : decode cX7_isClear 27 = .ok (.iaload, 1) := by decide +kernel
theorem dX7_isClear_28 : decode cX7_isClear 28 = .ok (.iload_n 3, 1) := by decide +kernel
theorem dX7_isClear_29 : decode cX7_isClear 29 = .ok (.if_icmp .ne 13, 3) := by decide +kernel
theorem dX7_isClear_32 : decode cX7_isClear 32 = .ok (.aload_n 0, 1) := by decide +kernel
theorem dX7_isClear_33 : decode cX7_isClear 33 = .ok (.getfield 22, 3) := by decide +kernel
theorem dX7_isClear_36 : decode cX7_isClear 36 = .ok (.iload 8, 2) := by decide +kernel
theorem dX7_isClear_38 : decode cX7_isClear 38 = .ok (.iaload, 1) := by decide +kernel
theorem dX7_isClear_39 : decode cX7_isClear 39 = .ok (.goto 26, 3) := by decide +kernel
theorem dX7_isClear_42 : decode cX7_isClear 42 = .ok (.aload_n 0, 1) := by decide +kernel
theorem dX7_isClear_43 : decode cX7_isClear 43 = .ok (.getfield 22, 3) := by decide +kernel
theorem dX7_isClear_46 : decode cX7_isClear 46 = .ok (.iload 8, 2) := by decide +kernel
theorem dX7_isClear_48 : decode cX7_isClear 48 = .ok (.iaload, 1) := by decide +kernel
theorem dX7_isClear_49 : decode cX7_isClear 49 = .ok (.iload_n 3, 1) := by decide +kernel
theorem dX7_isClear_50 : decode cX7_isClear 50 = .ok (.if_icmp .ne 13, 3) := by decide +kernel
theorem dX7_isClear_53 : decode cX7_isClear 53 = .ok (.aload_n 0, 1) := by decide +kernel
theorem dX7_isClear_54 : decode cX7_isClear 54 = .ok (.getfield 19, 3) := by decide +kernel
theorem dX7_isClear_57 : decode cX7_isClear 57 = .ok (.iload 8, 2) := by decide +kernel
theorem dX7_isClear_59 : decode cX7_isClear 59 = .ok (.iaload, 1) := by decide +kernel
theorem dX7_isClear_60 : decode cX7_isClear 60 = .ok (.goto 5, 3) := by decide +kernel
theorem dX7_isClear_63 : decode cX7_isClear 63 = .ok (.iload 4, 2) := by decide +kernel
theorem dX7_isClear_65 : decode cX7_isClear 65 = .ok (.istore 9, 2) := by decide +kernel
theorem dX7_isClear_67 : decode cX7_isClear 67 = .ok (.iload 9, 2) := by decide +kernel
theorem dX7_isClear_69 : decode cX7_isClear 69 = .ok (.iload 4, 2) := by decide +kernel
theorem dX7_isClear_71 : decode cX7_isClear 71 = .ok (.if_icmp .ne 7, 3) := by decide +kernel
theorem dX7_isClear_74 : decode cX7_isClear 74 = .ok (.iconst 2, 1) := by decide +kernel
theorem dX7_isClear_75 : decode cX7_isClear 75 = .ok (.goto 11, 3) := by decide +kernel
theorem dX7_isClear_78 : decode cX7_isClear 78 = .ok (.aload_n 0, 1) := by decide +kernel
theorem dX7_isClear_79 : decode cX7_isClear 79 = .ok (.iload_n 1, 1) := by decide +kernel
theorem dX7_isClear_80 : decode cX7_isClear 80 = .ok (.iload_n 2, 1) := by decide +kernel
theorem dX7_isClear_81 : decode cX7_isClear 81 = .ok (.iload 9, 2) := by decide +kernel
theorem dX7_isClear_83 : decode cX7_isClear 83 = .ok (.invokevirtual 109, 3) := by decide +kernel
theorem dX7_isClear_86 : decode cX7_isClear 86 = .ok (.istore 10, 2) := by decide +kernel
theorem dX7_isClear_88 : decode cX7_isClear 88 = .ok (.iload 5, 2) := by decide +kernel
theorem dX7_isClear_90 : decode cX7_isClear 90 = .ok (.iload 10, 2) := by decide +kernel
theorem dX7_isClear_92 : decode cX7_isClear 92 = .ok (.iconst 1, 1) := by decide +kernel
theorem dX7_isClear_93 : decode cX7_isClear 93 = .ok (.if_icmp .ne 7, 3) := by decide +kernel
theorem dX7_isClear_96 : decode cX7_isClear 96 = .ok (.iconst 1, 1) := by decide +kernel
theorem dX7_isClear_97 : decode cX7_isClear 97 = .ok (.goto 4, 3) := by decide +kernel
theorem dX7_isClear_100 : decode cX7_isClear 100 = .ok (.iconst 0, 1) := by decide +kernel
theorem dX7_isClear_101 : decode cX7_isClear 101 = .ok (.iadd, 1) := by decide +kernel
theorem dX7_isClear_102 : decode cX7_isClear 102 = .ok (.istore 5, 2) := by decide +kernel
theorem dX7_isClear_104 : decode cX7_isClear 104 = .ok (.iload 6, 2) := by decide +kernel
theorem dX7_isClear_106 : decode cX7_isClear 106 = .ok (.iload 10, 2) := by decide +kernel
theorem dX7_isClear_108 : decode cX7_isClear 108 = .ok (.iconst (-1), 1) := by decide +kernel
theorem dX7_isClear_109 : decode cX7_isClear 109 = .ok (.if_icmp .ne 7, 3) := by decide +kernel
theorem dX7_isClear_112 : decode cX7_isClear 112 = .ok (.iconst 1, 1) := by decide +kernel
theorem dX7_isClear_113 : decode cX7_isClear 113 = .ok (.goto 4, 3) := by decide +kernel
theorem dX7_isClear_116 : decode cX7_isClear 116 = .ok (.iconst 0, 1) := by decide +kernel
theorem dX7_isClear_117 : decode cX7_isClear 117 = .ok (.iadd, 1) := by decide +kernel
theorem dX7_isClear_118 : decode cX7_isClear 118 = .ok (.istore 6, 2) := by decide +kernel
theorem dX7_isClear_120 : decode cX7_isClear 120 = .ok (.iload 7, 2) := by decide +kernel
theorem dX7_isClear_122 : decode cX7_isClear 122 = .ok (.ifCond .ne 8, 3) := by decide +kernel
theorem dX7_isClear_125 : decode cX7_isClear 125 = .ok (.iload 10, 2) := by decide +kernel
theorem dX7_isClear_127 : decode cX7_isClear 127 = .ok (.ifCond .ne 7, 3) := by decide +kernel
theorem dX7_isClear_130 : decode cX7_isClear 130 = .ok (.iconst 1, 1) := by decide +kernel
theorem dX7_isClear_131 : decode cX7_isClear 131 = .ok (.goto 4, 3) := by decide +kernel
theorem dX7_isClear_134 : decode cX7_isClear 134 = .ok (.iconst 0, 1) := by decide +kernel
theorem dX7_isClear_135 : decode cX7_isClear 135 = .ok (.istore 7, 2) := by decide +kernel
theorem dX7_isClear_137 : decode cX7_isClear 137 = .ok (.iinc 8 1, 3) := by decide +kernel
theorem dX7_isClear_140 : decode cX7_isClear 140 = .ok (.goto (-128), 3) := by decide +kernel
theorem dX7_isClear_143 : decode cX7_isClear 143 = .ok (.iload 7, 2) := by decide +kernel
theorem dX7_isClear_145 : decode cX7_isClear 145 = .ok (.ifCond .ne 19, 3) := by decide +kernel
theorem dX7_isClear_148 : decode cX7_isClear 148 = .ok (.iload 5, 2) := by decide +kernel
theorem dX7_isClear_150 : decode cX7_isClear 150 = .ok (.iconst 2, 1) := by decide +kernel
theorem dX7_isClear_151 : decode cX7_isClear 151 = .ok (.if_icmp .ge 13, 3) := by decide +kernel
theorem dX7_isClear_154 : decode cX7_isClear 154 = .ok (.iload 6, 2) := by decide +kernel
theorem dX7_isClear_156 : decode cX7_isClear 156 = .ok (.iconst 2, 1) := by decide +kernel
theorem dX7_isClear_157 : decode cX7_isClear 157 = .ok (.if_icmp .ge 7, 3) := by decide +kernel
theorem dX7_isClear_160 : decode cX7_isClear 160 = .ok (.iconst 1, 1) := by decide +kernel
theorem dX7_isClear_161 : decode cX7_isClear 161 = .ok (.goto 4, 3) := by decide +kernel
theorem dX7_isClear_164 : decode cX7_isClear 164 = .ok (.iconst 0, 1) := by decide +kernel
theorem dX7_isClear_165 : decode cX7_isClear 165 = .ok (.ireturn, 1) := by decide +kernel
theorem dX7_side_0 : decode cX7_side 0 = .ok (.aload_n 0, 1) := by decide +kernel
theorem dX7_side_1 : decode cX7_side 1 = .ok (.getfield 13, 3) := by decide +kernel
theorem dX7_side_4 : decode cX7_side 4 = .ok (.iload_n 2, 1) := by decide +kernel
theorem dX7_side_5 : decode cX7_side 5 = .ok (.iaload, 1) := by decide +kernel
theorem dX7_side_6 : decode cX7_side 6 = .ok (.aload_n 0, 1) := by decide +kernel
theorem dX7_side_7 : decode cX7_side 7 = .ok (.getfield 13, 3) := by decide +kernel
theorem dX7_side_10 : decode cX7_side 10 = .ok (.iload_n 1, 1) := by decide +kernel
theorem dX7_side_11 : decode cX7_side 11 = .ok (.iaload, 1) := by decide +kernel
theorem dX7_side_12 : decode cX7_side 12 = .ok (.isub, 1) := by decide +kernel
theorem dX7_side_13 : decode cX7_side 13 = .ok (.aload_n 0, 1) := by decide +kernel
theorem dX7_side_14 : decode cX7_side 14 = .ok (.getfield 16, 3) := by decide +kernel
theorem dX7_side_17 : decode cX7_side 17 = .ok (.iload_n 3, 1) := by decide +kernel
theorem dX7_side_18 : decode cX7_side 18 = .ok (.iaload, 1) := by decide +kernel
theorem dX7_side_19 : decode cX7_side 19 = .ok (.aload_n 0, 1) := by decide +kernel
theorem dX7_side_20 : decode cX7_side 20 = .ok (.getfield 16, 3) := by decide +kernel
theorem dX7_side_23 : decode cX7_side 23 = .ok (.iload_n 1, 1) := by decide +kernel
theorem dX7_side_24 : decode cX7_side 24 = .ok (.iaload, 1) := by decide +kernel
theorem dX7_side_25 : decode cX7_side 25 = .ok (.isub, 1) := by decide +kernel
theorem dX7_side_26 : decode cX7_side 26 = .ok (.imul, 1) := by decide +kernel
theorem dX7_side_27 : decode cX7_side 27 = .ok (.aload_n 0, 1) := by decide +kernel
theorem dX7_side_28 : decode cX7_side 28 = .ok (.getfield 16, 3) := by decide +kernel
theorem dX7_side_31 : decode cX7_side 31 = .ok (.iload_n 2, 1) := by decide +kernel
theorem dX7_side_32 : decode cX7_side 32 = .ok (.iaload, 1) := by decide +kernel
theorem dX7_side_33 : decode cX7_side 33 = .ok (.aload_n 0, 1) := by decide +kernel
theorem dX7_side_34 : decode cX7_side 34 = .ok (.getfield 16, 3) := by decide +kernel
theorem dX7_side_37 : decode cX7_side 37 = .ok (.iload_n 1, 1) := by decide +kernel
theorem dX7_side_38 : decode cX7_side 38 = .ok (.iaload, 1) := by decide +kernel
theorem dX7_side_39 : decode cX7_side 39 = .ok (.isub, 1) := by decide +kernel
theorem dX7_side_40 : decode cX7_side 40 = .ok (.aload_n 0, 1) := by decide +kernel
theorem dX7_side_41 : decode cX7_side 41 = .ok (.getfield 13, 3) := by decide +kernel
theorem dX7_side_44 : decode cX7_side 44 = .ok (.iload_n 3, 1) := by decide +kernel
theorem dX7_side_45 : decode cX7_side 45 = .ok (.iaload, 1) := by decide +kernel
theorem dX7_side_46 : decode cX7_side 46 = .ok (.aload_n 0, 1) := by decide +kernel
theorem dX7_side_47 : decode cX7_side 47 = .ok (.getfield 13, 3) := by decide +kernel
theorem dX7_side_50 : decode cX7_side 50 = .ok (.iload_n 1, 1) := by decide +kernel
theorem dX7_side_51 : decode cX7_side 51 = .ok (.iaload, 1) := by decide +kernel
theorem dX7_side_52 : decode cX7_side 52 = .ok (.isub, 1) := by decide +kernel
theorem dX7_side_53 : decode cX7_side 53 = .ok (.imul, 1) := by decide +kernel
theorem dX7_side_54 : decode cX7_side 54 = .ok (.isub, 1) := by decide +kernel
theorem dX7_side_55 : decode cX7_side 55 = .ok (.invokestatic 96, 3) := by decide +kernel
theorem dX7_side_58 : decode cX7_side 58 = .ok (.ireturn, 1) := by decide +kernel
theorem dX7_leastBeside_0 : decode cX7_leastBeside 0 = .ok (.iconst (-1), 1) := by decide +kernel
theorem dX7_leastBeside_1 : decode cX7_leastBeside 1 = .ok (.istore_n 3, 1) := by decide +kernel
theorem dX7_leastBeside_2 : decode cX7_leastBeside 2 = .ok (.aload_n 0, 1) := by decide +kernel
theorem dX7_leastBeside_3 : decode cX7_leastBeside 3 = .ok (.getfield 55, 3) := by decide +kernel
theorem dX7_leastBeside_6 : decode cX7_leastBeside 6 = .ok (.iconst 1, 1) := by decide +kernel
theorem dX7_leastBeside_7 : decode cX7_leastBeside 7 = .ok (.isub, 1) := by decide +kernel
theorem dX7_leastBeside_8 : decode cX7_leastBeside 8 = .ok (.istore 4, 2) := by decide +kernel
theorem dX7_leastBeside_10 : decode cX7_leastBeside 10 = .ok (.iload 4, 2) := by decide +kernel
theorem dX7_leastBeside_12 : decode cX7_leastBeside 12 = .ok (.ifCond .lt 47, 3) := by decide +kernel
theorem dX7_leastBeside_15 : decode cX7_leastBeside 15 = .ok (.aload_n 0, 1) := by decide +kernel
theorem dX7_leastBeside_16 : decode cX7_leastBeside 16 = .ok (.getfield 31, 3) := by decide +kernel
theorem dX7_leastBeside_19 : decode cX7_leastBeside 19 = .ok (.iload 4, 2) := by decide +kernel
theorem dX7_leastBeside_21 : decode cX7_leastBeside 21 = .ok (.iaload, 1) := by decide +kernel
theorem dX7_leastBeside_22 : decode cX7_leastBeside 22 = .ok (.iload_n 2, 1) := by decide +kernel
theorem dX7_leastBeside_23 : decode cX7_leastBeside 23 = .ok (.if_icmp .eq 28, 3) := by decide +kernel
theorem dX7_leastBeside_26 : decode cX7_leastBeside 26 = .ok (.aload_n 0, 1) := by decide +kernel
theorem dX7_leastBeside_27 : decode cX7_leastBeside 27 = .ok (.iload_n 1, 1) := by decide +kernel
theorem dX7_leastBeside_28 : decode cX7_leastBeside 28 = .ok (.aload_n 0, 1) := by decide +kernel
theorem dX7_leastBeside_29 : decode cX7_leastBeside 29 = .ok (.getfield 31, 3) := by decide +kernel
theorem dX7_leastBeside_32 : decode cX7_leastBeside 32 = .ok (.iload 4, 2) := by decide +kernel
theorem dX7_leastBeside_34 : decode cX7_leastBeside 34 = .ok (.iaload, 1) := by decide +kernel
theorem dX7_leastBeside_35 : decode cX7_leastBeside 35 = .ok (.invokevirtual 77, 3) := by decide +kernel
theorem dX7_leastBeside_38 : decode cX7_leastBeside 38 = .ok (.ifCond .lt 13, 3) := by decide +kernel
theorem dX7_leastBeside_41 : decode cX7_leastBeside 41 = .ok (.aload_n 0, 1) := by decide +kernel
theorem dX7_leastBeside_42 : decode cX7_leastBeside 42 = .ok (.getfield 31, 3) := by decide +kernel
theorem dX7_leastBeside_45 : decode cX7_leastBeside 45 = .ok (.iload 4, 2) := by decide +kernel
theorem dX7_leastBeside_47 : decode cX7_leastBeside 47 = .ok (.iaload, 1) := by decide +kernel
theorem dX7_leastBeside_48 : decode cX7_leastBeside 48 = .ok (.goto 4, 3) := by decide +kernel
theorem dX7_leastBeside_51 : decode cX7_leastBeside 51 = .ok (.iload_n 3, 1) := by decide +kernel
theorem dX7_leastBeside_52 : decode cX7_leastBeside 52 = .ok (.istore_n 3, 1) := by decide +kernel
theorem dX7_leastBeside_53 : decode cX7_leastBeside 53 = .ok (.iinc 4 (-1), 3) := by decide +kernel
theorem dX7_leastBeside_56 : decode cX7_leastBeside 56 = .ok (.goto (-46), 3) := by decide +kernel
theorem dX7_leastBeside_59 : decode cX7_leastBeside 59 = .ok (.iload_n 3, 1) := by decide +kernel
theorem dX7_leastBeside_60 : decode cX7_leastBeside 60 = .ok (.ireturn, 1) := by decide +kernel
theorem dX7_row_0 : decode cX7_row 0 = .ok (.aload_n 0, 1) := by decide +kernel
theorem dX7_row_1 : decode cX7_row 1 = .ok (.invokevirtual 141, 3) := by decide +kernel
theorem dX7_row_4 : decode cX7_row 4 = .ok (.aload_n 0, 1) := by decide +kernel
theorem dX7_row_5 : decode cX7_row 5 = .ok (.iload_n 1, 1) := by decide +kernel
theorem dX7_row_6 : decode cX7_row 6 = .ok (.invokevirtual 74, 3) := by decide +kernel
theorem dX7_row_9 : decode cX7_row 9 = .ok (.ifCond .eq 12, 3) := by decide +kernel
theorem dX7_row_12 : decode cX7_row 12 = .ok (.aload_n 0, 1) := by decide +kernel
theorem dX7_row_13 : decode cX7_row 13 = .ok (.getfield 37, 3) := by decide +kernel
theorem dX7_row_16 : decode cX7_row 16 = .ok (.iload_n 1, 1) := by decide +kernel
theorem dX7_row_17 : decode cX7_row 17 = .ok (.iaload, 1) := by decide +kernel
theorem dX7_row_18 : decode cX7_row 18 = .ok (.goto 4, 3) := by decide +kernel
theorem dX7_row_21 : decode cX7_row 21 = .ok (.iconst (-1), 1) := by decide +kernel
theorem dX7_row_22 : decode cX7_row 22 = .ok (.ireturn, 1) := by decide +kernel
theorem dX7_search_0 : decode cX7_search 0 = .ok (.aload_n 0, 1) := by decide +kernel
theorem dX7_search_1 : decode cX7_search 1 = .ok (.getfield 66, 3) := by decide +kernel
theorem dX7_search_4 : decode cX7_search 4 = .ok (.ifCond .eq 4, 3) := by decide +kernel
theorem dX7_search_7 : decode cX7_search 7 = .ok (.return_, 1) := by decide +kernel
theorem dX7_search_8 : decode cX7_search 8 = .ok (.aload_n 0, 1) := by decide +kernel
theorem dX7_search_9 : decode cX7_search 9 = .ok (.iconst 1, 1) := by decide +kernel
theorem dX7_search_10 : decode cX7_search 10 = .ok (.putfield 66, 3) := by decide +kernel
theorem dX7_search_13 : decode cX7_search 13 = .ok (.aload_n 0, 1) := by decide +kernel
theorem dX7_search_14 : decode cX7_search 14 = .ok (.invokevirtual 113, 3) := by decide +kernel
theorem dX7_search_17 : decode cX7_search 17 = .ok (.aload_n 0, 1) := by decide +kernel
theorem dX7_search_18 : decode cX7_search 18 = .ok (.iconst 0, 1) := by decide +kernel
theorem dX7_search_19 : decode cX7_search 19 = .ok (.putfield 127, 3) := by decide +kernel
theorem dX7_search_22 : decode cX7_search 22 = .ok (.aload_n 0, 1) := by decide +kernel
theorem dX7_search_23 : decode cX7_search 23 = .ok (.getfield 55, 3) := by decide +kernel
theorem dX7_search_26 : decode cX7_search 26 = .ok (.ifCond .le 7, 3) := by decide +kernel
theorem dX7_search_29 : decode cX7_search 29 = .ok (.iconst 1, 1) := by decide +kernel
theorem dX7_search_30 : decode cX7_search 30 = .ok (.goto 4, 3) := by decide +kernel
theorem dX7_search_33 : decode cX7_search 33 = .ok (.iconst 0, 1) := by decide +kernel
theorem dX7_search_34 : decode cX7_search 34 = .ok (.istore_n 1, 1) := by decide +kernel
theorem dX7_search_35 : decode cX7_search 35 = .ok (.iload_n 1, 1) := by decide +kernel
theorem dX7_search_36 : decode cX7_search 36 = .ok (.ifCond .eq 153, 3) := by decide +kernel
theorem dX7_search_39 : decode cX7_search 39 = .ok (.aload_n 0, 1) := by decide +kernel
theorem dX7_search_40 : decode cX7_search 40 = .ok (.getfield 127, 3) := by decide +kernel
theorem dX7_search_43 : decode cX7_search 43 = .ok (.ifCond .ne 7, 3) := by decide +kernel
theorem dX7_search_46 : decode cX7_search 46 = .ok (.iconst (-1), 1) := by decide +kernel
theorem dX7_search_47 : decode cX7_search 47 = .ok (.goto 4, 3) := by decide +kernel
theorem dX7_search_50 : decode cX7_search 50 = .ok (.iconst 0, 1) := by decide +kernel
theorem dX7_search_51 : decode cX7_search 51 = .ok (.istore_n 2, 1) := by decide +kernel
theorem dX7_search_52 : decode cX7_search 52 = .ok (.iconst 0, 1) := by decide +kernel
theorem dX7_search_53 : decode cX7_search 53 = .ok (.istore_n 3, 1) := by decide +kernel
theorem dX7_search_54 : decode cX7_search 54 = .ok (.iload_n 3, 1) := by decide +kernel
theorem dX7_search_55 : decode cX7_search 55 = .ok (.aload_n 0, 1) := by decide +kernel
theorem dX7_search_56 : decode cX7_search 56 = .ok (.getfield 55, 3) := by decide +kernel
theorem dX7_search_59 : decode cX7_search 59 = .ok (.if_icmp .ge 78, 3) := by decide +kernel
theorem dX7_search_62 : decode cX7_search 62 = .ok (.iload_n 2, 1) := by decide +kernel
theorem dX7_search_63 : decode cX7_search 63 = .ok (.iconst 1, 1) := by decide +kernel
theorem dX7_search_64 : decode cX7_search 64 = .ok (.if_icmp .ge 73, 3) := by decide +kernel
theorem dX7_search_67 : decode cX7_search 67 = .ok (.aload_n 0, 1) := by decide +kernel
theorem dX7_search_68 : decode cX7_search 68 = .ok (.iload_n 3, 1) := by decide +kernel
theorem dX7_search_69 : decode cX7_search 69 = .ok (.invokevirtual 130, 3) := by decide +kernel
theorem dX7_search_72 : decode cX7_search 72 = .ok (.istore 4, 2) := by decide +kernel
theorem dX7_search_74 : decode cX7_search 74 = .ok (.iload_n 2, 1) := by decide +kernel
theorem dX7_search_75 : decode cX7_search 75 = .ok (.ifCond .lt 14, 3) := by decide +kernel
theorem dX7_search_78 : decode cX7_search 78 = .ok (.iload 4, 2) := by decide +kernel
theorem dX7_search_80 : decode cX7_search 80 = .ok (.aload_n 0, 1) := by decide +kernel
theorem dX7_search_81 : decode cX7_search 81 = .ok (.getfield 37, 3) := by decide +kernel
theorem dX7_search_84 : decode cX7_search 84 = .ok (.iload_n 3, 1) := by decide +kernel
theorem dX7_search_85 : decode cX7_search 85 = .ok (.iaload, 1) := by decide +kernel
theorem dX7_search_86 : decode cX7_search 86 = .ok (.if_icmp .ne 7, 3) := by decide +kernel
theorem dX7_search_89 : decode cX7_search 89 = .ok (.iload_n 2, 1) := by decide +kernel
theorem dX7_search_90 : decode cX7_search 90 = .ok (.goto 19, 3) := by decide +kernel
theorem dX7_search_93 : decode cX7_search 93 = .ok (.iload 4, 2) := by decide +kernel
theorem dX7_search_95 : decode cX7_search 95 = .ok (.aload_n 0, 1) := by decide +kernel
theorem dX7_search_96 : decode cX7_search 96 = .ok (.getfield 37, 3) := by decide +kernel
theorem dX7_search_99 : decode cX7_search 99 = .ok (.iload_n 3, 1) := by decide +kernel
theorem dX7_search_100 : decode cX7_search 100 = .ok (.iaload, 1) := by decide +kernel
theorem dX7_search_101 : decode cX7_search 101 = .ok (.if_icmp .ge 7, 3) := by decide +kernel
theorem dX7_search_104 : decode cX7_search 104 = .ok (.iconst (-1), 1) := by decide +kernel
theorem dX7_search_105 : decode cX7_search 105 = .ok (.goto 4, 3) := by decide +kernel
theorem dX7_search_108 : decode cX7_search 108 = .ok (.iconst 1, 1) := by decide +kernel
theorem dX7_search_109 : decode cX7_search 109 = .ok (.istore_n 2, 1) := by decide +kernel
theorem dX7_search_110 : decode cX7_search 110 = .ok (.aload_n 0, 1) := by decide +kernel
theorem dX7_search_111 : decode cX7_search 111 = .ok (.getfield 37, 3) := by decide +kernel
theorem dX7_search_114 : decode cX7_search 114 = .ok (.iload_n 3, 1) := by decide +kernel
theorem dX7_search_115 : decode cX7_search 115 = .ok (.iload_n 2, 1) := by decide +kernel
theorem dX7_search_116 : decode cX7_search 116 = .ok (.ifCond .ge 8, 3) := by decide +kernel
theorem dX7_search_119 : decode cX7_search 119 = .ok (.iload 4, 2) := by decide +kernel
theorem dX7_search_121 : decode cX7_search 121 = .ok (.goto 9, 3) := by decide +kernel
theorem dX7_search_124 : decode cX7_search 124 = .ok (.aload_n 0, 1) := by decide +kernel
theorem dX7_search_125 : decode cX7_search 125 = .ok (.getfield 37, 3) := by decide +kernel
theorem dX7_search_128 : decode cX7_search 128 = .ok (.iload_n 3, 1) := by decide +kernel
theorem dX7_search_129 : decode cX7_search 129 = .ok (.iaload, 1) := by decide +kernel
theorem dX7_search_130 : decode cX7_search 130 = .ok (.iastore, 1) := by decide +kernel
theorem dX7_search_131 : decode cX7_search 131 = .ok (.iinc 3 1, 3) := by decide +kernel
theorem dX7_search_134 : decode cX7_search 134 = .ok (.goto (-80), 3) := by decide +kernel
theorem dX7_search_137 : decode cX7_search 137 = .ok (.aload_n 0, 1) := by decide +kernel
theorem dX7_search_138 : decode cX7_search 138 = .ok (.iload_n 2, 1) := by decide +kernel
theorem dX7_search_139 : decode cX7_search 139 = .ok (.ifCond .ge 7, 3) := by decide +kernel
theorem dX7_search_142 : decode cX7_search 142 = .ok (.iconst 0, 1) := by decide +kernel
theorem dX7_search_143 : decode cX7_search 143 = .ok (.goto 7, 3) := by decide +kernel
theorem dX7_search_146 : decode cX7_search 146 = .ok (.aload_n 0, 1) := by decide +kernel
theorem dX7_search_147 : decode cX7_search 147 = .ok (.getfield 127, 3) := by decide +kernel
theorem dX7_search_150 : decode cX7_search 150 = .ok (.putfield 127, 3) := by decide +kernel
theorem dX7_search_153 : decode cX7_search 153 = .ok (.iload_n 2, 1) := by decide +kernel
theorem dX7_search_154 : decode cX7_search 154 = .ok (.iconst 1, 1) := by decide +kernel
theorem dX7_search_155 : decode cX7_search 155 = .ok (.if_icmp .ge 26, 3) := by decide +kernel
theorem dX7_search_158 : decode cX7_search 158 = .ok (.aload_n 0, 1) := by decide +kernel
theorem dX7_search_159 : decode cX7_search 159 = .ok (.getfield 40, 3) := by decide +kernel
theorem dX7_search_162 : decode cX7_search 162 = .ok (.aload_n 0, 1) := by decide +kernel
theorem dX7_search_163 : decode cX7_search 163 = .ok (.getfield 127, 3) := by decide +kernel
theorem dX7_search_166 : decode cX7_search 166 = .ok (.aload_n 0, 1) := by decide +kernel
theorem dX7_search_167 : decode cX7_search 167 = .ok (.invokevirtual 133, 3) := by decide +kernel
theorem dX7_search_170 : decode cX7_search 170 = .ok (.iastore, 1) := by decide +kernel
theorem dX7_search_171 : decode cX7_search 171 = .ok (.aload_n 0, 1) := by decide +kernel
theorem dX7_search_172 : decode cX7_search 172 = .ok (.dup, 1) := by decide +kernel
theorem dX7_search_173 : decode cX7_search 173 = .ok (.getfield 127, 3) := by decide +kernel
theorem dX7_search_176 : decode cX7_search 176 = .ok (.iconst 1, 1) := by decide +kernel
theorem dX7_search_177 : decode cX7_search 177 = .ok (.iadd, 1) := by decide +kernel
theorem dX7_search_178 : decode cX7_search 178 = .ok (.putfield 127, 3) := by decide +kernel
theorem dX7_search_181 : decode cX7_search 181 = .ok (.aload_n 0, 1) := by decide +kernel
theorem dX7_search_182 : decode cX7_search 182 = .ok (.invokevirtual 137, 3) := by decide +kernel
theorem dX7_search_185 : decode cX7_search 185 = .ok (.istore_n 1, 1) := by decide +kernel
theorem dX7_search_186 : decode cX7_search 186 = .ok (.goto (-151), 3) := by decide +kernel
theorem dX7_search_189 : decode cX7_search 189 = .ok (.return_, 1) := by decide +kernel
theorem dX7_rowOf_0 : decode cX7_rowOf 0 = .ok (.ldc 122, 2) := by decide +kernel
theorem dX7_rowOf_2 : decode cX7_rowOf 2 = .ok (.bipush 8, 2) := by decide +kernel
theorem dX7_rowOf_4 : decode cX7_rowOf 4 = .ok (.aload_n 0, 1) := by decide +kernel
theorem dX7_rowOf_5 : decode cX7_rowOf 5 = .ok (.getfield 7, 3) := by decide +kernel
theorem dX7_rowOf_8 : decode cX7_rowOf 8 = .ok (.aload_n 0, 1) := by decide +kernel
theorem dX7_rowOf_9 : decode cX7_rowOf 9 = .ok (.getfield 31, 3) := by decide +kernel
theorem dX7_rowOf_12 : decode cX7_rowOf 12 = .ok (.iload_n 1, 1) := by decide +kernel
theorem dX7_rowOf_13 : decode cX7_rowOf 13 = .ok (.iaload, 1) := by decide +kernel
theorem dX7_rowOf_14 : decode cX7_rowOf 14 = .ok (.iaload, 1) := by decide +kernel
theorem dX7_rowOf_15 : decode cX7_rowOf 15 = .ok (.imul, 1) := by decide +kernel
theorem dX7_rowOf_16 : decode cX7_rowOf 16 = .ok (.aload_n 0, 1) := by decide +kernel
theorem dX7_rowOf_17 : decode cX7_rowOf 17 = .ok (.aload_n 0, 1) := by decide +kernel
theorem dX7_rowOf_18 : decode cX7_rowOf 18 = .ok (.getfield 31, 3) := by decide +kernel
theorem dX7_rowOf_21 : decode cX7_rowOf 21 = .ok (.iload_n 1, 1) := by decide +kernel
theorem dX7_rowOf_22 : decode cX7_rowOf 22 = .ok (.iaload, 1) := by decide +kernel
theorem dX7_rowOf_23 : decode cX7_rowOf 23 = .ok (.invokevirtual 81, 3) := by decide +kernel
theorem dX7_rowOf_26 : decode cX7_rowOf 26 = .ok (.iadd, 1) := by decide +kernel
theorem dX7_rowOf_27 : decode cX7_rowOf 27 = .ok (.imul, 1) := by decide +kernel
theorem dX7_rowOf_28 : decode cX7_rowOf 28 = .ok (.istore_n 2, 1) := by decide +kernel
theorem dX7_rowOf_29 : decode cX7_rowOf 29 = .ok (.iconst 0, 1) := by decide +kernel
theorem dX7_rowOf_30 : decode cX7_rowOf 30 = .ok (.istore_n 3, 1) := by decide +kernel
theorem dX7_rowOf_31 : decode cX7_rowOf 31 = .ok (.iload_n 3, 1) := by decide +kernel
theorem dX7_rowOf_32 : decode cX7_rowOf 32 = .ok (.iload_n 1, 1) := by decide +kernel
theorem dX7_rowOf_33 : decode cX7_rowOf 33 = .ok (.if_icmp .ge 50, 3) := by decide +kernel
theorem dX7_rowOf_36 : decode cX7_rowOf 36 = .ok (.aload_n 0, 1) := by decide +kernel
theorem dX7_rowOf_37 : decode cX7_rowOf 37 = .ok (.aload_n 0, 1) := by decide +kernel
theorem dX7_rowOf_38 : decode cX7_rowOf 38 = .ok (.getfield 31, 3) := by decide +kernel
theorem dX7_rowOf_41 : decode cX7_rowOf 41 = .ok (.iload_n 1, 1) := by decide +kernel
theorem dX7_rowOf_42 : decode cX7_rowOf 42 = .ok (.iaload, 1) := by decide +kernel
theorem dX7_rowOf_43 : decode cX7_rowOf 43 = .ok (.aload_n 0, 1) := by decide +kernel
theorem dX7_rowOf_44 : decode cX7_rowOf 44 = .ok (.getfield 31, 3) := by decide +kernel
theorem dX7_rowOf_47 : decode cX7_rowOf 47 = .ok (.iload_n 3, 1) := by decide +kernel
theorem dX7_rowOf_48 : decode cX7_rowOf 48 = .ok (.iaload, 1) := by decide +kernel
theorem dX7_rowOf_49 : decode cX7_rowOf 49 = .ok (.invokevirtual 77, 3) := by decide +kernel
theorem dX7_rowOf_52 : decode cX7_rowOf 52 = .ok (.istore 4, 2) := by decide +kernel
theorem dX7_rowOf_54 : decode cX7_rowOf 54 = .ok (.iload_n 2, 1) := by decide +kernel
theorem dX7_rowOf_55 : decode cX7_rowOf 55 = .ok (.iload 4, 2) := by decide +kernel
theorem dX7_rowOf_57 : decode cX7_rowOf 57 = .ok (.ifCond .ge 7, 3) := by decide +kernel
theorem dX7_rowOf_60 : decode cX7_rowOf 60 = .ok (.iconst 0, 1) := by decide +kernel
theorem dX7_rowOf_61 : decode cX7_rowOf 61 = .ok (.goto 14, 3) := by decide +kernel
theorem dX7_rowOf_64 : decode cX7_rowOf 64 = .ok (.aload_n 0, 1) := by decide +kernel
theorem dX7_rowOf_65 : decode cX7_rowOf 65 = .ok (.getfield 25, 3) := by decide +kernel
theorem dX7_rowOf_68 : decode cX7_rowOf 68 = .ok (.iload 4, 2) := by decide +kernel
theorem dX7_rowOf_70 : decode cX7_rowOf 70 = .ok (.iaload, 1) := by decide +kernel
theorem dX7_rowOf_71 : decode cX7_rowOf 71 = .ok (.iconst 2, 1) := by decide +kernel
theorem dX7_rowOf_72 : decode cX7_rowOf 72 = .ok (.iload_n 3, 1) := by decide +kernel
theorem dX7_rowOf_73 : decode cX7_rowOf 73 = .ok (.imul, 1) := by decide +kernel
theorem dX7_rowOf_74 : decode cX7_rowOf 74 = .ok (.ishl, 1) := by decide +kernel
theorem dX7_rowOf_75 : decode cX7_rowOf 75 = .ok (.iadd, 1) := by decide +kernel
theorem dX7_rowOf_76 : decode cX7_rowOf 76 = .ok (.istore_n 2, 1) := by decide +kernel
theorem dX7_rowOf_77 : decode cX7_rowOf 77 = .ok (.iinc 3 1, 3) := by decide +kernel
theorem dX7_rowOf_80 : decode cX7_rowOf 80 = .ok (.goto (-49), 3) := by decide +kernel
theorem dX7_rowOf_83 : decode cX7_rowOf 83 = .ok (.iload_n 2, 1) := by decide +kernel
theorem dX7_rowOf_84 : decode cX7_rowOf 84 = .ok (.ireturn, 1) := by decide +kernel
theorem dX7_packed_0 : decode cX7_packed 0 = .ok (.iconst 0, 1) := by decide +kernel
theorem dX7_packed_1 : decode cX7_packed 1 = .ok (.istore_n 1, 1) := by decide +kernel
theorem dX7_packed_2 : decode cX7_packed 2 = .ok (.iconst 0, 1) := by decide +kernel
theorem dX7_packed_3 : decode cX7_packed 3 = .ok (.istore_n 2, 1) := by decide +kernel
theorem dX7_packed_4 : decode cX7_packed 4 = .ok (.iload_n 2, 1) := by decide +kernel
theorem dX7_packed_5 : decode cX7_packed 5 = .ok (.aload_n 0, 1) := by decide +kernel
theorem dX7_packed_6 : decode cX7_packed 6 = .ok (.getfield 55, 3) := by decide +kernel
theorem dX7_packed_9 : decode cX7_packed 9 = .ok (.if_icmp .ge 22, 3) := by decide +kernel
theorem dX7_packed_12 : decode cX7_packed 12 = .ok (.iload_n 1, 1) := by decide +kernel
theorem dX7_packed_13 : decode cX7_packed 13 = .ok (.aload_n 0, 1) := by decide +kernel
theorem dX7_packed_14 : decode cX7_packed 14 = .ok (.getfield 31, 3) := by decide +kernel
theorem dX7_packed_17 : decode cX7_packed 17 = .ok (.iload_n 2, 1) := by decide +kernel
theorem dX7_packed_18 : decode cX7_packed 18 = .ok (.iaload, 1) := by decide +kernel
theorem dX7_packed_19 : decode cX7_packed 19 = .ok (.iconst 3, 1) := by decide +kernel
theorem dX7_packed_20 : decode cX7_packed 20 = .ok (.iload_n 2, 1) := by decide +kernel
theorem dX7_packed_21 : decode cX7_packed 21 = .ok (.imul, 1) := by decide +kernel
theorem dX7_packed_22 : decode cX7_packed 22 = .ok (.ishl, 1) := by decide +kernel
theorem dX7_packed_23 : decode cX7_packed 23 = .ok (.ior, 1) := by decide +kernel
theorem dX7_packed_24 : decode cX7_packed 24 = .ok (.istore_n 1, 1) := by decide +kernel
theorem dX7_packed_25 : decode cX7_packed 25 = .ok (.iinc 2 1, 3) := by decide +kernel
theorem dX7_packed_28 : decode cX7_packed 28 = .ok (.goto (-24), 3) := by decide +kernel
theorem dX7_packed_31 : decode cX7_packed 31 = .ok (.iload_n 1, 1) := by decide +kernel
theorem dX7_packed_32 : decode cX7_packed 32 = .ok (.ireturn, 1) := by decide +kernel
theorem dX7_nextOrder_0 : decode cX7_nextOrder 0 = .ok (.aload_n 0, 1) := by decide +kernel
theorem dX7_nextOrder_1 : decode cX7_nextOrder 1 = .ok (.getfield 55, 3) := by decide +kernel
theorem dX7_nextOrder_4 : decode cX7_nextOrder 4 = .ok (.iconst 2, 1) := by decide +kernel
theorem dX7_nextOrder_5 : decode cX7_nextOrder 5 = .ok (.isub, 1) := by decide +kernel
theorem dX7_nextOrder_6 : decode cX7_nextOrder 6 = .ok (.istore_n 1, 1) := by decide +kernel
theorem dX7_nextOrder_7 : decode cX7_nextOrder 7 = .ok (.iload_n 1, 1) := by decide +kernel
theorem dX7_nextOrder_8 : decode cX7_nextOrder 8 = .ok (.ifCond .lt 26, 3) := by decide +kernel
theorem dX7_nextOrder_11 : decode cX7_nextOrder 11 = .ok (.aload_n 0, 1) := by decide +kernel
theorem dX7_nextOrder_12 : decode cX7_nextOrder 12 = .ok (.getfield 31, 3) := by decide +kernel
theorem dX7_nextOrder_15 : decode cX7_nextOrder 15 = .ok (.iload_n 1, 1) := by decide +kernel
theorem dX7_nextOrder_16 : decode cX7_nextOrder 16 = .ok (.iaload, 1) := by decide +kernel
theorem dX7_nextOrder_17 : decode cX7_nextOrder 17 = .ok (.aload_n 0, 1) := by decide +kernel
theorem dX7_nextOrder_18 : decode cX7_nextOrder 18 = .ok (.getfield 31, 3) := by decide +kernel
theorem dX7_nextOrder_21 : decode cX7_nextOrder 21 = .ok (.iload_n 1, 1) := by decide +kernel
theorem dX7_nextOrder_22 : decode cX7_nextOrder 22 = .ok (.iconst 1, 1) := by decide +kernel
theorem dX7_nextOrder_23 : decode cX7_nextOrder 23 = .ok (.iadd, 1) := by decide +kernel
theorem dX7_nextOrder_24 : decode cX7_nextOrder 24 = .ok (.iaload, 1) := by decide +kernel
theorem dX7_nextOrder_25 : decode cX7_nextOrder 25 = .ok (.if_icmp .le 9, 3) := by decide +kernel
theorem dX7_nextOrder_28 : decode cX7_nextOrder 28 = .ok (.iinc 1 (-1), 3) := by decide +kernel
theorem dX7_nextOrder_31 : decode cX7_nextOrder 31 = .ok (.goto (-24), 3) := by decide +kernel
theorem dX7_nextOrder_34 : decode cX7_nextOrder 34 = .ok (.iload_n 1, 1) := by decide +kernel
theorem dX7_nextOrder_35 : decode cX7_nextOrder 35 = .ok (.ifCond .ge 5, 3) := by decide +kernel
theorem dX7_nextOrder_38 : decode cX7_nextOrder 38 = .ok (.iconst 0, 1) := by decide +kernel
theorem dX7_nextOrder_39 : decode cX7_nextOrder 39 = .ok (.ireturn, 1) := by decide +kernel
theorem dX7_nextOrder_40 : decode cX7_nextOrder 40 = .ok (.aload_n 0, 1) := by decide +kernel
theorem dX7_nextOrder_41 : decode cX7_nextOrder 41 = .ok (.getfield 55, 3) := by decide +kernel
theorem dX7_nextOrder_44 : decode cX7_nextOrder 44 = .ok (.iconst 1, 1) := by decide +kernel
theorem dX7_nextOrder_45 : decode cX7_nextOrder 45 = .ok (.isub, 1) := by decide +kernel
theorem dX7_nextOrder_46 : decode cX7_nextOrder 46 = .ok (.istore_n 2, 1) := by decide +kernel
theorem dX7_nextOrder_47 : decode cX7_nextOrder 47 = .ok (.aload_n 0, 1) := by decide +kernel
theorem dX7_nextOrder_48 : decode cX7_nextOrder 48 = .ok (.getfield 31, 3) := by decide +kernel
theorem dX7_nextOrder_51 : decode cX7_nextOrder 51 = .ok (.iload_n 2, 1) := by decide +kernel
theorem dX7_nextOrder_52 : decode cX7_nextOrder 52 = .ok (.iaload, 1) := by decide +kernel
theorem dX7_nextOrder_53 : decode cX7_nextOrder 53 = .ok (.aload_n 0, 1) := by decide +kernel
theorem dX7_nextOrder_54 : decode cX7_nextOrder 54 = .ok (.getfield 31, 3) := by decide +kernel
theorem dX7_nextOrder_57 : decode cX7_nextOrder 57 = .ok (.iload_n 1, 1) := by decide +kernel
theorem dX7_nextOrder_58 : decode cX7_nextOrder 58 = .ok (.iaload, 1) := by decide +kernel
theorem dX7_nextOrder_59 : decode cX7_nextOrder 59 = .ok (.if_icmp .ge 9, 3) := by decide +kernel
theorem dX7_nextOrder_62 : decode cX7_nextOrder 62 = .ok (.iinc 2 (-1), 3) := by decide +kernel
theorem dX7_nextOrder_65 : decode cX7_nextOrder 65 = .ok (.goto (-18), 3) := by decide +kernel
theorem dX7_nextOrder_68 : decode cX7_nextOrder 68 = .ok (.aload_n 0, 1) := by decide +kernel
theorem dX7_nextOrder_69 : decode cX7_nextOrder 69 = .ok (.iload_n 1, 1) := by decide +kernel
theorem dX7_nextOrder_70 : decode cX7_nextOrder 70 = .ok (.iload_n 2, 1) := by decide +kernel
theorem dX7_nextOrder_71 : decode cX7_nextOrder 71 = .ok (.invokevirtual 123, 3) := by decide +kernel
theorem dX7_nextOrder_74 : decode cX7_nextOrder 74 = .ok (.iconst 1, 1) := by decide +kernel
theorem dX7_nextOrder_75 : decode cX7_nextOrder 75 = .ok (.istore_n 3, 1) := by decide +kernel
theorem dX7_nextOrder_76 : decode cX7_nextOrder 76 = .ok (.iload_n 1, 1) := by decide +kernel
theorem dX7_nextOrder_77 : decode cX7_nextOrder 77 = .ok (.iload_n 3, 1) := by decide +kernel
theorem dX7_nextOrder_78 : decode cX7_nextOrder 78 = .ok (.iadd, 1) := by decide +kernel
theorem dX7_nextOrder_79 : decode cX7_nextOrder 79 = .ok (.aload_n 0, 1) := by decide +kernel
theorem dX7_nextOrder_80 : decode cX7_nextOrder 80 = .ok (.getfield 55, 3) := by decide +kernel
theorem dX7_nextOrder_83 : decode cX7_nextOrder 83 = .ok (.iload_n 3, 1) := by decide +kernel
theorem dX7_nextOrder_84 : decode cX7_nextOrder 84 = .ok (.isub, 1) := by decide +kernel
theorem dX7_nextOrder_85 : decode cX7_nextOrder 85 = .ok (.if_icmp .ge 22, 3) := by decide +kernel
theorem dX7_nextOrder_88 : decode cX7_nextOrder 88 = .ok (.aload_n 0, 1) := by decide +kernel
theorem dX7_nextOrder_89 : decode cX7_nextOrder 89 = .ok (.iload_n 1, 1) := by decide +kernel
theorem dX7_nextOrder_90 : decode cX7_nextOrder 90 = .ok (.iload_n 3, 1) := by decide +kernel
theorem dX7_nextOrder_91 : decode cX7_nextOrder 91 = .ok (.iadd, 1) := by decide +kernel
theorem dX7_nextOrder_92 : decode cX7_nextOrder 92 = .ok (.aload_n 0, 1) := by decide +kernel
theorem dX7_nextOrder_93 : decode cX7_nextOrder 93 = .ok (.getfield 55, 3) := by decide +kernel
theorem dX7_nextOrder_96 : decode cX7_nextOrder 96 = .ok (.iload_n 3, 1) := by decide +kernel
theorem dX7_nextOrder_97 : decode cX7_nextOrder 97 = .ok (.isub, 1) := by decide +kernel
theorem dX7_nextOrder_98 : decode cX7_nextOrder 98 = .ok (.invokevirtual 123, 3) := by decide +kernel
theorem dX7_nextOrder_101 : decode cX7_nextOrder 101 = .ok (.iinc 3 1, 3) := by decide +kernel
theorem dX7_nextOrder_104 : decode cX7_nextOrder 104 = .ok (.goto (-28), 3) := by decide +kernel
theorem dX7_nextOrder_107 : decode cX7_nextOrder 107 = .ok (.iconst 1, 1) := by decide +kernel
theorem dX7_nextOrder_108 : decode cX7_nextOrder 108 = .ok (.ireturn, 1) := by decide +kernel
theorem dX7_swap_0 : decode cX7_swap 0 = .ok (.aload_n 0, 1) := by decide +kernel
theorem dX7_swap_1 : decode cX7_swap 1 = .ok (.getfield 31, 3) := by decide +kernel
theorem dX7_swap_4 : decode cX7_swap 4 = .ok (.iload_n 1, 1) := by decide +kernel
theorem dX7_swap_5 : decode cX7_swap 5 = .ok (.iaload, 1) := by decide +kernel
theorem dX7_swap_6 : decode cX7_swap 6 = .ok (.istore_n 3, 1) := by decide +kernel
theorem dX7_swap_7 : decode cX7_swap 7 = .ok (.aload_n 0, 1) := by decide +kernel
theorem dX7_swap_8 : decode cX7_swap 8 = .ok (.getfield 31, 3) := by decide +kernel
theorem dX7_swap_11 : decode cX7_swap 11 = .ok (.iload_n 1, 1) := by decide +kernel
theorem dX7_swap_12 : decode cX7_swap 12 = .ok (.aload_n 0, 1) := by decide +kernel
theorem dX7_swap_13 : decode cX7_swap 13 = .ok (.getfield 31, 3) := by decide +kernel
theorem dX7_swap_16 : decode cX7_swap 16 = .ok (.iload_n 2, 1) := by decide +kernel
theorem dX7_swap_17 : decode cX7_swap 17 = .ok (.iaload, 1) := by decide +kernel
theorem dX7_swap_18 : decode cX7_swap 18 = .ok (.iastore, 1) := by decide +kernel
theorem dX7_swap_19 : decode cX7_swap 19 = .ok (.aload_n 0, 1) := by decide +kernel
theorem dX7_swap_20 : decode cX7_swap 20 = .ok (.getfield 31, 3) := by decide +kernel
theorem dX7_swap_23 : decode cX7_swap 23 = .ok (.iload_n 2, 1) := by decide +kernel
theorem dX7_swap_24 : decode cX7_swap 24 = .ok (.iload_n 3, 1) := by decide +kernel
theorem dX7_swap_25 : decode cX7_swap 25 = .ok (.iastore, 1) := by decide +kernel
theorem dX7_swap_26 : decode cX7_swap 26 = .ok (.return_, 1) := by decide +kernel
theorem dX7_senses_0 : decode cX7_senses 0 = .ok (.aload_n 0, 1) := by decide +kernel
theorem dX7_senses_1 : decode cX7_senses 1 = .ok (.iconst 0, 1) := by decide +kernel
theorem dX7_senses_2 : decode cX7_senses 2 = .ok (.invokevirtual 152, 3) := by decide +kernel
theorem dX7_senses_5 : decode cX7_senses 5 = .ok (.ireturn, 1) := by decide +kernel
theorem dX7_leastSenses_0 : decode cX7_leastSenses 0 = .ok (.aload_n 0, 1) := by decide +kernel
theorem dX7_leastSenses_1 : decode cX7_leastSenses 1 = .ok (.invokevirtual 141, 3) := by decide +kernel
theorem dX7_leastSenses_4 : decode cX7_leastSenses 4 = .ok (.aload_n 0, 1) := by decide +kernel
theorem dX7_leastSenses_5 : decode cX7_leastSenses 5 = .ok (.getfield 127, 3) := by decide +kernel
theorem dX7_leastSenses_8 : decode cX7_leastSenses 8 = .ok (.ifCond .ne 7, 3) := by decide +kernel
theorem dX7_leastSenses_11 : decode cX7_leastSenses 11 = .ok (.iconst 0, 1) := by decide +kernel
theorem dX7_leastSenses_12 : decode cX7_leastSenses 12 = .ok (.goto 5, 3) := by decide +kernel
theorem dX7_leastSenses_15 : decode cX7_leastSenses 15 = .ok (.ldc 144, 2) := by decide +kernel
theorem dX7_leastSenses_17 : decode cX7_leastSenses 17 = .ok (.istore_n 2, 1) := by decide +kernel
theorem dX7_leastSenses_18 : decode cX7_leastSenses 18 = .ok (.iconst 0, 1) := by decide +kernel
theorem dX7_leastSenses_19 : decode cX7_leastSenses 19 = .ok (.istore_n 3, 1) := by decide +kernel
theorem dX7_leastSenses_20 : decode cX7_leastSenses 20 = .ok (.iload_n 3, 1) := by decide +kernel
theorem dX7_leastSenses_21 : decode cX7_leastSenses 21 = .ok (.aload_n 0, 1) := by decide +kernel
theorem dX7_leastSenses_22 : decode cX7_leastSenses 22 = .ok (.getfield 127, 3) := by decide +kernel
theorem dX7_leastSenses_25 : decode cX7_leastSenses 25 = .ok (.if_icmp .ge 39, 3) := by decide +kernel
theorem dX7_leastSenses_28 : decode cX7_leastSenses 28 = .ok (.aload_n 0, 1) := by decide +kernel
theorem dX7_leastSenses_29 : decode cX7_leastSenses 29 = .ok (.aload_n 0, 1) := by decide +kernel
theorem dX7_leastSenses_30 : decode cX7_leastSenses 30 = .ok (.getfield 40, 3) := by decide +kernel
theorem dX7_leastSenses_33 : decode cX7_leastSenses 33 = .ok (.iload_n 3, 1) := by decide +kernel
theorem dX7_leastSenses_34 : decode cX7_leastSenses 34 = .ok (.iaload, 1) := by decide +kernel
theorem dX7_leastSenses_35 : decode cX7_leastSenses 35 = .ok (.invokevirtual 145, 3) := by decide +kernel
theorem dX7_leastSenses_38 : decode cX7_leastSenses 38 = .ok (.aload_n 0, 1) := by decide +kernel
theorem dX7_leastSenses_39 : decode cX7_leastSenses 39 = .ok (.iload_n 1, 1) := by decide +kernel
theorem dX7_leastSenses_40 : decode cX7_leastSenses 40 = .ok (.invokevirtual 149, 3) := by decide +kernel
theorem dX7_leastSenses_43 : decode cX7_leastSenses 43 = .ok (.istore 4, 2) := by decide +kernel
theorem dX7_leastSenses_45 : decode cX7_leastSenses 45 = .ok (.iload 4, 2) := by decide +kernel
theorem dX7_leastSenses_47 : decode cX7_leastSenses 47 = .ok (.iload_n 2, 1) := by decide +kernel
theorem dX7_leastSenses_48 : decode cX7_leastSenses 48 = .ok (.if_icmp .ge 8, 3) := by decide +kernel
theorem dX7_leastSenses_51 : decode cX7_leastSenses 51 = .ok (.iload 4, 2) := by decide +kernel
theorem dX7_leastSenses_53 : decode cX7_leastSenses 53 = .ok (.goto 4, 3) := by decide +kernel
theorem dX7_leastSenses_56 : decode cX7_leastSenses 56 = .ok (.iload_n 2, 1) := by decide +kernel
theorem dX7_leastSenses_57 : decode cX7_leastSenses 57 = .ok (.istore_n 2, 1) := by decide +kernel
theorem dX7_leastSenses_58 : decode cX7_leastSenses 58 = .ok (.iinc 3 1, 3) := by decide +kernel
theorem dX7_leastSenses_61 : decode cX7_leastSenses 61 = .ok (.goto (-41), 3) := by decide +kernel
theorem dX7_leastSenses_64 : decode cX7_leastSenses 64 = .ok (.iload_n 2, 1) := by decide +kernel
theorem dX7_leastSenses_65 : decode cX7_leastSenses 65 = .ok (.ireturn, 1) := by decide +kernel
theorem dX7_unpack_0 : decode cX7_unpack 0 = .ok (.iconst 0, 1) := by decide +kernel
theorem dX7_unpack_1 : decode cX7_unpack 1 = .ok (.istore_n 2, 1) := by decide +kernel
theorem dX7_unpack_2 : decode cX7_unpack 2 = .ok (.iload_n 2, 1) := by decide +kernel
theorem dX7_unpack_3 : decode cX7_unpack 3 = .ok (.aload_n 0, 1) := by decide +kernel
theorem dX7_unpack_4 : decode cX7_unpack 4 = .ok (.getfield 55, 3) := by decide +kernel
theorem dX7_unpack_7 : decode cX7_unpack 7 = .ok (.if_icmp .ge 35, 3) := by decide +kernel
theorem dX7_unpack_10 : decode cX7_unpack 10 = .ok (.aload_n 0, 1) := by decide +kernel
theorem dX7_unpack_11 : decode cX7_unpack 11 = .ok (.getfield 31, 3) := by decide +kernel
theorem dX7_unpack_14 : decode cX7_unpack 14 = .ok (.iload_n 2, 1) := by decide +kernel
theorem dX7_unpack_15 : decode cX7_unpack 15 = .ok (.iload_n 1, 1) := by decide +kernel
theorem dX7_unpack_16 : decode cX7_unpack 16 = .ok (.iconst 3, 1) := by decide +kernel
theorem dX7_unpack_17 : decode cX7_unpack 17 = .ok (.iload_n 2, 1) := by decide +kernel
theorem dX7_unpack_18 : decode cX7_unpack 18 = .ok (.imul, 1) := by decide +kernel
theorem dX7_unpack_19 : decode cX7_unpack 19 = .ok (.ishr, 1) := by decide +kernel
theorem dX7_unpack_20 : decode cX7_unpack 20 = .ok (.bipush 7, 2) := by decide +kernel
theorem dX7_unpack_22 : decode cX7_unpack 22 = .ok (.iand, 1) := by decide +kernel
theorem dX7_unpack_23 : decode cX7_unpack 23 = .ok (.iastore, 1) := by decide +kernel
theorem dX7_unpack_24 : decode cX7_unpack 24 = .ok (.aload_n 0, 1) := by decide +kernel
theorem dX7_unpack_25 : decode cX7_unpack 25 = .ok (.getfield 34, 3) := by decide +kernel
theorem dX7_unpack_28 : decode cX7_unpack 28 = .ok (.aload_n 0, 1) := by decide +kernel
theorem dX7_unpack_29 : decode cX7_unpack 29 = .ok (.getfield 31, 3) := by decide +kernel
theorem dX7_unpack_32 : decode cX7_unpack 32 = .ok (.iload_n 2, 1) := by decide +kernel
theorem dX7_unpack_33 : decode cX7_unpack 33 = .ok (.iaload, 1) := by decide +kernel
theorem dX7_unpack_34 : decode cX7_unpack 34 = .ok (.iload_n 2, 1) := by decide +kernel
theorem dX7_unpack_35 : decode cX7_unpack 35 = .ok (.iastore, 1) := by decide +kernel
theorem dX7_unpack_36 : decode cX7_unpack 36 = .ok (.iinc 2 1, 3) := by decide +kernel
theorem dX7_unpack_39 : decode cX7_unpack 39 = .ok (.goto (-37), 3) := by decide +kernel
theorem dX7_unpack_42 : decode cX7_unpack 42 = .ok (.return_, 1) := by decide +kernel
theorem dX7_sensesNow_0 : decode cX7_sensesNow 0 = .ok (.iconst 0, 1) := by decide +kernel
theorem dX7_sensesNow_1 : decode cX7_sensesNow 1 = .ok (.istore_n 2, 1) := by decide +kernel
theorem dX7_sensesNow_2 : decode cX7_sensesNow 2 = .ok (.iconst 0, 1) := by decide +kernel
theorem dX7_sensesNow_3 : decode cX7_sensesNow 3 = .ok (.istore_n 3, 1) := by decide +kernel
theorem dX7_sensesNow_4 : decode cX7_sensesNow 4 = .ok (.iload_n 3, 1) := by decide +kernel
theorem dX7_sensesNow_5 : decode cX7_sensesNow 5 = .ok (.aload_n 0, 1) := by decide +kernel
theorem dX7_sensesNow_6 : decode cX7_sensesNow 6 = .ok (.getfield 55, 3) := by decide +kernel
theorem dX7_sensesNow_9 : decode cX7_sensesNow 9 = .ok (.if_icmp .ge 50, 3) := by decide +kernel
theorem dX7_sensesNow_12 : decode cX7_sensesNow 12 = .ok (.aload_n 0, 1) := by decide +kernel
theorem dX7_sensesNow_13 : decode cX7_sensesNow 13 = .ok (.aload_n 0, 1) := by decide +kernel
theorem dX7_sensesNow_14 : decode cX7_sensesNow 14 = .ok (.getfield 31, 3) := by decide +kernel
theorem dX7_sensesNow_17 : decode cX7_sensesNow 17 = .ok (.iload_n 3, 1) := by decide +kernel
theorem dX7_sensesNow_18 : decode cX7_sensesNow 18 = .ok (.iaload, 1) := by decide +kernel
theorem dX7_sensesNow_19 : decode cX7_sensesNow 19 = .ok (.invokevirtual 116, 3) := by decide +kernel
theorem dX7_sensesNow_22 : decode cX7_sensesNow 22 = .ok (.istore 4, 2) := by decide +kernel
theorem dX7_sensesNow_24 : decode cX7_sensesNow 24 = .ok (.iconst 3, 1) := by decide +kernel
theorem dX7_sensesNow_25 : decode cX7_sensesNow 25 = .ok (.iload_n 2, 1) := by decide +kernel
theorem dX7_sensesNow_26 : decode cX7_sensesNow 26 = .ok (.imul, 1) := by decide +kernel
theorem dX7_sensesNow_27 : decode cX7_sensesNow 27 = .ok (.iload_n 1, 1) := by decide +kernel
theorem dX7_sensesNow_28 : decode cX7_sensesNow 28 = .ok (.aload_n 0, 1) := by decide +kernel
theorem dX7_sensesNow_29 : decode cX7_sensesNow 29 = .ok (.getfield 31, 3) := by decide +kernel
theorem dX7_sensesNow_32 : decode cX7_sensesNow 32 = .ok (.iload_n 3, 1) := by decide +kernel
theorem dX7_sensesNow_33 : decode cX7_sensesNow 33 = .ok (.iaload, 1) := by decide +kernel
theorem dX7_sensesNow_34 : decode cX7_sensesNow 34 = .ok (.ishr, 1) := by decide +kernel
theorem dX7_sensesNow_35 : decode cX7_sensesNow 35 = .ok (.iconst 1, 1) := by decide +kernel
theorem dX7_sensesNow_36 : decode cX7_sensesNow 36 = .ok (.iand, 1) := by decide +kernel
theorem dX7_sensesNow_37 : decode cX7_sensesNow 37 = .ok (.iconst 1, 1) := by decide +kernel
theorem dX7_sensesNow_38 : decode cX7_sensesNow 38 = .ok (.if_icmp .ne 9, 3) := by decide +kernel
theorem dX7_sensesNow_41 : decode cX7_sensesNow 41 = .ok (.iload 4, 2) := by decide +kernel
theorem dX7_sensesNow_43 : decode cX7_sensesNow 43 = .ok (.ineg, 1) := by decide +kernel
theorem dX7_sensesNow_44 : decode cX7_sensesNow 44 = .ok (.goto 5, 3) := by decide +kernel
theorem dX7_sensesNow_47 : decode cX7_sensesNow 47 = .ok (.iload 4, 2) := by decide +kernel
theorem dX7_sensesNow_49 : decode cX7_sensesNow 49 = .ok (.iadd, 1) := by decide +kernel
theorem dX7_sensesNow_50 : decode cX7_sensesNow 50 = .ok (.iconst 1, 1) := by decide +kernel
theorem dX7_sensesNow_51 : decode cX7_sensesNow 51 = .ok (.iadd, 1) := by decide +kernel
theorem dX7_sensesNow_52 : decode cX7_sensesNow 52 = .ok (.istore_n 2, 1) := by decide +kernel
theorem dX7_sensesNow_53 : decode cX7_sensesNow 53 = .ok (.iinc 3 1, 3) := by decide +kernel
theorem dX7_sensesNow_56 : decode cX7_sensesNow 56 = .ok (.goto (-52), 3) := by decide +kernel
theorem dX7_sensesNow_59 : decode cX7_sensesNow 59 = .ok (.iconst 0, 1) := by decide +kernel
theorem dX7_sensesNow_60 : decode cX7_sensesNow 60 = .ok (.istore_n 3, 1) := by decide +kernel
theorem dX7_sensesNow_61 : decode cX7_sensesNow 61 = .ok (.iload_n 3, 1) := by decide +kernel
theorem dX7_sensesNow_62 : decode cX7_sensesNow 62 = .ok (.aload_n 0, 1) := by decide +kernel
theorem dX7_sensesNow_63 : decode cX7_sensesNow 63 = .ok (.getfield 55, 3) := by decide +kernel
theorem dX7_sensesNow_66 : decode cX7_sensesNow 66 = .ok (.if_icmp .ge 93, 3) := by decide +kernel
theorem dX7_sensesNow_69 : decode cX7_sensesNow 69 = .ok (.iconst 0, 1) := by decide +kernel
theorem dX7_sensesNow_70 : decode cX7_sensesNow 70 = .ok (.istore 4, 2) := by decide +kernel
theorem dX7_sensesNow_72 : decode cX7_sensesNow 72 = .ok (.iload 4, 2) := by decide +kernel
theorem dX7_sensesNow_74 : decode cX7_sensesNow 74 = .ok (.iload_n 3, 1) := by decide +kernel
theorem dX7_sensesNow_75 : decode cX7_sensesNow 75 = .ok (.if_icmp .ge 78, 3) := by decide +kernel
theorem dX7_sensesNow_78 : decode cX7_sensesNow 78 = .ok (.aload_n 0, 1) := by decide +kernel
theorem dX7_sensesNow_79 : decode cX7_sensesNow 79 = .ok (.aload_n 0, 1) := by decide +kernel
theorem dX7_sensesNow_80 : decode cX7_sensesNow 80 = .ok (.getfield 31, 3) := by decide +kernel
theorem dX7_sensesNow_83 : decode cX7_sensesNow 83 = .ok (.iload_n 3, 1) := by decide +kernel
theorem dX7_sensesNow_84 : decode cX7_sensesNow 84 = .ok (.iaload, 1) := by decide +kernel
theorem dX7_sensesNow_85 : decode cX7_sensesNow 85 = .ok (.aload_n 0, 1) := by decide +kernel
theorem dX7_sensesNow_86 : decode cX7_sensesNow 86 = .ok (.getfield 31, 3) := by decide +kernel
theorem dX7_sensesNow_89 : decode cX7_sensesNow 89 = .ok (.iload 4, 2) := by decide +kernel
theorem dX7_sensesNow_91 : decode cX7_sensesNow 91 = .ok (.iaload, 1) := by decide +kernel
theorem dX7_sensesNow_92 : decode cX7_sensesNow 92 = .ok (.invokevirtual 77, 3) := by decide +kernel
theorem dX7_sensesNow_95 : decode cX7_sensesNow 95 = .ok (.istore 5, 2) := by decide +kernel
theorem dX7_sensesNow_97 : decode cX7_sensesNow 97 = .ok (.iload 5, 2) := by decide +kernel
theorem dX7_sensesNow_99 : decode cX7_sensesNow 99 = .ok (.ifCond .lt 48, 3) := by decide +kernel
theorem dX7_sensesNow_102 : decode cX7_sensesNow 102 = .ok (.aload_n 0, 1) := by decide +kernel
theorem dX7_sensesNow_103 : decode cX7_sensesNow 103 = .ok (.iload 5, 2) := by decide +kernel
theorem dX7_sensesNow_105 : decode cX7_sensesNow 105 = .ok (.invokevirtual 99, 3) := by decide +kernel
theorem dX7_sensesNow_108 : decode cX7_sensesNow 108 = .ok (.ifCond .eq 39, 3) := by decide +kernel
theorem dX7_sensesNow_111 : decode cX7_sensesNow 111 = .ok (.aload_n 0, 1) := by decide +kernel
theorem dX7_sensesNow_112 : decode cX7_sensesNow 112 = .ok (.iload 5, 2) := by decide +kernel
theorem dX7_sensesNow_114 : decode cX7_sensesNow 114 = .ok (.invokevirtual 119, 3) := by decide +kernel
theorem dX7_sensesNow_117 : decode cX7_sensesNow 117 = .ok (.istore 6, 2) := by decide +kernel
theorem dX7_sensesNow_119 : decode cX7_sensesNow 119 = .ok (.iconst 3, 1) := by decide +kernel
theorem dX7_sensesNow_120 : decode cX7_sensesNow 120 = .ok (.iload_n 2, 1) := by decide +kernel
theorem dX7_sensesNow_121 : decode cX7_sensesNow 121 = .ok (.imul, 1) := by decide +kernel
theorem dX7_sensesNow_122 : decode cX7_sensesNow 122 = .ok (.iload_n 1, 1) := by decide +kernel
theorem dX7_sensesNow_123 : decode cX7_sensesNow 123 = .ok (.bipush 7, 2) := by decide +kernel
theorem dX7_sensesNow_125 : decode cX7_sensesNow 125 = .ok (.iload 5, 2) := by decide +kernel
theorem dX7_sensesNow_127 : decode cX7_sensesNow 127 = .ok (.iadd, 1) := by decide +kernel
theorem dX7_sensesNow_128 : decode cX7_sensesNow 128 = .ok (.ishr, 1) := by decide +kernel
theorem dX7_sensesNow_129 : decode cX7_sensesNow 129 = .ok (.iconst 1, 1) := by decide +kernel
theorem dX7_sensesNow_130 : decode cX7_sensesNow 130 = .ok (.iand, 1) := by decide +kernel
theorem dX7_sensesNow_131 : decode cX7_sensesNow 131 = .ok (.iconst 1, 1) := by decide +kernel
theorem dX7_sensesNow_132 : decode cX7_sensesNow 132 = .ok (.if_icmp .ne 9, 3) := by decide +kernel
theorem dX7_sensesNow_135 : decode cX7_sensesNow 135 = .ok (.iload 6, 2) := by decide +kernel
theorem dX7_sensesNow_137 : decode cX7_sensesNow 137 = .ok (.ineg, 1) := by decide +kernel
theorem dX7_sensesNow_138 : decode cX7_sensesNow 138 = .ok (.goto 5, 3) := by decide +kernel
theorem dX7_sensesNow_141 : decode cX7_sensesNow 141 = .ok (.iload 6, 2) := by decide +kernel
theorem dX7_sensesNow_143 : decode cX7_sensesNow 143 = .ok (.iadd, 1) := by decide +kernel
theorem dX7_sensesNow_144 : decode cX7_sensesNow 144 = .ok (.iconst 1, 1) := by decide +kernel
theorem dX7_sensesNow_145 : decode cX7_sensesNow 145 = .ok (.iadd, 1) := by decide +kernel
theorem dX7_sensesNow_146 : decode cX7_sensesNow 146 = .ok (.istore_n 2, 1) := by decide +kernel
theorem dX7_sensesNow_147 : decode cX7_sensesNow 147 = .ok (.iinc 4 1, 3) := by decide +kernel
theorem dX7_sensesNow_150 : decode cX7_sensesNow 150 = .ok (.goto (-78), 3) := by decide +kernel
theorem dX7_sensesNow_153 : decode cX7_sensesNow 153 = .ok (.iinc 3 1, 3) := by decide +kernel
theorem dX7_sensesNow_156 : decode cX7_sensesNow 156 = .ok (.goto (-95), 3) := by decide +kernel
theorem dX7_sensesNow_159 : decode cX7_sensesNow 159 = .ok (.iload_n 2, 1) := by decide +kernel
theorem dX7_sensesNow_160 : decode cX7_sensesNow 160 = .ok (.ireturn, 1) := by decide +kernel
theorem dX7_chiral_0 : decode cX7_chiral 0 = .ok (.aload_n 0, 1) := by decide +kernel
theorem dX7_chiral_1 : decode cX7_chiral 1 = .ok (.iconst 0, 1) := by decide +kernel
theorem dX7_chiral_2 : decode cX7_chiral 2 = .ok (.invokevirtual 152, 3) := by decide +kernel
theorem dX7_chiral_5 : decode cX7_chiral 5 = .ok (.aload_n 0, 1) := by decide +kernel
theorem dX7_chiral_6 : decode cX7_chiral 6 = .ok (.bipush 127, 2) := by decide +kernel
theorem dX7_chiral_8 : decode cX7_chiral 8 = .ok (.invokevirtual 152, 3) := by decide +kernel
theorem dX7_chiral_11 : decode cX7_chiral 11 = .ok (.if_icmp .eq 7, 3) := by decide +kernel
theorem dX7_chiral_14 : decode cX7_chiral 14 = .ok (.iconst 1, 1) := by decide +kernel
theorem dX7_chiral_15 : decode cX7_chiral 15 = .ok (.goto 4, 3) := by decide +kernel
theorem dX7_chiral_18 : decode cX7_chiral 18 = .ok (.iconst 0, 1) := by decide +kernel
theorem dX7_chiral_19 : decode cX7_chiral 19 = .ok (.ireturn, 1) := by decide +kernel
theorem dX7_isomers_0 : decode cX7_isomers 0 = .ok (.iconst 0, 1) := by decide +kernel
theorem dX7_isomers_1 : decode cX7_isomers 1 = .ok (.istore_n 1, 1) := by decide +kernel
theorem dX7_isomers_2 : decode cX7_isomers 2 = .ok (.iconst 0, 1) := by decide +kernel
theorem dX7_isomers_3 : decode cX7_isomers 3 = .ok (.istore_n 2, 1) := by decide +kernel
theorem dX7_isomers_4 : decode cX7_isomers 4 = .ok (.aload_n 0, 1) := by decide +kernel
theorem dX7_isomers_5 : decode cX7_isomers 5 = .ok (.invokevirtual 113, 3) := by decide +kernel
theorem dX7_isomers_8 : decode cX7_isomers 8 = .ok (.iconst 0, 1) := by decide +kernel
theorem dX7_isomers_9 : decode cX7_isomers 9 = .ok (.istore_n 3, 1) := by decide +kernel
theorem dX7_isomers_10 : decode cX7_isomers 10 = .ok (.iload_n 3, 1) := by decide +kernel
theorem dX7_isomers_11 : decode cX7_isomers 11 = .ok (.aload_n 0, 1) := by decide +kernel
theorem dX7_isomers_12 : decode cX7_isomers 12 = .ok (.getfield 55, 3) := by decide +kernel
theorem dX7_isomers_15 : decode cX7_isomers 15 = .ok (.if_icmp .ge 52, 3) := by decide +kernel
theorem dX7_isomers_18 : decode cX7_isomers 18 = .ok (.aload_n 0, 1) := by decide +kernel
theorem dX7_isomers_19 : decode cX7_isomers 19 = .ok (.iload_n 3, 1) := by decide +kernel
theorem dX7_isomers_20 : decode cX7_isomers 20 = .ok (.invokevirtual 116, 3) := by decide +kernel
theorem dX7_isomers_23 : decode cX7_isomers 23 = .ok (.ifCond .eq 7, 3) := by decide +kernel
theorem dX7_isomers_26 : decode cX7_isomers 26 = .ok (.iconst 1, 1) := by decide +kernel
theorem dX7_isomers_27 : decode cX7_isomers 27 = .ok (.goto 4, 3) := by decide +kernel
theorem dX7_isomers_30 : decode cX7_isomers 30 = .ok (.iconst 0, 1) := by decide +kernel
theorem dX7_isomers_31 : decode cX7_isomers 31 = .ok (.istore 4, 2) := by decide +kernel
theorem dX7_isomers_33 : decode cX7_isomers 33 = .ok (.iload_n 1, 1) := by decide +kernel
theorem dX7_isomers_34 : decode cX7_isomers 34 = .ok (.iload 4, 2) := by decide +kernel
theorem dX7_isomers_36 : decode cX7_isomers 36 = .ok (.ifCond .eq 7, 3) := by decide +kernel
theorem dX7_isomers_39 : decode cX7_isomers 39 = .ok (.iconst 1, 1) := by decide +kernel
theorem dX7_isomers_40 : decode cX7_isomers 40 = .ok (.goto 4, 3) := by decide +kernel
theorem dX7_isomers_43 : decode cX7_isomers 43 = .ok (.iconst 0, 1) := by decide +kernel
theorem dX7_isomers_44 : decode cX7_isomers 44 = .ok (.iadd, 1) := by decide +kernel
theorem dX7_isomers_45 : decode cX7_isomers 45 = .ok (.istore_n 1, 1) := by decide +kernel
theorem dX7_isomers_46 : decode cX7_isomers 46 = .ok (.iload 4, 2) := by decide +kernel
theorem dX7_isomers_48 : decode cX7_isomers 48 = .ok (.ifCond .eq 11, 3) := by decide +kernel
theorem dX7_isomers_51 : decode cX7_isomers 51 = .ok (.iload_n 2, 1) := by decide +kernel
theorem dX7_isomers_52 : decode cX7_isomers 52 = .ok (.iconst 1, 1) := by decide +kernel
theorem dX7_isomers_53 : decode cX7_isomers 53 = .ok (.iload_n 3, 1) := by decide +kernel
theorem dX7_isomers_54 : decode cX7_isomers 54 = .ok (.ishl, 1) := by decide +kernel
theorem dX7_isomers_55 : decode cX7_isomers 55 = .ok (.ior, 1) := by decide +kernel
theorem dX7_isomers_56 : decode cX7_isomers 56 = .ok (.goto 4, 3) := by decide +kernel
theorem dX7_isomers_59 : decode cX7_isomers 59 = .ok (.iload_n 2, 1) := by decide +kernel
theorem dX7_isomers_60 : decode cX7_isomers 60 = .ok (.istore_n 2, 1) := by decide +kernel
theorem dX7_isomers_61 : decode cX7_isomers 61 = .ok (.iinc 3 1, 3) := by decide +kernel
theorem dX7_isomers_64 : decode cX7_isomers 64 = .ok (.goto (-54), 3) := by decide +kernel
theorem dX7_isomers_67 : decode cX7_isomers 67 = .ok (.iconst 0, 1) := by decide +kernel
theorem dX7_isomers_68 : decode cX7_isomers 68 = .ok (.istore_n 3, 1) := by decide +kernel
theorem dX7_isomers_69 : decode cX7_isomers 69 = .ok (.iload_n 3, 1) := by decide +kernel
theorem dX7_isomers_70 : decode cX7_isomers 70 = .ok (.aload_n 0, 1) := by decide +kernel
theorem dX7_isomers_71 : decode cX7_isomers 71 = .ok (.getfield 59, 3) := by decide +kernel
theorem dX7_isomers_74 : decode cX7_isomers 74 = .ok (.if_icmp .ge 55, 3) := by decide +kernel
theorem dX7_isomers_77 : decode cX7_isomers 77 = .ok (.aload_n 0, 1) := by decide +kernel
theorem dX7_isomers_78 : decode cX7_isomers 78 = .ok (.iload_n 3, 1) := by decide +kernel
theorem dX7_isomers_79 : decode cX7_isomers 79 = .ok (.invokevirtual 119, 3) := by decide +kernel
theorem dX7_isomers_82 : decode cX7_isomers 82 = .ok (.ifCond .eq 7, 3) := by decide +kernel
theorem dX7_isomers_85 : decode cX7_isomers 85 = .ok (.iconst 1, 1) := by decide +kernel
theorem dX7_isomers_86 : decode cX7_isomers 86 = .ok (.goto 4, 3) := by decide +kernel
theorem dX7_isomers_89 : decode cX7_isomers 89 = .ok (.iconst 0, 1) := by decide +kernel
theorem dX7_isomers_90 : decode cX7_isomers 90 = .ok (.istore 4, 2) := by decide +kernel
theorem dX7_isomers_92 : decode cX7_isomers 92 = .ok (.iload_n 1, 1) := by decide +kernel
theorem dX7_isomers_93 : decode cX7_isomers 93 = .ok (.iload 4, 2) := by decide +kernel
theorem dX7_isomers_95 : decode cX7_isomers 95 = .ok (.ifCond .eq 7, 3) := by decide +kernel
theorem dX7_isomers_98 : decode cX7_isomers 98 = .ok (.iconst 1, 1) := by decide +kernel
theorem dX7_isomers_99 : decode cX7_isomers 99 = .ok (.goto 4, 3) := by decide +kernel
theorem dX7_isomers_102 : decode cX7_isomers 102 = .ok (.iconst 0, 1) := by decide +kernel
theorem dX7_isomers_103 : decode cX7_isomers 103 = .ok (.iadd, 1) := by decide +kernel
theorem dX7_isomers_104 : decode cX7_isomers 104 = .ok (.istore_n 1, 1) := by decide +kernel
theorem dX7_isomers_105 : decode cX7_isomers 105 = .ok (.iload 4, 2) := by decide +kernel
theorem dX7_isomers_107 : decode cX7_isomers 107 = .ok (.ifCond .eq 14, 3) := by decide +kernel
theorem dX7_isomers_110 : decode cX7_isomers 110 = .ok (.iload_n 2, 1) := by decide +kernel
theorem dX7_isomers_111 : decode cX7_isomers 111 = .ok (.iconst 1, 1) := by decide +kernel
theorem dX7_isomers_112 : decode cX7_isomers 112 = .ok (.bipush 7, 2) := by decide +kernel
theorem dX7_isomers_114 : decode cX7_isomers 114 = .ok (.iload_n 3, 1) := by decide +kernel
theorem dX7_isomers_115 : decode cX7_isomers 115 = .ok (.iadd, 1) := by decide +kernel
theorem dX7_isomers_116 : decode cX7_isomers 116 = .ok (.ishl, 1) := by decide +kernel
theorem dX7_isomers_117 : decode cX7_isomers 117 = .ok (.ior, 1) := by decide +kernel
theorem dX7_isomers_118 : decode cX7_isomers 118 = .ok (.goto 4, 3) := by decide +kernel
theorem dX7_isomers_121 : decode cX7_isomers 121 = .ok (.iload_n 2, 1) := by decide +kernel
theorem dX7_isomers_122 : decode cX7_isomers 122 = .ok (.istore_n 2, 1) := by decide +kernel
theorem dX7_isomers_123 : decode cX7_isomers 123 = .ok (.iinc 3 1, 3) := by decide +kernel
theorem dX7_isomers_126 : decode cX7_isomers 126 = .ok (.goto (-57), 3) := by decide +kernel
theorem dX7_isomers_129 : decode cX7_isomers 129 = .ok (.iload_n 1, 1) := by decide +kernel
theorem dX7_isomers_130 : decode cX7_isomers 130 = .ok (.iconst 4, 1) := by decide +kernel
theorem dX7_isomers_131 : decode cX7_isomers 131 = .ok (.if_icmp .le 5, 3) := by decide +kernel
theorem dX7_isomers_134 : decode cX7_isomers 134 = .ok (.iconst (-1), 1) := by decide +kernel
theorem dX7_isomers_135 : decode cX7_isomers 135 = .ok (.ireturn, 1) := by decide +kernel
theorem dX7_isomers_136 : decode cX7_isomers 136 = .ok (.iconst 0, 1) := by decide +kernel
theorem dX7_isomers_137 : decode cX7_isomers 137 = .ok (.istore_n 3, 1) := by decide +kernel
theorem dX7_isomers_138 : decode cX7_isomers 138 = .ok (.iload_n 2, 1) := by decide +kernel
theorem dX7_isomers_139 : decode cX7_isomers 139 = .ok (.istore 4, 2) := by decide +kernel
theorem dX7_isomers_141 : decode cX7_isomers 141 = .ok (.iconst 1, 1) := by decide +kernel
theorem dX7_isomers_142 : decode cX7_isomers 142 = .ok (.istore 5, 2) := by decide +kernel
theorem dX7_isomers_144 : decode cX7_isomers 144 = .ok (.iload 5, 2) := by decide +kernel
theorem dX7_isomers_146 : decode cX7_isomers 146 = .ok (.ifCond .eq 92, 3) := by decide +kernel
theorem dX7_isomers_149 : decode cX7_isomers 149 = .ok (.aload_n 0, 1) := by decide +kernel
theorem dX7_isomers_150 : decode cX7_isomers 150 = .ok (.iload 4, 2) := by decide +kernel
theorem dX7_isomers_152 : decode cX7_isomers 152 = .ok (.invokevirtual 152, 3) := by decide +kernel
theorem dX7_isomers_155 : decode cX7_isomers 155 = .ok (.istore 6, 2) := by decide +kernel
theorem dX7_isomers_157 : decode cX7_isomers 157 = .ok (.iconst 0, 1) := by decide +kernel
theorem dX7_isomers_158 : decode cX7_isomers 158 = .ok (.istore 7, 2) := by decide +kernel
theorem dX7_isomers_160 : decode cX7_isomers 160 = .ok (.iconst 0, 1) := by decide +kernel
theorem dX7_isomers_161 : decode cX7_isomers 161 = .ok (.istore 8, 2) := by decide +kernel
theorem dX7_isomers_163 : decode cX7_isomers 163 = .ok (.iload 8, 2) := by decide +kernel
theorem dX7_isomers_165 : decode cX7_isomers 165 = .ok (.iload_n 3, 1) := by decide +kernel
theorem dX7_isomers_166 : decode cX7_isomers 166 = .ok (.if_icmp .ge 33, 3) := by decide +kernel
theorem dX7_isomers_169 : decode cX7_isomers 169 = .ok (.iload 7, 2) := by decide +kernel
theorem dX7_isomers_171 : decode cX7_isomers 171 = .ok (.ifCond .ne 15, 3) := by decide +kernel
theorem dX7_isomers_174 : decode cX7_isomers 174 = .ok (.aload_n 0, 1) := by decide +kernel
theorem dX7_isomers_175 : decode cX7_isomers 175 = .ok (.getfield 52, 3) := by decide +kernel
theorem dX7_isomers_178 : decode cX7_isomers 178 = .ok (.iload 8, 2) := by decide +kernel
theorem dX7_isomers_180 : decode cX7_isomers 180 = .ok (.iaload, 1) := by decide +kernel
theorem dX7_isomers_181 : decode cX7_isomers 181 = .ok (.iload 6, 2) := by decide +kernel
theorem dX7_isomers_183 : decode cX7_isomers 183 = .ok (.if_icmp .ne 7, 3) := by decide +kernel
theorem dX7_isomers_186 : decode cX7_isomers 186 = .ok (.iconst 1, 1) := by decide +kernel
theorem dX7_isomers_187 : decode cX7_isomers 187 = .ok (.goto 4, 3) := by decide +kernel
theorem dX7_isomers_190 : decode cX7_isomers 190 = .ok (.iconst 0, 1) := by decide +kernel
theorem dX7_isomers_191 : decode cX7_isomers 191 = .ok (.istore 7, 2) := by decide +kernel
theorem dX7_isomers_193 : decode cX7_isomers 193 = .ok (.iinc 8 1, 3) := by decide +kernel
theorem dX7_isomers_196 : decode cX7_isomers 196 = .ok (.goto (-33), 3) := by decide +kernel
theorem dX7_isomers_199 : decode cX7_isomers 199 = .ok (.iload 7, 2) := by decide +kernel
theorem dX7_isomers_201 : decode cX7_isomers 201 = .ok (.ifCond .ne 14, 3) := by decide +kernel
theorem dX7_isomers_204 : decode cX7_isomers 204 = .ok (.aload_n 0, 1) := by decide +kernel
theorem dX7_isomers_205 : decode cX7_isomers 205 = .ok (.getfield 52, 3) := by decide +kernel
theorem dX7_isomers_208 : decode cX7_isomers 208 = .ok (.iload_n 3, 1) := by decide +kernel
theorem dX7_isomers_209 : decode cX7_isomers 209 = .ok (.iload 6, 2) := by decide +kernel
theorem dX7_isomers_211 : decode cX7_isomers 211 = .ok (.iastore, 1) := by decide +kernel
theorem dX7_isomers_212 : decode cX7_isomers 212 = .ok (.iinc 3 1, 3) := by decide +kernel
theorem dX7_isomers_215 : decode cX7_isomers 215 = .ok (.iload 4, 2) := by decide +kernel
theorem dX7_isomers_217 : decode cX7_isomers 217 = .ok (.ifCond .eq 7, 3) := by decide +kernel
theorem dX7_isomers_220 : decode cX7_isomers 220 = .ok (.iconst 1, 1) := by decide +kernel
theorem dX7_isomers_221 : decode cX7_isomers 221 = .ok (.goto 4, 3) := by decide +kernel
theorem dX7_isomers_224 : decode cX7_isomers 224 = .ok (.iconst 0, 1) := by decide +kernel
theorem dX7_isomers_225 : decode cX7_isomers 225 = .ok (.istore 5, 2) := by decide +kernel
theorem dX7_isomers_227 : decode cX7_isomers 227 = .ok (.iload 4, 2) := by decide +kernel
theorem dX7_isomers_229 : decode cX7_isomers 229 = .ok (.iconst 1, 1) := by decide +kernel
theorem dX7_isomers_230 : decode cX7_isomers 230 = .ok (.isub, 1) := by decide +kernel
theorem dX7_isomers_231 : decode cX7_isomers 231 = .ok (.iload_n 2, 1) := by decide +kernel
theorem dX7_isomers_232 : decode cX7_isomers 232 = .ok (.iand, 1) := by decide +kernel
theorem dX7_isomers_233 : decode cX7_isomers 233 = .ok (.istore 4, 2) := by decide +kernel
theorem dX7_isomers_235 : decode cX7_isomers 235 = .ok (.goto (-91), 3) := by decide +kernel
theorem dX7_isomers_238 : decode cX7_isomers 238 = .ok (.iload_n 3, 1) := by decide +kernel
theorem dX7_isomers_239 : decode cX7_isomers 239 = .ok (.ireturn, 1) := by decide +kernel
theorem dX7_keep_0 : decode cX7_keep 0 = .ok (.aload_n 0, 1) := by decide +kernel
theorem dX7_keep_1 : decode cX7_keep 1 = .ok (.aload_n 0, 1) := by decide +kernel
theorem dX7_keep_2 : decode cX7_keep 2 = .ok (.iconst 0, 1) := by decide +kernel
theorem dX7_keep_3 : decode cX7_keep 3 = .ok (.invokevirtual 152, 3) := by decide +kernel
theorem dX7_keep_6 : decode cX7_keep 6 = .ok (.putfield 155, 3) := by decide +kernel
theorem dX7_keep_9 : decode cX7_keep 9 = .ok (.aload_n 0, 1) := by decide +kernel
theorem dX7_keep_10 : decode cX7_keep 10 = .ok (.aload_n 0, 1) := by decide +kernel
theorem dX7_keep_11 : decode cX7_keep 11 = .ok (.getfield 55, 3) := by decide +kernel
theorem dX7_keep_14 : decode cX7_keep 14 = .ok (.putfield 158, 3) := by decide +kernel
theorem dX7_keep_17 : decode cX7_keep 17 = .ok (.aload_n 0, 1) := by decide +kernel
theorem dX7_keep_18 : decode cX7_keep 18 = .ok (.iconst 1, 1) := by decide +kernel
theorem dX7_keep_19 : decode cX7_keep 19 = .ok (.putfield 161, 3) := by decide +kernel
theorem dX7_keep_22 : decode cX7_keep 22 = .ok (.iconst 0, 1) := by decide +kernel
theorem dX7_keep_23 : decode cX7_keep 23 = .ok (.istore_n 1, 1) := by decide +kernel
theorem dX7_keep_24 : decode cX7_keep 24 = .ok (.iload_n 1, 1) := by decide +kernel
theorem dX7_keep_25 : decode cX7_keep 25 = .ok (.aload_n 0, 1) := by decide +kernel
theorem dX7_keep_26 : decode cX7_keep 26 = .ok (.getfield 55, 3) := by decide +kernel
theorem dX7_keep_29 : decode cX7_keep 29 = .ok (.if_icmp .ge 21, 3) := by decide +kernel
theorem dX7_keep_32 : decode cX7_keep 32 = .ok (.aload_n 0, 1) := by decide +kernel
theorem dX7_keep_33 : decode cX7_keep 33 = .ok (.getfield 43, 3) := by decide +kernel
theorem dX7_keep_36 : decode cX7_keep 36 = .ok (.iload_n 1, 1) := by decide +kernel
theorem dX7_keep_37 : decode cX7_keep 37 = .ok (.aload_n 0, 1) := by decide +kernel
theorem dX7_keep_38 : decode cX7_keep 38 = .ok (.getfield 37, 3) := by decide +kernel
theorem dX7_keep_41 : decode cX7_keep 41 = .ok (.iload_n 1, 1) := by decide +kernel
theorem dX7_keep_42 : decode cX7_keep 42 = .ok (.iaload, 1) := by decide +kernel
theorem dX7_keep_43 : decode cX7_keep 43 = .ok (.iastore, 1) := by decide +kernel
theorem dX7_keep_44 : decode cX7_keep 44 = .ok (.iinc 1 1, 3) := by decide +kernel
theorem dX7_keep_47 : decode cX7_keep 47 = .ok (.goto (-23), 3) := by decide +kernel
theorem dX7_keep_50 : decode cX7_keep 50 = .ok (.aload_n 0, 1) := by decide +kernel
theorem dX7_keep_51 : decode cX7_keep 51 = .ok (.getfield 55, 3) := by decide +kernel
theorem dX7_keep_54 : decode cX7_keep 54 = .ok (.ireturn, 1) := by decide +kernel
theorem dX7_compare_0 : decode cX7_compare 0 = .ok (.aload_n 0, 1) := by decide +kernel
theorem dX7_compare_1 : decode cX7_compare 1 = .ok (.iconst 0, 1) := by decide +kernel
theorem dX7_compare_2 : decode cX7_compare 2 = .ok (.invokevirtual 152, 3) := by decide +kernel
theorem dX7_compare_5 : decode cX7_compare 5 = .ok (.istore_n 1, 1) := by decide +kernel
theorem dX7_compare_6 : decode cX7_compare 6 = .ok (.aload_n 0, 1) := by decide +kernel
theorem dX7_compare_7 : decode cX7_compare 7 = .ok (.getfield 161, 3) := by decide +kernel
theorem dX7_compare_10 : decode cX7_compare 10 = .ok (.ifCond .eq 18, 3) := by decide +kernel
theorem dX7_compare_13 : decode cX7_compare 13 = .ok (.aload_n 0, 1) := by decide +kernel
theorem dX7_compare_14 : decode cX7_compare 14 = .ok (.getfield 158, 3) := by decide +kernel
theorem dX7_compare_17 : decode cX7_compare 17 = .ok (.aload_n 0, 1) := by decide +kernel
theorem dX7_compare_18 : decode cX7_compare 18 = .ok (.getfield 55, 3) := by decide +kernel
theorem dX7_compare_21 : decode cX7_compare 21 = .ok (.if_icmp .ne 7, 3) := by decide +kernel
theorem dX7_compare_24 : decode cX7_compare 24 = .ok (.iconst 1, 1) := by decide +kernel
theorem dX7_compare_25 : decode cX7_compare 25 = .ok (.goto 4, 3) := by decide +kernel
theorem dX7_compare_28 : decode cX7_compare 28 = .ok (.iconst 0, 1) := by decide +kernel
theorem dX7_compare_29 : decode cX7_compare 29 = .ok (.istore_n 2, 1) := by decide +kernel
theorem dX7_compare_30 : decode cX7_compare 30 = .ok (.iconst 0, 1) := by decide +kernel
theorem dX7_compare_31 : decode cX7_compare 31 = .ok (.istore_n 3, 1) := by decide +kernel
theorem dX7_compare_32 : decode cX7_compare 32 = .ok (.iload_n 3, 1) := by decide +kernel
theorem dX7_compare_33 : decode cX7_compare 33 = .ok (.aload_n 0, 1) := by decide +kernel
theorem dX7_compare_34 : decode cX7_compare 34 = .ok (.getfield 55, 3) := by decide +kernel
theorem dX7_compare_37 : decode cX7_compare 37 = .ok (.if_icmp .ge 34, 3) := by decide +kernel
theorem dX7_compare_40 : decode cX7_compare 40 = .ok (.iload_n 2, 1) := by decide +kernel
theorem dX7_compare_41 : decode cX7_compare 41 = .ok (.ifCond .eq 30, 3) := by decide +kernel
theorem dX7_compare_44 : decode cX7_compare 44 = .ok (.aload_n 0, 1) := by decide +kernel
theorem dX7_compare_45 : decode cX7_compare 45 = .ok (.getfield 43, 3) := by decide +kernel
theorem dX7_compare_48 : decode cX7_compare 48 = .ok (.iload_n 3, 1) := by decide +kernel
theorem dX7_compare_49 : decode cX7_compare 49 = .ok (.iaload, 1) := by decide +kernel
theorem dX7_compare_50 : decode cX7_compare 50 = .ok (.aload_n 0, 1) := by decide +kernel
theorem dX7_compare_51 : decode cX7_compare 51 = .ok (.getfield 37, 3) := by decide +kernel
theorem dX7_compare_54 : decode cX7_compare 54 = .ok (.iload_n 3, 1) := by decide +kernel
theorem dX7_compare_55 : decode cX7_compare 55 = .ok (.iaload, 1) := by decide +kernel
theorem dX7_compare_56 : decode cX7_compare 56 = .ok (.if_icmp .ne 7, 3) := by decide +kernel
theorem dX7_compare_59 : decode cX7_compare 59 = .ok (.iconst 1, 1) := by decide +kernel
theorem dX7_compare_60 : decode cX7_compare 60 = .ok (.goto 4, 3) := by decide +kernel
theorem dX7_compare_63 : decode cX7_compare 63 = .ok (.iconst 0, 1) := by decide +kernel
theorem dX7_compare_64 : decode cX7_compare 64 = .ok (.istore_n 2, 1) := by decide +kernel
theorem dX7_compare_65 : decode cX7_compare 65 = .ok (.iinc 3 1, 3) := by decide +kernel
theorem dX7_compare_68 : decode cX7_compare 68 = .ok (.goto (-36), 3) := by decide +kernel
theorem dX7_compare_71 : decode cX7_compare 71 = .ok (.iload_n 2, 1) := by decide +kernel
theorem dX7_compare_72 : decode cX7_compare 72 = .ok (.ifCond .ne 7, 3) := by decide +kernel
theorem dX7_compare_75 : decode cX7_compare 75 = .ok (.iconst 3, 1) := by decide +kernel
theorem dX7_compare_76 : decode cX7_compare 76 = .ok (.goto 33, 3) := by decide +kernel
theorem dX7_compare_79 : decode cX7_compare 79 = .ok (.iload_n 1, 1) := by decide +kernel
theorem dX7_compare_80 : decode cX7_compare 80 = .ok (.aload_n 0, 1) := by decide +kernel
theorem dX7_compare_81 : decode cX7_compare 81 = .ok (.getfield 155, 3) := by decide +kernel
theorem dX7_compare_84 : decode cX7_compare 84 = .ok (.if_icmp .ne 7, 3) := by decide +kernel
theorem dX7_compare_87 : decode cX7_compare 87 = .ok (.iconst 0, 1) := by decide +kernel
theorem dX7_compare_88 : decode cX7_compare 88 = .ok (.goto 21, 3) := by decide +kernel
theorem dX7_compare_91 : decode cX7_compare 91 = .ok (.aload_n 0, 1) := by decide +kernel
theorem dX7_compare_92 : decode cX7_compare 92 = .ok (.bipush 127, 2) := by decide +kernel
theorem dX7_compare_94 : decode cX7_compare 94 = .ok (.invokevirtual 152, 3) := by decide +kernel
theorem dX7_compare_97 : decode cX7_compare 97 = .ok (.aload_n 0, 1) := by decide +kernel
theorem dX7_compare_98 : decode cX7_compare 98 = .ok (.getfield 155, 3) := by decide +kernel
theorem dX7_compare_101 : decode cX7_compare 101 = .ok (.if_icmp .ne 7, 3) := by decide +kernel
theorem dX7_compare_104 : decode cX7_compare 104 = .ok (.iconst 2, 1) := by decide +kernel
theorem dX7_compare_105 : decode cX7_compare 105 = .ok (.goto 4, 3) := by decide +kernel
theorem dX7_compare_108 : decode cX7_compare 108 = .ok (.iconst 1, 1) := by decide +kernel
theorem dX7_compare_109 : decode cX7_compare 109 = .ok (.ireturn, 1) := by decide +kernel
theorem dX7_write_0 : decode cX7_write 0 = .ok (.aload_n 0, 1) := by decide +kernel
theorem dX7_write_1 : decode cX7_write 1 = .ok (.iconst 0, 1) := by decide +kernel
theorem dX7_write_2 : decode cX7_write 2 = .ok (.putfield 164, 3) := by decide +kernel
theorem dX7_write_5 : decode cX7_write 5 = .ok (.aload_n 0, 1) := by decide +kernel
theorem dX7_write_6 : decode cX7_write 6 = .ok (.iconst 0, 1) := by decide +kernel
theorem dX7_write_7 : decode cX7_write 7 = .ok (.invokevirtual 152, 3) := by decide +kernel
theorem dX7_write_10 : decode cX7_write 10 = .ok (.istore_n 1, 1) := by decide +kernel
theorem dX7_write_11 : decode cX7_write 11 = .ok (.iconst 0, 1) := by decide +kernel
theorem dX7_write_12 : decode cX7_write 12 = .ok (.istore_n 2, 1) := by decide +kernel
theorem dX7_write_13 : decode cX7_write 13 = .ok (.aload_n 0, 1) := by decide +kernel
theorem dX7_write_14 : decode cX7_write 14 = .ok (.getfield 55, 3) := by decide +kernel
theorem dX7_write_17 : decode cX7_write 17 = .ok (.ifCond .ne 7, 3) := by decide +kernel
theorem dX7_write_20 : decode cX7_write 20 = .ok (.iconst 1, 1) := by decide +kernel
theorem dX7_write_21 : decode cX7_write 21 = .ok (.goto 4, 3) := by decide +kernel
theorem dX7_write_24 : decode cX7_write 24 = .ok (.iconst 0, 1) := by decide +kernel
theorem dX7_write_25 : decode cX7_write 25 = .ok (.istore_n 3, 1) := by decide +kernel
theorem dX7_write_26 : decode cX7_write 26 = .ok (.iload_n 3, 1) := by decide +kernel
theorem dX7_write_27 : decode cX7_write 27 = .ok (.ifCond .ne 34, 3) := by decide +kernel
theorem dX7_write_30 : decode cX7_write 30 = .ok (.aload_n 0, 1) := by decide +kernel
theorem dX7_write_31 : decode cX7_write 31 = .ok (.aload_n 0, 1) := by decide +kernel
theorem dX7_write_32 : decode cX7_write 32 = .ok (.getfield 40, 3) := by decide +kernel
theorem dX7_write_35 : decode cX7_write 35 = .ok (.iload_n 2, 1) := by decide +kernel
theorem dX7_write_36 : decode cX7_write 36 = .ok (.iaload, 1) := by decide +kernel
theorem dX7_write_37 : decode cX7_write 37 = .ok (.invokevirtual 145, 3) := by decide +kernel
theorem dX7_write_40 : decode cX7_write 40 = .ok (.aload_n 0, 1) := by decide +kernel
theorem dX7_write_41 : decode cX7_write 41 = .ok (.iconst 0, 1) := by decide +kernel
theorem dX7_write_42 : decode cX7_write 42 = .ok (.invokevirtual 149, 3) := by decide +kernel
theorem dX7_write_45 : decode cX7_write 45 = .ok (.iload_n 1, 1) := by decide +kernel
theorem dX7_write_46 : decode cX7_write 46 = .ok (.if_icmp .ne 7, 3) := by decide +kernel
theorem dX7_write_49 : decode cX7_write 49 = .ok (.iconst 1, 1) := by decide +kernel
theorem dX7_write_50 : decode cX7_write 50 = .ok (.goto 4, 3) := by decide +kernel
theorem dX7_write_53 : decode cX7_write 53 = .ok (.iconst 0, 1) := by decide +kernel
theorem dX7_write_54 : decode cX7_write 54 = .ok (.istore_n 3, 1) := by decide +kernel
theorem dX7_write_55 : decode cX7_write 55 = .ok (.iinc 2 1, 3) := by decide +kernel
theorem dX7_write_58 : decode cX7_write 58 = .ok (.goto (-32), 3) := by decide +kernel
theorem dX7_write_61 : decode cX7_write 61 = .ok (.iconst 0, 1) := by decide +kernel
theorem dX7_write_62 : decode cX7_write 62 = .ok (.istore 4, 2) := by decide +kernel
theorem dX7_write_64 : decode cX7_write 64 = .ok (.iload 4, 2) := by decide +kernel
theorem dX7_write_66 : decode cX7_write 66 = .ok (.aload_n 0, 1) := by decide +kernel
theorem dX7_write_67 : decode cX7_write 67 = .ok (.getfield 55, 3) := by decide +kernel
theorem dX7_write_70 : decode cX7_write 70 = .ok (.if_icmp .ge 115, 3) := by decide +kernel
theorem dX7_write_73 : decode cX7_write 73 = .ok (.aload_n 0, 1) := by decide +kernel
theorem dX7_write_74 : decode cX7_write 74 = .ok (.aload_n 0, 1) := by decide +kernel
theorem dX7_write_75 : decode cX7_write 75 = .ok (.getfield 7, 3) := by decide +kernel
theorem dX7_write_78 : decode cX7_write 78 = .ok (.aload_n 0, 1) := by decide +kernel
theorem dX7_write_79 : decode cX7_write 79 = .ok (.getfield 31, 3) := by decide +kernel
theorem dX7_write_82 : decode cX7_write 82 = .ok (.iload 4, 2) := by decide +kernel
theorem dX7_write_84 : decode cX7_write 84 = .ok (.iaload, 1) := by decide +kernel
theorem dX7_write_85 : decode cX7_write 85 = .ok (.iaload, 1) := by decide +kernel
theorem dX7_write_86 : decode cX7_write 86 = .ok (.invokevirtual 170, 3) := by decide +kernel
theorem dX7_write_89 : decode cX7_write 89 = .ok (.aload_n 0, 1) := by decide +kernel
theorem dX7_write_90 : decode cX7_write 90 = .ok (.aload_n 0, 1) := by decide +kernel
theorem dX7_write_91 : decode cX7_write 91 = .ok (.getfield 31, 3) := by decide +kernel
theorem dX7_write_94 : decode cX7_write 94 = .ok (.iload 4, 2) := by decide +kernel
theorem dX7_write_96 : decode cX7_write 96 = .ok (.iaload, 1) := by decide +kernel
theorem dX7_write_97 : decode cX7_write 97 = .ok (.invokevirtual 116, 3) := by decide +kernel
theorem dX7_write_100 : decode cX7_write 100 = .ok (.istore 5, 2) := by decide +kernel
theorem dX7_write_102 : decode cX7_write 102 = .ok (.iload 5, 2) := by decide +kernel
theorem dX7_write_104 : decode cX7_write 104 = .ok (.ifCond .eq 9, 3) := by decide +kernel
theorem dX7_write_107 : decode cX7_write 107 = .ok (.aload_n 0, 1) := by decide +kernel
theorem dX7_write_108 : decode cX7_write 108 = .ok (.bipush 64, 2) := by decide +kernel
theorem dX7_write_110 : decode cX7_write 110 = .ok (.invokevirtual 167, 3) := by decide +kernel
theorem dX7_write_113 : decode cX7_write 113 = .ok (.iload 5, 2) := by decide +kernel
theorem dX7_write_115 : decode cX7_write 115 = .ok (.ifCond .le 9, 3) := by decide +kernel
theorem dX7_write_118 : decode cX7_write 118 = .ok (.aload_n 0, 1) := by decide +kernel
theorem dX7_write_119 : decode cX7_write 119 = .ok (.bipush 64, 2) := by decide +kernel
theorem dX7_write_121 : decode cX7_write 121 = .ok (.invokevirtual 167, 3) := by decide +kernel
theorem dX7_write_124 : decode cX7_write 124 = .ok (.iconst 0, 1) := by decide +kernel
theorem dX7_write_125 : decode cX7_write 125 = .ok (.istore 6, 2) := by decide +kernel
theorem dX7_write_127 : decode cX7_write 127 = .ok (.iload 6, 2) := by decide +kernel
theorem dX7_write_129 : decode cX7_write 129 = .ok (.iload 4, 2) := by decide +kernel
theorem dX7_write_131 : decode cX7_write 131 = .ok (.if_icmp .ge 42, 3) := by decide +kernel
theorem dX7_write_134 : decode cX7_write 134 = .ok (.aload_n 0, 1) := by decide +kernel
theorem dX7_write_135 : decode cX7_write 135 = .ok (.aload_n 0, 1) := by decide +kernel
theorem dX7_write_136 : decode cX7_write 136 = .ok (.getfield 31, 3) := by decide +kernel
theorem dX7_write_139 : decode cX7_write 139 = .ok (.iload 4, 2) := by decide +kernel
theorem dX7_write_141 : decode cX7_write 141 = .ok (.iaload, 1) := by decide +kernel
theorem dX7_write_142 : decode cX7_write 142 = .ok (.aload_n 0, 1) := by decide +kernel
theorem dX7_write_143 : decode cX7_write 143 = .ok (.getfield 31, 3) := by decide +kernel
theorem dX7_write_146 : decode cX7_write 146 = .ok (.iload 6, 2) := by decide +kernel
theorem dX7_write_148 : decode cX7_write 148 = .ok (.iaload, 1) := by decide +kernel
theorem dX7_write_149 : decode cX7_write 149 = .ok (.invokevirtual 77, 3) := by decide +kernel
theorem dX7_write_152 : decode cX7_write 152 = .ok (.istore 7, 2) := by decide +kernel
theorem dX7_write_154 : decode cX7_write 154 = .ok (.iload 7, 2) := by decide +kernel
theorem dX7_write_156 : decode cX7_write 156 = .ok (.ifCond .lt 11, 3) := by decide +kernel
theorem dX7_write_159 : decode cX7_write 159 = .ok (.aload_n 0, 1) := by decide +kernel
theorem dX7_write_160 : decode cX7_write 160 = .ok (.iload 7, 2) := by decide +kernel
theorem dX7_write_162 : decode cX7_write 162 = .ok (.iload 6, 2) := by decide +kernel
theorem dX7_write_164 : decode cX7_write 164 = .ok (.invokevirtual 173, 3) := by decide +kernel
theorem dX7_write_167 : decode cX7_write 167 = .ok (.iinc 6 1, 3) := by decide +kernel
theorem dX7_write_170 : decode cX7_write 170 = .ok (.goto (-43), 3) := by decide +kernel
theorem dX7_write_173 : decode cX7_write 173 = .ok (.aload_n 0, 1) := by decide +kernel
theorem dX7_write_174 : decode cX7_write 174 = .ok (.bipush 59, 2) := by decide +kernel
theorem dX7_write_176 : decode cX7_write 176 = .ok (.invokevirtual 167, 3) := by decide +kernel
theorem dX7_write_179 : decode cX7_write 179 = .ok (.iinc 4 1, 3) := by decide +kernel
theorem dX7_write_182 : decode cX7_write 182 = .ok (.goto (-118), 3) := by decide +kernel
theorem dX7_write_185 : decode cX7_write 185 = .ok (.aload_n 0, 1) := by decide +kernel
theorem dX7_write_186 : decode cX7_write 186 = .ok (.getfield 164, 3) := by decide +kernel
theorem dX7_write_189 : decode cX7_write 189 = .ok (.ireturn, 1) := by decide +kernel
theorem dX7_putElement_0 : decode cX7_putElement 0 = .ok (.aload_n 0, 1) := by decide +kernel
theorem dX7_putElement_1 : decode cX7_putElement 1 = .ok (.iload_n 1, 1) := by decide +kernel
theorem dX7_putElement_2 : decode cX7_putElement 2 = .ok (.ifCond .eq 8, 3) := by decide +kernel
theorem dX7_putElement_5 : decode cX7_putElement 5 = .ok (.iload_n 1, 1) := by decide +kernel
theorem dX7_putElement_6 : decode cX7_putElement 6 = .ok (.iconst 4, 1) := by decide +kernel
theorem dX7_putElement_7 : decode cX7_putElement 7 = .ok (.if_icmp .ne 8, 3) := by decide +kernel
theorem dX7_putElement_10 : decode cX7_putElement 10 = .ok (.bipush 67, 2) := by decide +kernel
theorem dX7_putElement_12 : decode cX7_putElement 12 = .ok (.goto 35, 3) := by decide +kernel
theorem dX7_putElement_15 : decode cX7_putElement 15 = .ok (.iload_n 1, 1) := by decide +kernel
theorem dX7_putElement_16 : decode cX7_putElement 16 = .ok (.iconst 1, 1) := by decide +kernel
theorem dX7_putElement_17 : decode cX7_putElement 17 = .ok (.if_icmp .ne 8, 3) := by decide +kernel
theorem dX7_putElement_20 : decode cX7_putElement 20 = .ok (.bipush 78, 2) := by decide +kernel
theorem dX7_putElement_22 : decode cX7_putElement 22 = .ok (.goto 25, 3) := by decide +kernel
theorem dX7_putElement_25 : decode cX7_putElement 25 = .ok (.iload_n 1, 1) := by decide +kernel
theorem dX7_putElement_26 : decode cX7_putElement 26 = .ok (.iconst 2, 1) := by decide +kernel
theorem dX7_putElement_27 : decode cX7_putElement 27 = .ok (.if_icmp .ne 8, 3) := by decide +kernel
theorem dX7_putElement_30 : decode cX7_putElement 30 = .ok (.bipush 79, 2) := by decide +kernel
theorem dX7_putElement_32 : decode cX7_putElement 32 = .ok (.goto 15, 3) := by decide +kernel
theorem dX7_putElement_35 : decode cX7_putElement 35 = .ok (.iload_n 1, 1) := by decide +kernel
theorem dX7_putElement_36 : decode cX7_putElement 36 = .ok (.iconst 3, 1) := by decide +kernel
theorem dX7_putElement_37 : decode cX7_putElement 37 = .ok (.if_icmp .ne 8, 3) := by decide +kernel
theorem dX7_putElement_40 : decode cX7_putElement 40 = .ok (.bipush 70, 2) := by decide +kernel
theorem dX7_putElement_42 : decode cX7_putElement 42 = .ok (.goto 5, 3) := by decide +kernel
theorem dX7_putElement_45 : decode cX7_putElement 45 = .ok (.bipush 83, 2) := by decide +kernel
theorem dX7_putElement_47 : decode cX7_putElement 47 = .ok (.invokevirtual 167, 3) := by decide +kernel
theorem dX7_putElement_50 : decode cX7_putElement 50 = .ok (.iload_n 1, 1) := by decide +kernel
theorem dX7_putElement_51 : decode cX7_putElement 51 = .ok (.iconst 4, 1) := by decide +kernel
theorem dX7_putElement_52 : decode cX7_putElement 52 = .ok (.if_icmp .ne 9, 3) := by decide +kernel
theorem dX7_putElement_55 : decode cX7_putElement 55 = .ok (.aload_n 0, 1) := by decide +kernel
theorem dX7_putElement_56 : decode cX7_putElement 56 = .ok (.bipush 108, 2) := by decide +kernel
theorem dX7_putElement_58 : decode cX7_putElement 58 = .ok (.invokevirtual 167, 3) := by decide +kernel
theorem dX7_putElement_61 : decode cX7_putElement 61 = .ok (.return_, 1) := by decide +kernel
theorem dX7_put_0 : decode cX7_put 0 = .ok (.aload_n 0, 1) := by decide +kernel
theorem dX7_put_1 : decode cX7_put 1 = .ok (.getfield 46, 3) := by decide +kernel
theorem dX7_put_4 : decode cX7_put 4 = .ok (.aload_n 0, 1) := by decide +kernel
theorem dX7_put_5 : decode cX7_put 5 = .ok (.getfield 164, 3) := by decide +kernel
theorem dX7_put_8 : decode cX7_put 8 = .ok (.iload_n 1, 1) := by decide +kernel
theorem dX7_put_9 : decode cX7_put 9 = .ok (.iastore, 1) := by decide +kernel
theorem dX7_put_10 : decode cX7_put 10 = .ok (.aload_n 0, 1) := by decide +kernel
theorem dX7_put_11 : decode cX7_put 11 = .ok (.dup, 1) := by decide +kernel
theorem dX7_put_12 : decode cX7_put 12 = .ok (.getfield 164, 3) := by decide +kernel
theorem dX7_put_15 : decode cX7_put 15 = .ok (.iconst 1, 1) := by decide +kernel
theorem dX7_put_16 : decode cX7_put 16 = .ok (.iadd, 1) := by decide +kernel
theorem dX7_put_17 : decode cX7_put 17 = .ok (.putfield 164, 3) := by decide +kernel
theorem dX7_put_20 : decode cX7_put 20 = .ok (.return_, 1) := by decide +kernel
theorem dX7_putBond_0 : decode cX7_putBond 0 = .ok (.aload_n 0, 1) := by decide +kernel
theorem dX7_putBond_1 : decode cX7_putBond 1 = .ok (.bipush 40, 2) := by decide +kernel
theorem dX7_putBond_3 : decode cX7_putBond 3 = .ok (.invokevirtual 167, 3) := by decide +kernel
theorem dX7_putBond_6 : decode cX7_putBond 6 = .ok (.aload_n 0, 1) := by decide +kernel
theorem dX7_putBond_7 : decode cX7_putBond 7 = .ok (.bipush 48, 2) := by decide +kernel
theorem dX7_putBond_9 : decode cX7_putBond 9 = .ok (.iload_n 2, 1) := by decide +kernel
theorem dX7_putBond_10 : decode cX7_putBond 10 = .ok (.iadd, 1) := by decide +kernel
theorem dX7_putBond_11 : decode cX7_putBond 11 = .ok (.invokevirtual 167, 3) := by decide +kernel
theorem dX7_putBond_14 : decode cX7_putBond 14 = .ok (.aload_n 0, 1) := by decide +kernel
theorem dX7_putBond_15 : decode cX7_putBond 15 = .ok (.getfield 25, 3) := by decide +kernel
theorem dX7_putBond_18 : decode cX7_putBond 18 = .ok (.iload_n 1, 1) := by decide +kernel
theorem dX7_putBond_19 : decode cX7_putBond 19 = .ok (.iaload, 1) := by decide +kernel
theorem dX7_putBond_20 : decode cX7_putBond 20 = .ok (.iconst 2, 1) := by decide +kernel
theorem dX7_putBond_21 : decode cX7_putBond 21 = .ok (.if_icmp .ne 34, 3) := by decide +kernel
theorem dX7_putBond_24 : decode cX7_putBond 24 = .ok (.aload_n 0, 1) := by decide +kernel
theorem dX7_putBond_25 : decode cX7_putBond 25 = .ok (.bipush 61, 2) := by decide +kernel
theorem dX7_putBond_27 : decode cX7_putBond 27 = .ok (.invokevirtual 167, 3) := by decide +kernel
theorem dX7_putBond_30 : decode cX7_putBond 30 = .ok (.aload_n 0, 1) := by decide +kernel
theorem dX7_putBond_31 : decode cX7_putBond 31 = .ok (.iload_n 1, 1) := by decide +kernel
theorem dX7_putBond_32 : decode cX7_putBond 32 = .ok (.invokevirtual 119, 3) := by decide +kernel
theorem dX7_putBond_35 : decode cX7_putBond 35 = .ok (.istore_n 3, 1) := by decide +kernel
theorem dX7_putBond_36 : decode cX7_putBond 36 = .ok (.iload_n 3, 1) := by decide +kernel
theorem dX7_putBond_37 : decode cX7_putBond 37 = .ok (.ifCond .eq 18, 3) := by decide +kernel
theorem dX7_putBond_40 : decode cX7_putBond 40 = .ok (.aload_n 0, 1) := by decide +kernel
theorem dX7_putBond_41 : decode cX7_putBond 41 = .ok (.iload_n 3, 1) := by decide +kernel
theorem dX7_putBond_42 : decode cX7_putBond 42 = .ok (.ifCond .le 8, 3) := by decide +kernel
theorem dX7_putBond_45 : decode cX7_putBond 45 = .ok (.bipush 99, 2) := by decide +kernel
theorem dX7_putBond_47 : decode cX7_putBond 47 = .ok (.goto 5, 3) := by decide +kernel
theorem dX7_putBond_50 : decode cX7_putBond 50 = .ok (.bipush 116, 2) := by decide +kernel
theorem dX7_putBond_52 : decode cX7_putBond 52 = .ok (.invokevirtual 167, 3) := by decide +kernel
theorem dX7_putBond_55 : decode cX7_putBond 55 = .ok (.aload_n 0, 1) := by decide +kernel
theorem dX7_putBond_56 : decode cX7_putBond 56 = .ok (.getfield 25, 3) := by decide +kernel
theorem dX7_putBond_59 : decode cX7_putBond 59 = .ok (.iload_n 1, 1) := by decide +kernel
theorem dX7_putBond_60 : decode cX7_putBond 60 = .ok (.iaload, 1) := by decide +kernel
theorem dX7_putBond_61 : decode cX7_putBond 61 = .ok (.iconst 3, 1) := by decide +kernel
theorem dX7_putBond_62 : decode cX7_putBond 62 = .ok (.if_icmp .ne 9, 3) := by decide +kernel
theorem dX7_putBond_65 : decode cX7_putBond 65 = .ok (.aload_n 0, 1) := by decide +kernel
theorem dX7_putBond_66 : decode cX7_putBond 66 = .ok (.bipush 35, 2) := by decide +kernel
theorem dX7_putBond_68 : decode cX7_putBond 68 = .ok (.invokevirtual 167, 3) := by decide +kernel
theorem dX7_putBond_71 : decode cX7_putBond 71 = .ok (.aload_n 0, 1) := by decide +kernel
theorem dX7_putBond_72 : decode cX7_putBond 72 = .ok (.bipush 41, 2) := by decide +kernel
theorem dX7_putBond_74 : decode cX7_putBond 74 = .ok (.invokevirtual 167, 3) := by decide +kernel
theorem dX7_putBond_77 : decode cX7_putBond 77 = .ok (.return_, 1) := by decide +kernel
theorem dX7_at_0 : decode cX7_at 0 = .ok (.iload_n 1, 1) := by decide +kernel
theorem dX7_at_1 : decode cX7_at 1 = .ok (.ifCond .lt 20, 3) := by decide +kernel
theorem dX7_at_4 : decode cX7_at 4 = .ok (.iload_n 1, 1) := by decide +kernel
theorem dX7_at_5 : decode cX7_at 5 = .ok (.aload_n 0, 1) := by decide +kernel
theorem dX7_at_6 : decode cX7_at 6 = .ok (.getfield 164, 3) := by decide +kernel
theorem dX7_at_9 : decode cX7_at 9 = .ok (.if_icmp .ge 12, 3) := by decide +kernel
theorem dX7_at_12 : decode cX7_at 12 = .ok (.aload_n 0, 1) := by decide +kernel
theorem dX7_at_13 : decode cX7_at 13 = .ok (.getfield 46, 3) := by decide +kernel
theorem dX7_at_16 : decode cX7_at 16 = .ok (.iload_n 1, 1) := by decide +kernel
theorem dX7_at_17 : decode cX7_at 17 = .ok (.iaload, 1) := by decide +kernel
theorem dX7_at_18 : decode cX7_at 18 = .ok (.goto 4, 3) := by decide +kernel
theorem dX7_at_21 : decode cX7_at 21 = .ok (.iconst (-1), 1) := by decide +kernel
theorem dX7_at_22 : decode cX7_at 22 = .ok (.ireturn, 1) := by decide +kernel
