theorem dIX4_init_0 : decode cX4_init 0 = .ok (.aload_n 0, 1) := by decide +kernel
theorem dIX4_init_1 : decode cX4_init 1 = .ok (.invokespecial 3, 3) := by decide +kernel
theorem dIX4_init_4 : decode cX4_init 4 = .ok (.aload_n 0, 1) := by decide +kernel
theorem dIX4_init_5 : decode cX4_init 5 = .ok (.iconst 3, 1) := by decide +kernel
theorem dIX4_init_6 : decode cX4_init 6 = .ok (.newarray .int, 2) := by decide +kernel
theorem dIX4_init_8 : decode cX4_init 8 = .ok (.putfield 9, 3) := by decide +kernel
theorem dIX4_init_11 : decode cX4_init 11 = .ok (.aload_n 0, 1) := by decide +kernel
theorem dIX4_init_12 : decode cX4_init 12 = .ok (.iconst 3, 1) := by decide +kernel
theorem dIX4_init_13 : decode cX4_init 13 = .ok (.newarray .int, 2) := by decide +kernel
theorem dIX4_init_15 : decode cX4_init 15 = .ok (.putfield 15, 3) := by decide +kernel
theorem dIX4_init_18 : decode cX4_init 18 = .ok (.aload_n 0, 1) := by decide +kernel
theorem dIX4_init_19 : decode cX4_init 19 = .ok (.iconst 3, 1) := by decide +kernel
theorem dIX4_init_20 : decode cX4_init 20 = .ok (.newarray .int, 2) := by decide +kernel
theorem dIX4_init_22 : decode cX4_init 22 = .ok (.putfield 18, 3) := by decide +kernel
theorem dIX4_init_25 : decode cX4_init 25 = .ok (.return_, 1) := by decide +kernel
theorem dIX2_init_0 : decode cX2_init 0 = .ok (.aload_n 0, 1) := by decide +kernel
theorem dIX2_init_1 : decode cX2_init 1 = .ok (.invokespecial 3, 3) := by decide +kernel
theorem dIX2_init_4 : decode cX2_init 4 = .ok (.aload_n 0, 1) := by decide +kernel
theorem dIX2_init_5 : decode cX2_init 5 = .ok (.bipush 40, 2) := by decide +kernel
theorem dIX2_init_7 : decode cX2_init 7 = .ok (.newarray .int, 2) := by decide +kernel
theorem dIX2_init_9 : decode cX2_init 9 = .ok (.putfield 11, 3) := by decide +kernel
theorem dIX2_init_12 : decode cX2_init 12 = .ok (.aload_n 0, 1) := by decide +kernel
theorem dIX2_init_13 : decode cX2_init 13 = .ok (.bipush 40, 2) := by decide +kernel
theorem dIX2_init_15 : decode cX2_init 15 = .ok (.newarray .int, 2) := by decide +kernel
theorem dIX2_init_17 : decode cX2_init 17 = .ok (.putfield 15, 3) := by decide +kernel
theorem dIX2_init_20 : decode cX2_init 20 = .ok (.aload_n 0, 1) := by decide +kernel
theorem dIX2_init_21 : decode cX2_init 21 = .ok (.bipush 40, 2) := by decide +kernel
theorem dIX2_init_23 : decode cX2_init 23 = .ok (.newarray .int, 2) := by decide +kernel
theorem dIX2_init_25 : decode cX2_init 25 = .ok (.putfield 18, 3) := by decide +kernel
theorem dIX2_init_28 : decode cX2_init 28 = .ok (.aload_n 0, 1) := by decide +kernel
theorem dIX2_init_29 : decode cX2_init 29 = .ok (.bipush 40, 2) := by decide +kernel
theorem dIX2_init_31 : decode cX2_init 31 = .ok (.newarray .int, 2) := by decide +kernel
theorem dIX2_init_33 : decode cX2_init 33 = .ok (.putfield 21, 3) := by decide +kernel
theorem dIX2_init_36 : decode cX2_init 36 = .ok (.return_, 1) := by decide +kernel
theorem dIX8_init_0 : decode cX8_init 0 = .ok (.aload_n 0, 1) := by decide +kernel
theorem dIX8_init_1 : decode cX8_init 1 = .ok (.invokespecial 3, 3) := by decide +kernel
theorem dIX8_init_4 : decode cX8_init 4 = .ok (.aload_n 0, 1) := by decide +kernel
theorem dIX8_init_5 : decode cX8_init 5 = .ok (.bipush 120, 2) := by decide +kernel
theorem dIX8_init_7 : decode cX8_init 7 = .ok (.newarray .int, 2) := by decide +kernel
theorem dIX8_init_9 : decode cX8_init 9 = .ok (.putfield 11, 3) := by decide +kernel
theorem dIX8_init_12 : decode cX8_init 12 = .ok (.aload_n 0, 1) := by decide +kernel
theorem dIX8_init_13 : decode cX8_init 13 = .ok (.bipush 121, 2) := by decide +kernel
theorem dIX8_init_15 : decode cX8_init 15 = .ok (.newarray .int, 2) := by decide +kernel
theorem dIX8_init_17 : decode cX8_init 17 = .ok (.putfield 17, 3) := by decide +kernel
theorem dIX8_init_20 : decode cX8_init 20 = .ok (.return_, 1) := by decide +kernel
theorem dIX5_init_0 : decode cX5_init 0 = .ok (.aload_n 0, 1) := by decide +kernel
theorem dIX5_init_1 : decode cX5_init 1 = .ok (.invokespecial 3, 3) := by decide +kernel
theorem dIX5_init_4 : decode cX5_init 4 = .ok (.aload_n 0, 1) := by decide +kernel
theorem dIX5_init_5 : decode cX5_init 5 = .ok (.bipush 121, 2) := by decide +kernel
theorem dIX5_init_7 : decode cX5_init 7 = .ok (.newarray .int, 2) := by decide +kernel
theorem dIX5_init_9 : decode cX5_init 9 = .ok (.putfield 11, 3) := by decide +kernel
theorem dIX5_init_12 : decode cX5_init 12 = .ok (.aload_n 0, 1) := by decide +kernel
theorem dIX5_init_13 : decode cX5_init 13 = .ok (.bipush 121, 2) := by decide +kernel
theorem dIX5_init_15 : decode cX5_init 15 = .ok (.newarray .int, 2) := by decide +kernel
theorem dIX5_init_17 : decode cX5_init 17 = .ok (.putfield 15, 3) := by decide +kernel
theorem dIX5_init_20 : decode cX5_init 20 = .ok (.aload_n 0, 1) := by decide +kernel
theorem dIX5_init_21 : decode cX5_init 21 = .ok (.sipush 750, 3) := by decide +kernel
theorem dIX5_init_24 : decode cX5_init 24 = .ok (.newarray .byte, 2) := by decide +kernel
theorem dIX5_init_26 : decode cX5_init 26 = .ok (.putfield 18, 3) := by decide +kernel
theorem dIX5_init_29 : decode cX5_init 29 = .ok (.return_, 1) := by decide +kernel
theorem dIX0_init_0 : decode cX0_init 0 = .ok (.aload_n 0, 1) := by decide +kernel
theorem dIX0_init_1 : decode cX0_init 1 = .ok (.invokespecial 3, 3) := by decide +kernel
theorem dIX0_init_4 : decode cX0_init 4 = .ok (.aload_n 0, 1) := by decide +kernel
theorem dIX0_init_5 : decode cX0_init 5 = .ok (.bipush 50, 2) := by decide +kernel
theorem dIX0_init_7 : decode cX0_init 7 = .ok (.newarray .int, 2) := by decide +kernel
theorem dIX0_init_9 : decode cX0_init 9 = .ok (.putfield 11, 3) := by decide +kernel
theorem dIX0_init_12 : decode cX0_init 12 = .ok (.aload_n 0, 1) := by decide +kernel
theorem dIX0_init_13 : decode cX0_init 13 = .ok (.bipush 24, 2) := by decide +kernel
theorem dIX0_init_15 : decode cX0_init 15 = .ok (.newarray .int, 2) := by decide +kernel
theorem dIX0_init_17 : decode cX0_init 17 = .ok (.putfield 15, 3) := by decide +kernel
theorem dIX0_init_20 : decode cX0_init 20 = .ok (.return_, 1) := by decide +kernel
theorem dIX3_init_0 : decode cX3_init 0 = .ok (.aload_n 0, 1) := by decide +kernel
theorem dIX3_init_1 : decode cX3_init 1 = .ok (.invokespecial 3, 3) := by decide +kernel
theorem dIX3_init_4 : decode cX3_init 4 = .ok (.aload_n 0, 1) := by decide +kernel
theorem dIX3_init_5 : decode cX3_init 5 = .ok (.aload_n 1, 1) := by decide +kernel
theorem dIX3_init_6 : decode cX3_init 6 = .ok (.putfield 9, 3) := by decide +kernel
theorem dIX3_init_9 : decode cX3_init 9 = .ok (.aload_n 0, 1) := by decide +kernel
theorem dIX3_init_10 : decode cX3_init 10 = .ok (.aload_n 2, 1) := by decide +kernel
theorem dIX3_init_11 : decode cX3_init 11 = .ok (.putfield 15, 3) := by decide +kernel
theorem dIX3_init_14 : decode cX3_init 14 = .ok (.return_, 1) := by decide +kernel
theorem dIX7_init_0 : decode cX7_init 0 = .ok (.aload_n 0, 1) := by decide +kernel
theorem dIX7_init_1 : decode cX7_init 1 = .ok (.invokespecial 3, 3) := by decide +kernel
theorem dIX7_init_4 : decode cX7_init 4 = .ok (.aload_n 0, 1) := by decide +kernel
theorem dIX7_init_5 : decode cX7_init 5 = .ok (.iconst 5, 1) := by decide +kernel
theorem dIX7_init_6 : decode cX7_init 6 = .ok (.newarray .int, 2) := by decide +kernel
theorem dIX7_init_8 : decode cX7_init 8 = .ok (.putfield 9, 3) := by decide +kernel
theorem dIX7_init_11 : decode cX7_init 11 = .ok (.aload_n 0, 1) := by decide +kernel
theorem dIX7_init_12 : decode cX7_init 12 = .ok (.iconst 5, 1) := by decide +kernel
theorem dIX7_init_13 : decode cX7_init 13 = .ok (.newarray .int, 2) := by decide +kernel
theorem dIX7_init_15 : decode cX7_init 15 = .ok (.putfield 15, 3) := by decide +kernel
theorem dIX7_init_18 : decode cX7_init 18 = .ok (.aload_n 0, 1) := by decide +kernel
theorem dIX7_init_19 : decode cX7_init 19 = .ok (.iconst 5, 1) := by decide +kernel
theorem dIX7_init_20 : decode cX7_init 20 = .ok (.newarray .int, 2) := by decide +kernel
theorem dIX7_init_22 : decode cX7_init 22 = .ok (.putfield 18, 3) := by decide +kernel
theorem dIX7_init_25 : decode cX7_init 25 = .ok (.aload_n 0, 1) := by decide +kernel
theorem dIX7_init_26 : decode cX7_init 26 = .ok (.iconst 0, 1) := by decide +kernel
theorem dIX7_init_27 : decode cX7_init 27 = .ok (.putfield 21, 3) := by decide +kernel
theorem dIX7_init_30 : decode cX7_init 30 = .ok (.aload_n 0, 1) := by decide +kernel
theorem dIX7_init_31 : decode cX7_init 31 = .ok (.iconst 1, 1) := by decide +kernel
theorem dIX7_init_32 : decode cX7_init 32 = .ok (.putfield 25, 3) := by decide +kernel
theorem dIX7_init_35 : decode cX7_init 35 = .ok (.aload_n 0, 1) := by decide +kernel
theorem dIX7_init_36 : decode cX7_init 36 = .ok (.iconst 3, 1) := by decide +kernel
theorem dIX7_init_37 : decode cX7_init 37 = .ok (.invokevirtual 28, 3) := by decide +kernel
theorem dIX7_init_40 : decode cX7_init 40 = .ok (.return_, 1) := by decide +kernel
theorem dIX6_init_0 : decode cX6_init 0 = .ok (.aload_n 0, 1) := by decide +kernel
theorem dIX6_init_1 : decode cX6_init 1 = .ok (.invokespecial 3, 3) := by decide +kernel
theorem dIX6_init_4 : decode cX6_init 4 = .ok (.aload_n 0, 1) := by decide +kernel
theorem dIX6_init_5 : decode cX6_init 5 = .ok (.bipush 6, 2) := by decide +kernel
theorem dIX6_init_7 : decode cX6_init 7 = .ok (.newarray .int, 2) := by decide +kernel
theorem dIX6_init_9 : decode cX6_init 9 = .ok (.putfield 11, 3) := by decide +kernel
theorem dIX6_init_12 : decode cX6_init 12 = .ok (.aload_n 0, 1) := by decide +kernel
theorem dIX6_init_13 : decode cX6_init 13 = .ok (.bipush 6, 2) := by decide +kernel
theorem dIX6_init_15 : decode cX6_init 15 = .ok (.newarray .int, 2) := by decide +kernel
theorem dIX6_init_17 : decode cX6_init 17 = .ok (.putfield 15, 3) := by decide +kernel
theorem dIX6_init_20 : decode cX6_init 20 = .ok (.aload_n 0, 1) := by decide +kernel
theorem dIX6_init_21 : decode cX6_init 21 = .ok (.bipush 6, 2) := by decide +kernel
theorem dIX6_init_23 : decode cX6_init 23 = .ok (.bipush 60, 2) := by decide +kernel
theorem dIX6_init_25 : decode cX6_init 25 = .ok (.multianewarray 18 2, 4) := by decide +kernel
theorem dIX6_init_29 : decode cX6_init 29 = .ok (.putfield 20, 3) := by decide +kernel
theorem dIX6_init_32 : decode cX6_init 32 = .ok (.aload_n 0, 1) := by decide +kernel
theorem dIX6_init_33 : decode cX6_init 33 = .ok (.getfield 11, 3) := by decide +kernel
theorem dIX6_init_36 : decode cX6_init 36 = .ok (.iconst (-1), 1) := by decide +kernel
theorem dIX6_init_37 : decode cX6_init 37 = .ok (.invokestatic 23, 3) := by decide +kernel
theorem dIX6_init_40 : decode cX6_init 40 = .ok (.return_, 1) := by decide +kernel
theorem dIX1_init_0 : decode cX1_init 0 = .ok (.aload_n 0, 1) := by decide +kernel
theorem dIX1_init_1 : decode cX1_init 1 = .ok (.invokespecial 3, 3) := by decide +kernel
theorem dIX1_init_4 : decode cX1_init 4 = .ok (.aload_n 0, 1) := by decide +kernel
theorem dIX1_init_5 : decode cX1_init 5 = .ok (.iconst 4, 1) := by decide +kernel
theorem dIX1_init_6 : decode cX1_init 6 = .ok (.anewarray 9, 3) := by decide +kernel
theorem dIX1_init_9 : decode cX1_init 9 = .ok (.putfield 11, 3) := by decide +kernel
theorem dIX1_init_12 : decode cX1_init 12 = .ok (.aload_n 0, 1) := by decide +kernel
theorem dIX1_init_13 : decode cX1_init 13 = .ok (.iconst 5, 1) := by decide +kernel
theorem dIX1_init_14 : decode cX1_init 14 = .ok (.newarray .long, 2) := by decide +kernel
theorem dIX1_init_16 : decode cX1_init 16 = .ok (.putfield 17, 3) := by decide +kernel
theorem dIX1_init_19 : decode cX1_init 19 = .ok (.aload_n 0, 1) := by decide +kernel
theorem dIX1_init_20 : decode cX1_init 20 = .ok (.iconst 4, 1) := by decide +kernel
theorem dIX1_init_21 : decode cX1_init 21 = .ok (.iconst 5, 1) := by decide +kernel
theorem dIX1_init_22 : decode cX1_init 22 = .ok (.multianewarray 21 2, 4) := by decide +kernel
theorem dIX1_init_26 : decode cX1_init 26 = .ok (.putfield 23, 3) := by decide +kernel
theorem dIX1_init_29 : decode cX1_init 29 = .ok (.aload_n 0, 1) := by decide +kernel
theorem dIX1_init_30 : decode cX1_init 30 = .ok (.iconst 3, 1) := by decide +kernel
theorem dIX1_init_31 : decode cX1_init 31 = .ok (.iconst 5, 1) := by decide +kernel
theorem dIX1_init_32 : decode cX1_init 32 = .ok (.multianewarray 21 2, 4) := by decide +kernel
theorem dIX1_init_36 : decode cX1_init 36 = .ok (.putfield 26, 3) := by decide +kernel
theorem dIX1_init_39 : decode cX1_init 39 = .ok (.aload_n 0, 1) := by decide +kernel
theorem dIX1_init_40 : decode cX1_init 40 = .ok (.iconst 4, 1) := by decide +kernel
theorem dIX1_init_41 : decode cX1_init 41 = .ok (.newarray .long, 2) := by decide +kernel
theorem dIX1_init_43 : decode cX1_init 43 = .ok (.putfield 29, 3) := by decide +kernel
theorem dIX1_init_46 : decode cX1_init 46 = .ok (.aload_n 0, 1) := by decide +kernel
theorem dIX1_init_47 : decode cX1_init 47 = .ok (.iconst 4, 1) := by decide +kernel
theorem dIX1_init_48 : decode cX1_init 48 = .ok (.newarray .int, 2) := by decide +kernel
theorem dIX1_init_50 : decode cX1_init 50 = .ok (.putfield 32, 3) := by decide +kernel
theorem dIX1_init_53 : decode cX1_init 53 = .ok (.aload_n 0, 1) := by decide +kernel
theorem dIX1_init_54 : decode cX1_init 54 = .ok (.iconst 4, 1) := by decide +kernel
theorem dIX1_init_55 : decode cX1_init 55 = .ok (.newarray .int, 2) := by decide +kernel
theorem dIX1_init_57 : decode cX1_init 57 = .ok (.putfield 36, 3) := by decide +kernel
theorem dIX1_init_60 : decode cX1_init 60 = .ok (.aload_n 0, 1) := by decide +kernel
theorem dIX1_init_61 : decode cX1_init 61 = .ok (.aload_n 1, 1) := by decide +kernel
theorem dIX1_init_62 : decode cX1_init 62 = .ok (.putfield 39, 3) := by decide +kernel
theorem dIX1_init_65 : decode cX1_init 65 = .ok (.iconst 0, 1) := by decide +kernel
theorem dIX1_init_66 : decode cX1_init 66 = .ok (.istore_n 2, 1) := by decide +kernel
theorem dIX1_init_67 : decode cX1_init 67 = .ok (.iload_n 2, 1) := by decide +kernel
theorem dIX1_init_68 : decode cX1_init 68 = .ok (.iconst 4, 1) := by decide +kernel
theorem dIX1_init_69 : decode cX1_init 69 = .ok (.if_icmp .ge 22, 3) := by decide +kernel
theorem dIX1_init_72 : decode cX1_init 72 = .ok (.aload_n 0, 1) := by decide +kernel
theorem dIX1_init_73 : decode cX1_init 73 = .ok (.getfield 11, 3) := by decide +kernel
theorem dIX1_init_76 : decode cX1_init 76 = .ok (.iload_n 2, 1) := by decide +kernel
theorem dIX1_init_77 : decode cX1_init 77 = .ok (.new 9, 3) := by decide +kernel
theorem dIX1_init_80 : decode cX1_init 80 = .ok (.dup, 1) := by decide +kernel
theorem dIX1_init_81 : decode cX1_init 81 = .ok (.invokespecial 43, 3) := by decide +kernel
theorem dIX1_init_84 : decode cX1_init 84 = .ok (.aastore, 1) := by decide +kernel
theorem dIX1_init_85 : decode cX1_init 85 = .ok (.iinc 2 1, 3) := by decide +kernel
theorem dIX1_init_88 : decode cX1_init 88 = .ok (.goto (-21), 3) := by decide +kernel
theorem dIX1_init_91 : decode cX1_init 91 = .ok (.aload_n 0, 1) := by decide +kernel
theorem dIX1_init_92 : decode cX1_init 92 = .ok (.invokevirtual 44, 3) := by decide +kernel
theorem dIX1_init_95 : decode cX1_init 95 = .ok (.return_, 1) := by decide +kernel
theorem dIX9_init_0 : decode cX9_init 0 = .ok (.aload_n 0, 1) := by decide +kernel
theorem dIX9_init_1 : decode cX9_init 1 = .ok (.invokespecial 1, 3) := by decide +kernel
theorem dIX9_init_4 : decode cX9_init 4 = .ok (.aload_n 0, 1) := by decide +kernel
theorem dIX9_init_5 : decode cX9_init 5 = .ok (.new 7, 3) := by decide +kernel
theorem dIX9_init_8 : decode cX9_init 8 = .ok (.dup, 1) := by decide +kernel
theorem dIX9_init_9 : decode cX9_init 9 = .ok (.invokespecial 9, 3) := by decide +kernel
theorem dIX9_init_12 : decode cX9_init 12 = .ok (.putfield 10, 3) := by decide +kernel
theorem dIX9_init_15 : decode cX9_init 15 = .ok (.aload_n 0, 1) := by decide +kernel
theorem dIX9_init_16 : decode cX9_init 16 = .ok (.new 16, 3) := by decide +kernel
theorem dIX9_init_19 : decode cX9_init 19 = .ok (.dup, 1) := by decide +kernel
theorem dIX9_init_20 : decode cX9_init 20 = .ok (.invokespecial 18, 3) := by decide +kernel
theorem dIX9_init_23 : decode cX9_init 23 = .ok (.putfield 19, 3) := by decide +kernel
theorem dIX9_init_26 : decode cX9_init 26 = .ok (.aload_n 0, 1) := by decide +kernel
theorem dIX9_init_27 : decode cX9_init 27 = .ok (.new 16, 3) := by decide +kernel
theorem dIX9_init_30 : decode cX9_init 30 = .ok (.dup, 1) := by decide +kernel
theorem dIX9_init_31 : decode cX9_init 31 = .ok (.invokespecial 18, 3) := by decide +kernel
theorem dIX9_init_34 : decode cX9_init 34 = .ok (.putfield 23, 3) := by decide +kernel
theorem dIX9_init_37 : decode cX9_init 37 = .ok (.aload_n 0, 1) := by decide +kernel
theorem dIX9_init_38 : decode cX9_init 38 = .ok (.iconst 0, 1) := by decide +kernel
theorem dIX9_init_39 : decode cX9_init 39 = .ok (.putfield 26, 3) := by decide +kernel
theorem dIX9_init_42 : decode cX9_init 42 = .ok (.aload_n 0, 1) := by decide +kernel
theorem dIX9_init_43 : decode cX9_init 43 = .ok (.new 30, 3) := by decide +kernel
theorem dIX9_init_46 : decode cX9_init 46 = .ok (.dup, 1) := by decide +kernel
theorem dIX9_init_47 : decode cX9_init 47 = .ok (.invokespecial 32, 3) := by decide +kernel
theorem dIX9_init_50 : decode cX9_init 50 = .ok (.putfield 33, 3) := by decide +kernel
theorem dIX9_init_53 : decode cX9_init 53 = .ok (.aload_n 0, 1) := by decide +kernel
theorem dIX9_init_54 : decode cX9_init 54 = .ok (.new 37, 3) := by decide +kernel
theorem dIX9_init_57 : decode cX9_init 57 = .ok (.dup, 1) := by decide +kernel
theorem dIX9_init_58 : decode cX9_init 58 = .ok (.invokespecial 39, 3) := by decide +kernel
theorem dIX9_init_61 : decode cX9_init 61 = .ok (.putfield 40, 3) := by decide +kernel
theorem dIX9_init_64 : decode cX9_init 64 = .ok (.aload_n 0, 1) := by decide +kernel
theorem dIX9_init_65 : decode cX9_init 65 = .ok (.new 44, 3) := by decide +kernel
theorem dIX9_init_68 : decode cX9_init 68 = .ok (.dup, 1) := by decide +kernel
theorem dIX9_init_69 : decode cX9_init 69 = .ok (.aload_n 0, 1) := by decide +kernel
theorem dIX9_init_70 : decode cX9_init 70 = .ok (.getfield 10, 3) := by decide +kernel
theorem dIX9_init_73 : decode cX9_init 73 = .ok (.invokespecial 46, 3) := by decide +kernel
theorem dIX9_init_76 : decode cX9_init 76 = .ok (.putfield 49, 3) := by decide +kernel
theorem dIX9_init_79 : decode cX9_init 79 = .ok (.aload_n 0, 1) := by decide +kernel
theorem dIX9_init_80 : decode cX9_init 80 = .ok (.new 53, 3) := by decide +kernel
theorem dIX9_init_83 : decode cX9_init 83 = .ok (.dup, 1) := by decide +kernel
theorem dIX9_init_84 : decode cX9_init 84 = .ok (.aload_n 0, 1) := by decide +kernel
theorem dIX9_init_85 : decode cX9_init 85 = .ok (.getfield 10, 3) := by decide +kernel
theorem dIX9_init_88 : decode cX9_init 88 = .ok (.aload_n 0, 1) := by decide +kernel
theorem dIX9_init_89 : decode cX9_init 89 = .ok (.getfield 49, 3) := by decide +kernel
theorem dIX9_init_92 : decode cX9_init 92 = .ok (.invokespecial 55, 3) := by decide +kernel
theorem dIX9_init_95 : decode cX9_init 95 = .ok (.putfield 58, 3) := by decide +kernel
theorem dIX9_init_98 : decode cX9_init 98 = .ok (.aload_n 0, 1) := by decide +kernel
theorem dIX9_init_99 : decode cX9_init 99 = .ok (.new 62, 3) := by decide +kernel
theorem dIX9_init_102 : decode cX9_init 102 = .ok (.dup, 1) := by decide +kernel
theorem dIX9_init_103 : decode cX9_init 103 = .ok (.invokespecial 64, 3) := by decide +kernel
theorem dIX9_init_106 : decode cX9_init 106 = .ok (.putfield 65, 3) := by decide +kernel
theorem dIX9_init_109 : decode cX9_init 109 = .ok (.aload_n 0, 1) := by decide +kernel
theorem dIX9_init_110 : decode cX9_init 110 = .ok (.new 69, 3) := by decide +kernel
theorem dIX9_init_113 : decode cX9_init 113 = .ok (.dup, 1) := by decide +kernel
theorem dIX9_init_114 : decode cX9_init 114 = .ok (.invokespecial 71, 3) := by decide +kernel
theorem dIX9_init_117 : decode cX9_init 117 = .ok (.putfield 72, 3) := by decide +kernel
theorem dIX9_init_120 : decode cX9_init 120 = .ok (.return_, 1) := by decide +kernel
theorem dIX10_init_0 : decode cX10_init 0 = .ok (.aload_n 0, 1) := by decide +kernel
theorem dIX10_init_1 : decode cX10_init 1 = .ok (.invokespecial 5, 3) := by decide +kernel
theorem dIX10_init_4 : decode cX10_init 4 = .ok (.aload_n 0, 1) := by decide +kernel
theorem dIX10_init_5 : decode cX10_init 5 = .ok (.bipush 7, 2) := by decide +kernel
theorem dIX10_init_7 : decode cX10_init 7 = .ok (.newarray .int, 2) := by decide +kernel
theorem dIX10_init_9 : decode cX10_init 9 = .ok (.putfield 11, 3) := by decide +kernel
theorem dIX10_init_12 : decode cX10_init 12 = .ok (.aload_n 0, 1) := by decide +kernel
theorem dIX10_init_13 : decode cX10_init 13 = .ok (.bipush 40, 2) := by decide +kernel
theorem dIX10_init_15 : decode cX10_init 15 = .ok (.newarray .int, 2) := by decide +kernel
theorem dIX10_init_17 : decode cX10_init 17 = .ok (.putfield 15, 3) := by decide +kernel
theorem dIX10_init_20 : decode cX10_init 20 = .ok (.aload_n 0, 1) := by decide +kernel
theorem dIX10_init_21 : decode cX10_init 21 = .ok (.bipush 40, 2) := by decide +kernel
theorem dIX10_init_23 : decode cX10_init 23 = .ok (.newarray .int, 2) := by decide +kernel
theorem dIX10_init_25 : decode cX10_init 25 = .ok (.putfield 18, 3) := by decide +kernel
theorem dIX10_init_28 : decode cX10_init 28 = .ok (.aload_n 0, 1) := by decide +kernel
theorem dIX10_init_29 : decode cX10_init 29 = .ok (.bipush 40, 2) := by decide +kernel
theorem dIX10_init_31 : decode cX10_init 31 = .ok (.newarray .int, 2) := by decide +kernel
theorem dIX10_init_33 : decode cX10_init 33 = .ok (.putfield 21, 3) := by decide +kernel
theorem dIX10_init_36 : decode cX10_init 36 = .ok (.aload_n 0, 1) := by decide +kernel
theorem dIX10_init_37 : decode cX10_init 37 = .ok (.iconst 3, 1) := by decide +kernel
theorem dIX10_init_38 : decode cX10_init 38 = .ok (.newarray .int, 2) := by decide +kernel
theorem dIX10_init_40 : decode cX10_init 40 = .ok (.putfield 24, 3) := by decide +kernel
theorem dIX10_init_43 : decode cX10_init 43 = .ok (.aload_n 0, 1) := by decide +kernel
theorem dIX10_init_44 : decode cX10_init 44 = .ok (.iconst 3, 1) := by decide +kernel
theorem dIX10_init_45 : decode cX10_init 45 = .ok (.newarray .int, 2) := by decide +kernel
theorem dIX10_init_47 : decode cX10_init 47 = .ok (.putfield 27, 3) := by decide +kernel
theorem dIX10_init_50 : decode cX10_init 50 = .ok (.aload_n 0, 1) := by decide +kernel
theorem dIX10_init_51 : decode cX10_init 51 = .ok (.iconst 5, 1) := by decide +kernel
theorem dIX10_init_52 : decode cX10_init 52 = .ok (.newarray .int, 2) := by decide +kernel
theorem dIX10_init_54 : decode cX10_init 54 = .ok (.putfield 30, 3) := by decide +kernel
theorem dIX10_init_57 : decode cX10_init 57 = .ok (.aload_n 0, 1) := by decide +kernel
theorem dIX10_init_58 : decode cX10_init 58 = .ok (.bipush 120, 2) := by decide +kernel
theorem dIX10_init_60 : decode cX10_init 60 = .ok (.newarray .int, 2) := by decide +kernel
theorem dIX10_init_62 : decode cX10_init 62 = .ok (.putfield 33, 3) := by decide +kernel
theorem dIX10_init_65 : decode cX10_init 65 = .ok (.aload_n 0, 1) := by decide +kernel
theorem dIX10_init_66 : decode cX10_init 66 = .ok (.sipush 480, 3) := by decide +kernel
theorem dIX10_init_69 : decode cX10_init 69 = .ok (.newarray .int, 2) := by decide +kernel
theorem dIX10_init_71 : decode cX10_init 71 = .ok (.putfield 36, 3) := by decide +kernel
theorem dIX10_init_74 : decode cX10_init 74 = .ok (.aload_n 0, 1) := by decide +kernel
theorem dIX10_init_75 : decode cX10_init 75 = .ok (.iconst 4, 1) := by decide +kernel
theorem dIX10_init_76 : decode cX10_init 76 = .ok (.newarray .int, 2) := by decide +kernel
theorem dIX10_init_78 : decode cX10_init 78 = .ok (.putfield 39, 3) := by decide +kernel
theorem dIX10_init_81 : decode cX10_init 81 = .ok (.aload_n 0, 1) := by decide +kernel
theorem dIX10_init_82 : decode cX10_init 82 = .ok (.bipush 6, 2) := by decide +kernel
theorem dIX10_init_84 : decode cX10_init 84 = .ok (.newarray .int, 2) := by decide +kernel
theorem dIX10_init_86 : decode cX10_init 86 = .ok (.putfield 42, 3) := by decide +kernel
theorem dIX10_init_89 : decode cX10_init 89 = .ok (.aload_n 0, 1) := by decide +kernel
theorem dIX10_init_90 : decode cX10_init 90 = .ok (.iconst 5, 1) := by decide +kernel
theorem dIX10_init_91 : decode cX10_init 91 = .ok (.newarray .long, 2) := by decide +kernel
theorem dIX10_init_93 : decode cX10_init 93 = .ok (.putfield 45, 3) := by decide +kernel
theorem dIX10_init_96 : decode cX10_init 96 = .ok (.aload_n 0, 1) := by decide +kernel
theorem dIX10_init_97 : decode cX10_init 97 = .ok (.bipush 20, 2) := by decide +kernel
theorem dIX10_init_99 : decode cX10_init 99 = .ok (.newarray .long, 2) := by decide +kernel
theorem dIX10_init_101 : decode cX10_init 101 = .ok (.putfield 49, 3) := by decide +kernel
theorem dIX10_init_104 : decode cX10_init 104 = .ok (.aload_n 0, 1) := by decide +kernel
theorem dIX10_init_105 : decode cX10_init 105 = .ok (.iconst 3, 1) := by decide +kernel
theorem dIX10_init_106 : decode cX10_init 106 = .ok (.newarray .int, 2) := by decide +kernel
theorem dIX10_init_108 : decode cX10_init 108 = .ok (.putfield 52, 3) := by decide +kernel
theorem dIX10_init_111 : decode cX10_init 111 = .ok (.aload_n 0, 1) := by decide +kernel
theorem dIX10_init_112 : decode cX10_init 112 = .ok (.iconst 3, 1) := by decide +kernel
theorem dIX10_init_113 : decode cX10_init 113 = .ok (.newarray .int, 2) := by decide +kernel
theorem dIX10_init_115 : decode cX10_init 115 = .ok (.putfield 55, 3) := by decide +kernel
theorem dIX10_init_118 : decode cX10_init 118 = .ok (.aload_n 0, 1) := by decide +kernel
theorem dIX10_init_119 : decode cX10_init 119 = .ok (.iconst 3, 1) := by decide +kernel
theorem dIX10_init_120 : decode cX10_init 120 = .ok (.newarray .int, 2) := by decide +kernel
theorem dIX10_init_122 : decode cX10_init 122 = .ok (.putfield 58, 3) := by decide +kernel
theorem dIX10_init_125 : decode cX10_init 125 = .ok (.aload_n 0, 1) := by decide +kernel
theorem dIX10_init_126 : decode cX10_init 126 = .ok (.iconst 3, 1) := by decide +kernel
theorem dIX10_init_127 : decode cX10_init 127 = .ok (.newarray .int, 2) := by decide +kernel
theorem dIX10_init_129 : decode cX10_init 129 = .ok (.putfield 61, 3) := by decide +kernel
theorem dIX10_init_132 : decode cX10_init 132 = .ok (.aload_n 0, 1) := by decide +kernel
theorem dIX10_init_133 : decode cX10_init 133 = .ok (.bipush 50, 2) := by decide +kernel
theorem dIX10_init_135 : decode cX10_init 135 = .ok (.newarray .int, 2) := by decide +kernel
theorem dIX10_init_137 : decode cX10_init 137 = .ok (.putfield 64, 3) := by decide +kernel
theorem dIX10_init_140 : decode cX10_init 140 = .ok (.aload_n 0, 1) := by decide +kernel
theorem dIX10_init_141 : decode cX10_init 141 = .ok (.bipush 24, 2) := by decide +kernel
theorem dIX10_init_143 : decode cX10_init 143 = .ok (.newarray .int, 2) := by decide +kernel
theorem dIX10_init_145 : decode cX10_init 145 = .ok (.putfield 67, 3) := by decide +kernel
theorem dIX10_init_148 : decode cX10_init 148 = .ok (.aload_n 0, 1) := by decide +kernel
theorem dIX10_init_149 : decode cX10_init 149 = .ok (.bipush 6, 2) := by decide +kernel
theorem dIX10_init_151 : decode cX10_init 151 = .ok (.newarray .int, 2) := by decide +kernel
theorem dIX10_init_153 : decode cX10_init 153 = .ok (.putfield 70, 3) := by decide +kernel
theorem dIX10_init_156 : decode cX10_init 156 = .ok (.aload_n 0, 1) := by decide +kernel
theorem dIX10_init_157 : decode cX10_init 157 = .ok (.bipush 6, 2) := by decide +kernel
theorem dIX10_init_159 : decode cX10_init 159 = .ok (.newarray .int, 2) := by decide +kernel
theorem dIX10_init_161 : decode cX10_init 161 = .ok (.putfield 73, 3) := by decide +kernel
theorem dIX10_init_164 : decode cX10_init 164 = .ok (.aload_n 0, 1) := by decide +kernel
theorem dIX10_init_165 : decode cX10_init 165 = .ok (.sipush 360, 3) := by decide +kernel
theorem dIX10_init_168 : decode cX10_init 168 = .ok (.newarray .long, 2) := by decide +kernel
theorem dIX10_init_170 : decode cX10_init 170 = .ok (.putfield 76, 3) := by decide +kernel
theorem dIX10_init_173 : decode cX10_init 173 = .ok (.aload_n 0, 1) := by decide +kernel
theorem dIX10_init_174 : decode cX10_init 174 = .ok (.bipush 60, 2) := by decide +kernel
theorem dIX10_init_176 : decode cX10_init 176 = .ok (.newarray .long, 2) := by decide +kernel
theorem dIX10_init_178 : decode cX10_init 178 = .ok (.putfield 79, 3) := by decide +kernel
theorem dIX10_init_181 : decode cX10_init 181 = .ok (.iconst 0, 1) := by decide +kernel
theorem dIX10_init_182 : decode cX10_init 182 = .ok (.istore_n 1, 1) := by decide +kernel
theorem dIX10_init_183 : decode cX10_init 183 = .ok (.iload_n 1, 1) := by decide +kernel
theorem dIX10_init_184 : decode cX10_init 184 = .ok (.bipush 6, 2) := by decide +kernel
theorem dIX10_init_186 : decode cX10_init 186 = .ok (.if_icmp .ge 16, 3) := by decide +kernel
theorem dIX10_init_189 : decode cX10_init 189 = .ok (.aload_n 0, 1) := by decide +kernel
theorem dIX10_init_190 : decode cX10_init 190 = .ok (.getfield 70, 3) := by decide +kernel
theorem dIX10_init_193 : decode cX10_init 193 = .ok (.iload_n 1, 1) := by decide +kernel
theorem dIX10_init_194 : decode cX10_init 194 = .ok (.iconst (-1), 1) := by decide +kernel
theorem dIX10_init_195 : decode cX10_init 195 = .ok (.iastore, 1) := by decide +kernel
theorem dIX10_init_196 : decode cX10_init 196 = .ok (.iinc 1 1, 3) := by decide +kernel
theorem dIX10_init_199 : decode cX10_init 199 = .ok (.goto (-16), 3) := by decide +kernel
theorem dIX10_init_202 : decode cX10_init 202 = .ok (.iconst 0, 1) := by decide +kernel
theorem dIX10_init_203 : decode cX10_init 203 = .ok (.istore_n 1, 1) := by decide +kernel
theorem dIX10_init_204 : decode cX10_init 204 = .ok (.iload_n 1, 1) := by decide +kernel
theorem dIX10_init_205 : decode cX10_init 205 = .ok (.iconst 4, 1) := by decide +kernel
theorem dIX10_init_206 : decode cX10_init 206 = .ok (.if_icmp .ge 16, 3) := by decide +kernel
theorem dIX10_init_209 : decode cX10_init 209 = .ok (.aload_n 0, 1) := by decide +kernel
theorem dIX10_init_210 : decode cX10_init 210 = .ok (.getfield 39, 3) := by decide +kernel
theorem dIX10_init_213 : decode cX10_init 213 = .ok (.iload_n 1, 1) := by decide +kernel
theorem dIX10_init_214 : decode cX10_init 214 = .ok (.iconst (-1), 1) := by decide +kernel
theorem dIX10_init_215 : decode cX10_init 215 = .ok (.iastore, 1) := by decide +kernel
theorem dIX10_init_216 : decode cX10_init 216 = .ok (.iinc 1 1, 3) := by decide +kernel
theorem dIX10_init_219 : decode cX10_init 219 = .ok (.goto (-15), 3) := by decide +kernel
theorem dIX10_init_222 : decode cX10_init 222 = .ok (.aload_n 0, 1) := by decide +kernel
theorem dIX10_init_223 : decode cX10_init 223 = .ok (.getfield 11, 3) := by decide +kernel
theorem dIX10_init_226 : decode cX10_init 226 = .ok (.bipush 6, 2) := by decide +kernel
theorem dIX10_init_228 : decode cX10_init 228 = .ok (.iconst 1, 1) := by decide +kernel
theorem dIX10_init_229 : decode cX10_init 229 = .ok (.iastore, 1) := by decide +kernel
theorem dIX10_init_230 : decode cX10_init 230 = .ok (.aload_n 0, 1) := by decide +kernel
theorem dIX10_init_231 : decode cX10_init 231 = .ok (.iconst 3, 1) := by decide +kernel
theorem dIX10_init_232 : decode cX10_init 232 = .ok (.invokevirtual 82, 3) := by decide +kernel
theorem dIX10_init_235 : decode cX10_init 235 = .ok (.return_, 1) := by decide +kernel
theorem ol_i : Cond.instanceMethod objectInit ∈ ab_T := ab_Tm 22 (by decide +kernel) (by decide +kernel)
theorem ol_c : Cond.code objectInit ⟨#[0xb1]⟩ 1 none ∈ ab_T := ab_Tm 23 (by decide +kernel) (by decide +kernel)
theorem aw_int : Cond.arrayClass .int ∈ ab_T := ab_Tm 70 (by decide +kernel) (by decide +kernel)
theorem aw_long : Cond.arrayClass .long ∈ ab_T := ab_Tm 192 (by decide +kernel) (by decide +kernel)
theorem aw_byte : Cond.arrayClass .byte ∈ ab_T := ab_Tm 193 (by decide +kernel) (by decide +kernel)
theorem olX4_3 : Cond.methodLink RX4 3 objectInit ∈ ab_T := ab_Tm 76 (by decide +kernel) (by decide +kernel)
theorem ffX4_9 : ac_FF RX4 9 4 0 (.array .int) := ⟨RX4, TX4, 6, tyX4, rfl, inX4, tyX4_ok, nmX4, by decide, ab_Tm 77 (by decide +kernel) (by decide +kernel), rfl, rfl, by decide +kernel⟩
theorem ffX4_15 : ac_FF RX4 15 4 1 (.array .int) := ⟨RX4, TX4, 6, tyX4, rfl, inX4, tyX4_ok, nmX4, by decide, ab_Tm 78 (by decide +kernel) (by decide +kernel), rfl, rfl, by decide +kernel⟩
theorem ffX4_18 : ac_FF RX4 18 4 2 (.array .int) := ⟨RX4, TX4, 6, tyX4, rfl, inX4, tyX4_ok, nmX4, by decide, ab_Tm 79 (by decide +kernel) (by decide +kernel), rfl, rfl, by decide +kernel⟩
theorem olX2_3 : Cond.methodLink RX2 3 objectInit ∈ ab_T := ab_Tm 106 (by decide +kernel) (by decide +kernel)
theorem ffX2_11 : ac_FF RX2 11 2 0 (.array .int) := ⟨RX2, TX2, 6, tyX2, rfl, inX2, tyX2_ok, nmX2, by decide, ab_Tm 107 (by decide +kernel) (by decide +kernel), rfl, rfl, by decide +kernel⟩
theorem ffX2_15 : ac_FF RX2 15 2 1 (.array .int) := ⟨RX2, TX2, 6, tyX2, rfl, inX2, tyX2_ok, nmX2, by decide, ab_Tm 108 (by decide +kernel) (by decide +kernel), rfl, rfl, by decide +kernel⟩
theorem ffX2_18 : ac_FF RX2 18 2 2 (.array .int) := ⟨RX2, TX2, 6, tyX2, rfl, inX2, tyX2_ok, nmX2, by decide, ab_Tm 109 (by decide +kernel) (by decide +kernel), rfl, rfl, by decide +kernel⟩
theorem ffX2_21 : ac_FF RX2 21 2 3 (.array .int) := ⟨RX2, TX2, 6, tyX2, rfl, inX2, tyX2_ok, nmX2, by decide, ab_Tm 110 (by decide +kernel) (by decide +kernel), rfl, rfl, by decide +kernel⟩
theorem olX8_3 : Cond.methodLink RX8 3 objectInit ∈ ab_T := ab_Tm 132 (by decide +kernel) (by decide +kernel)
theorem ffX8_11 : ac_FF RX8 11 8 0 (.array .int) := ⟨RX8, TX8, 6, tyX8, rfl, inX8, tyX8_ok, nmX8, by decide, ab_Tm 133 (by decide +kernel) (by decide +kernel), rfl, rfl, by decide +kernel⟩
theorem ffX8_17 : ac_FF RX8 17 8 1 (.array .int) := ⟨RX8, TX8, 6, tyX8, rfl, inX8, tyX8_ok, nmX8, by decide, ab_Tm 134 (by decide +kernel) (by decide +kernel), rfl, rfl, by decide +kernel⟩
theorem olX5_3 : Cond.methodLink RX5 3 objectInit ∈ ab_T := ab_Tm 169 (by decide +kernel) (by decide +kernel)
theorem ffX5_11 : ac_FF RX5 11 5 0 (.array .int) := ⟨RX5, TX5, 7, tyX5, rfl, inX5, tyX5_ok, nmX5, by decide, ab_Tm 170 (by decide +kernel) (by decide +kernel), rfl, rfl, by decide +kernel⟩
theorem ffX5_15 : ac_FF RX5 15 5 1 (.array .int) := ⟨RX5, TX5, 7, tyX5, rfl, inX5, tyX5_ok, nmX5, by decide, ab_Tm 171 (by decide +kernel) (by decide +kernel), rfl, rfl, by decide +kernel⟩
theorem ffX5_18 : ac_FF RX5 18 5 2 (.array .byte) := ⟨RX5, TX5, 7, tyX5, rfl, inX5, tyX5_ok, nmX5, by decide, ab_Tm 172 (by decide +kernel) (by decide +kernel), rfl, rfl, by decide +kernel⟩
theorem olX0_3 : Cond.methodLink RX0 3 objectInit ∈ ab_T := ab_Tm 255 (by decide +kernel) (by decide +kernel)
theorem ffX0_11 : ac_FF RX0 11 0 0 (.array .int) := ⟨RX0, TX0, 6, tyX0, rfl, inX0, tyX0_ok, nmX0, by decide, ab_Tm 256 (by decide +kernel) (by decide +kernel), rfl, rfl, by decide +kernel⟩
theorem ffX0_15 : ac_FF RX0 15 0 1 (.array .int) := ⟨RX0, TX0, 6, tyX0, rfl, inX0, tyX0_ok, nmX0, by decide, ab_Tm 257 (by decide +kernel) (by decide +kernel), rfl, rfl, by decide +kernel⟩
theorem olX3_3 : Cond.methodLink RX3 3 objectInit ∈ ab_T := ab_Tm 239 (by decide +kernel) (by decide +kernel)
theorem ffX3_9 : ac_FF RX3 9 3 0 (.object "ChangeDoors$Stage") := ⟨RX3, TX3, 3, tyX3, rfl, inX3, tyX3_ok, nmX3, by decide, ab_Tm 240 (by decide +kernel) (by decide +kernel), rfl, rfl, by decide +kernel⟩
theorem ffX3_15 : ac_FF RX3 15 3 1 (.object "ChangeDoors$Chances") := ⟨RX3, TX3, 3, tyX3, rfl, inX3, tyX3_ok, nmX3, by decide, ab_Tm 241 (by decide +kernel) (by decide +kernel), rfl, rfl, by decide +kernel⟩
theorem olX7_3 : Cond.methodLink RX7 3 objectInit ∈ ab_T := ab_Tm 29 (by decide +kernel) (by decide +kernel)
theorem ffX7_9 : ac_FF RX7 9 7 0 (.array .int) := ⟨RX7, TX7, 7, tyX7, rfl, inX7, tyX7_ok, nmX7, by decide, ab_Tm 37 (by decide +kernel) (by decide +kernel), rfl, rfl, by decide +kernel⟩
theorem ffX7_15 : ac_FF RX7 15 7 1 (.array .int) := ⟨RX7, TX7, 7, tyX7, rfl, inX7, tyX7_ok, nmX7, by decide, ab_Tm 40 (by decide +kernel) (by decide +kernel), rfl, rfl, by decide +kernel⟩
theorem ffX7_18 : ac_FF RX7 18 7 2 (.array .int) := ⟨RX7, TX7, 7, tyX7, rfl, inX7, tyX7_ok, nmX7, by decide, ab_Tm 41 (by decide +kernel) (by decide +kernel), rfl, rfl, by decide +kernel⟩
theorem mlX7_28 : Cond.methodLink RX7 28 yX7_lay ∈ ab_T := ab_Tm 30 (by decide +kernel) (by decide +kernel)
theorem olX6_3 : Cond.methodLink RX6 3 objectInit ∈ ab_T := ab_Tm 282 (by decide +kernel) (by decide +kernel)
theorem ffX6_11 : ac_FF RX6 11 6 0 (.array .int) := ⟨RX6, TX6, 3, tyX6, rfl, inX6, tyX6_ok, nmX6, by decide, ab_Tm 285 (by decide +kernel) (by decide +kernel), rfl, rfl, by decide +kernel⟩
theorem ffX6_15 : ac_FF RX6 15 6 1 (.array .int) := ⟨RX6, TX6, 3, tyX6, rfl, inX6, tyX6_ok, nmX6, by decide, ab_Tm 286 (by decide +kernel) (by decide +kernel), rfl, rfl, by decide +kernel⟩
theorem clX6_18 : Cond.classLink RX6 18 "[[J" ∈ ab_T := ab_Tm 283 (by decide +kernel) (by decide +kernel)
theorem ffX6_20 : ac_FF RX6 20 6 2 (.array (.array .long)) := ⟨RX6, TX6, 3, tyX6, rfl, inX6, tyX6_ok, nmX6, by decide, ab_Tm 287 (by decide +kernel) (by decide +kernel), rfl, rfl, by decide +kernel⟩
theorem mlX6_23 : Cond.methodLink RX6 23 yJ7_fill_53178 ∈ ab_T := ab_Tm 284 (by decide +kernel) (by decide +kernel)
theorem olX1_3 : Cond.methodLink RX1 3 objectInit ∈ ab_T := ab_Tm 160 (by decide +kernel) (by decide +kernel)
theorem clX1_9 : Cond.classLink RX1 9 "ChangeDoors$Law" ∈ ab_T := ab_Tm 161 (by decide +kernel) (by decide +kernel)
theorem ffX1_11 : ac_FF RX1 11 1 1 (.array (.object "ChangeDoors$Law")) := ⟨RX1, TX1, 8, tyX1, rfl, inX1, tyX1_ok, nmX1, by decide, ab_Tm 210 (by decide +kernel) (by decide +kernel), rfl, rfl, by decide +kernel⟩
theorem ffX1_17 : ac_FF RX1 17 1 2 (.array .long) := ⟨RX1, TX1, 8, tyX1, rfl, inX1, tyX1_ok, nmX1, by decide, ab_Tm 211 (by decide +kernel) (by decide +kernel), rfl, rfl, by decide +kernel⟩
theorem clX1_21 : Cond.classLink RX1 21 "[[J" ∈ ab_T := ab_Tm 163 (by decide +kernel) (by decide +kernel)
theorem ffX1_23 : ac_FF RX1 23 1 3 (.array (.array .long)) := ⟨RX1, TX1, 8, tyX1, rfl, inX1, tyX1_ok, nmX1, by decide, ab_Tm 212 (by decide +kernel) (by decide +kernel), rfl, rfl, by decide +kernel⟩
theorem ffX1_26 : ac_FF RX1 26 1 4 (.array (.array .long)) := ⟨RX1, TX1, 8, tyX1, rfl, inX1, tyX1_ok, nmX1, by decide, ab_Tm 213 (by decide +kernel) (by decide +kernel), rfl, rfl, by decide +kernel⟩
theorem ffX1_29 : ac_FF RX1 29 1 5 (.array .long) := ⟨RX1, TX1, 8, tyX1, rfl, inX1, tyX1_ok, nmX1, by decide, ab_Tm 214 (by decide +kernel) (by decide +kernel), rfl, rfl, by decide +kernel⟩
theorem ffX1_32 : ac_FF RX1 32 1 6 (.array .int) := ⟨RX1, TX1, 8, tyX1, rfl, inX1, tyX1_ok, nmX1, by decide, ab_Tm 215 (by decide +kernel) (by decide +kernel), rfl, rfl, by decide +kernel⟩
theorem ffX1_36 : ac_FF RX1 36 1 7 (.array .int) := ⟨RX1, TX1, 8, tyX1, rfl, inX1, tyX1_ok, nmX1, by decide, ab_Tm 216 (by decide +kernel) (by decide +kernel), rfl, rfl, by decide +kernel⟩
theorem ffX1_39 : ac_FF RX1 39 1 0 (.object "ChangeDoors$Stage") := ⟨RX1, TX1, 8, tyX1, rfl, inX1, tyX1_ok, nmX1, by decide, ab_Tm 209 (by decide +kernel) (by decide +kernel), rfl, rfl, by decide +kernel⟩
theorem nwX1_9 : ac_NW RX1 9 5 7 [.null, .null, .null, .int 0, .int 0, .int 0, .int 0] := ⟨RX5, TX5, tyX5, rfl, inX5, tyX5_ok, ab_Tm 161 (by decide +kernel) (by decide +kernel), ab_Tm 165 (by decide +kernel) (by decide +kernel), ab_Tm 8 (by decide +kernel) (by decide +kernel), by decide +kernel⟩
theorem nlX1_43 : (RX1, 43, yX5_init, "ChangeDoors") ∈ ab_nl := List.mem_of_getElem? (i := 3) rfl
theorem yiX5_init : Cond.instanceMethod yX5_init ∈ ab_T ∧ Cond.initialized yX5_init.cls ∈ ab_T ∧ Cond.code yX5_init cX5_init 1 none ∈ ab_T ∧ ab_YO yX5_init 0 := ⟨ab_Tm 167 (by decide +kernel) (by decide +kernel), ab_Tm 8 (by decide +kernel) (by decide +kernel), ab_Tm 168 (by decide +kernel) (by decide +kernel), ⟨(by decide +kernel), (by decide +kernel), (by decide +kernel)⟩⟩
theorem mlX1_44 : Cond.methodLink RX1 44 yX1_layLaws ∈ ab_T := ab_Tm 194 (by decide +kernel) (by decide +kernel)
theorem olX9_1 : Cond.methodLink RX9 1 objectInit ∈ ab_T := ab_Tm 21 (by decide +kernel) (by decide +kernel)
theorem nwX9_7 : ac_NW RX9 7 7 7 [.null, .null, .null, .int 0, .int 0, .int 0, .int 0] := ⟨RX7, TX7, tyX7, rfl, inX7, tyX7_ok, ab_Tm 24 (by decide +kernel) (by decide +kernel), ab_Tm 25 (by decide +kernel) (by decide +kernel), ab_Tm 2 (by decide +kernel) (by decide +kernel), by decide +kernel⟩
theorem mlX9_9 : Cond.methodLink RX9 9 yX7_init ∈ ab_T := ab_Tm 26 (by decide +kernel) (by decide +kernel)
theorem yiX7_init : Cond.instanceMethod yX7_init ∈ ab_T ∧ Cond.initialized yX7_init.cls ∈ ab_T ∧ Cond.code yX7_init cX7_init 1 none ∈ ab_T ∧ ab_YO yX7_init 0 := ⟨ab_Tm 27 (by decide +kernel) (by decide +kernel), ab_Tm 2 (by decide +kernel) (by decide +kernel), ab_Tm 28 (by decide +kernel) (by decide +kernel), ⟨(by decide +kernel), (by decide +kernel), (by decide +kernel)⟩⟩
theorem ffX9_10 : ac_FF RX9 10 9 0 (.object "ChangeDoors$Stage") := ⟨RX9, TX9, 10, tyX9, rfl, inX9, tyX9_ok, nmX9, by decide, ab_Tm 295 (by decide +kernel) (by decide +kernel), rfl, rfl, by decide +kernel⟩
theorem nwX9_16 : ac_NW RX9 16 4 6 [.null, .null, .null, .int 0, .int 0, .int 0] := ⟨RX4, TX4, tyX4, rfl, inX4, tyX4_ok, ab_Tm 71 (by decide +kernel) (by decide +kernel), ab_Tm 72 (by decide +kernel) (by decide +kernel), ab_Tm 4 (by decide +kernel) (by decide +kernel), by decide +kernel⟩
theorem nlX9_18 : (RX9, 18, yX4_init, "ChangeDoors") ∈ ab_nl := List.mem_of_getElem? (i := 0) rfl
theorem yiX4_init : Cond.instanceMethod yX4_init ∈ ab_T ∧ Cond.initialized yX4_init.cls ∈ ab_T ∧ Cond.code yX4_init cX4_init 1 none ∈ ab_T ∧ ab_YO yX4_init 0 := ⟨ab_Tm 74 (by decide +kernel) (by decide +kernel), ab_Tm 4 (by decide +kernel) (by decide +kernel), ab_Tm 75 (by decide +kernel) (by decide +kernel), ⟨(by decide +kernel), (by decide +kernel), (by decide +kernel)⟩⟩
theorem ffX9_19 : ac_FF RX9 19 9 1 (.object "ChangeDoors$Evening") := ⟨RX9, TX9, 10, tyX9, rfl, inX9, tyX9_ok, nmX9, by decide, ab_Tm 296 (by decide +kernel) (by decide +kernel), rfl, rfl, by decide +kernel⟩
theorem ffX9_23 : ac_FF RX9 23 9 2 (.object "ChangeDoors$Evening") := ⟨RX9, TX9, 10, tyX9, rfl, inX9, tyX9_ok, nmX9, by decide, ab_Tm 297 (by decide +kernel) (by decide +kernel), rfl, rfl, by decide +kernel⟩
theorem nwX9_30 : ac_NW RX9 30 2 6 [.null, .null, .null, .null, .int 0, .int 0] := ⟨RX2, TX2, tyX2, rfl, inX2, tyX2_ok, ab_Tm 101 (by decide +kernel) (by decide +kernel), ab_Tm 102 (by decide +kernel) (by decide +kernel), ab_Tm 5 (by decide +kernel) (by decide +kernel), by decide +kernel⟩
theorem nlX9_32 : (RX9, 32, yX2_init, "ChangeDoors") ∈ ab_nl := List.mem_of_getElem? (i := 1) rfl
theorem yiX2_init : Cond.instanceMethod yX2_init ∈ ab_T ∧ Cond.initialized yX2_init.cls ∈ ab_T ∧ Cond.code yX2_init cX2_init 1 none ∈ ab_T ∧ ab_YO yX2_init 0 := ⟨ab_Tm 104 (by decide +kernel) (by decide +kernel), ab_Tm 5 (by decide +kernel) (by decide +kernel), ab_Tm 105 (by decide +kernel) (by decide +kernel), ⟨(by decide +kernel), (by decide +kernel), (by decide +kernel)⟩⟩
theorem ffX9_33 : ac_FF RX9 33 9 4 (.object "ChangeDoors$Changes") := ⟨RX9, TX9, 10, tyX9, rfl, inX9, tyX9_ok, nmX9, by decide, ab_Tm 299 (by decide +kernel) (by decide +kernel), rfl, rfl, by decide +kernel⟩
theorem nwX9_37 : ac_NW RX9 37 8 6 [.null, .null, .int 0, .int 0, .int 0, .int 0] := ⟨RX8, TX8, tyX8, rfl, inX8, tyX8_ok, ab_Tm 127 (by decide +kernel) (by decide +kernel), ab_Tm 128 (by decide +kernel) (by decide +kernel), ab_Tm 6 (by decide +kernel) (by decide +kernel), by decide +kernel⟩
theorem nlX9_39 : (RX9, 39, yX8_init, "ChangeDoors") ∈ ab_nl := List.mem_of_getElem? (i := 2) rfl
theorem yiX8_init : Cond.instanceMethod yX8_init ∈ ab_T ∧ Cond.initialized yX8_init.cls ∈ ab_T ∧ Cond.code yX8_init cX8_init 1 none ∈ ab_T ∧ ab_YO yX8_init 0 := ⟨ab_Tm 130 (by decide +kernel) (by decide +kernel), ab_Tm 6 (by decide +kernel) (by decide +kernel), ab_Tm 131 (by decide +kernel) (by decide +kernel), ⟨(by decide +kernel), (by decide +kernel), (by decide +kernel)⟩⟩
theorem ffX9_40 : ac_FF RX9 40 9 5 (.object "ChangeDoors$Tape") := ⟨RX9, TX9, 10, tyX9, rfl, inX9, tyX9_ok, nmX9, by decide, ab_Tm 300 (by decide +kernel) (by decide +kernel), rfl, rfl, by decide +kernel⟩
theorem nwX9_44 : ac_NW RX9 44 1 8 [.null, .null, .null, .null, .null, .null, .null, .null] := ⟨RX1, TX1, tyX1, rfl, inX1, tyX1_ok, ab_Tm 155 (by decide +kernel) (by decide +kernel), ab_Tm 156 (by decide +kernel) (by decide +kernel), ab_Tm 7 (by decide +kernel) (by decide +kernel), by decide +kernel⟩
theorem mlX9_46 : Cond.methodLink RX9 46 yX1_init ∈ ab_T := ab_Tm 157 (by decide +kernel) (by decide +kernel)
theorem yiX1_init : Cond.instanceMethod yX1_init ∈ ab_T ∧ Cond.initialized yX1_init.cls ∈ ab_T ∧ Cond.code yX1_init cX1_init 3 none ∈ ab_T ∧ ab_YO yX1_init 1 := ⟨ab_Tm 158 (by decide +kernel) (by decide +kernel), ab_Tm 7 (by decide +kernel) (by decide +kernel), ab_Tm 159 (by decide +kernel) (by decide +kernel), ⟨(by decide +kernel), (by decide +kernel), (by decide +kernel)⟩⟩
theorem ffX9_49 : ac_FF RX9 49 9 6 (.object "ChangeDoors$Chances") := ⟨RX9, TX9, 10, tyX9, rfl, inX9, tyX9_ok, nmX9, by decide, ab_Tm 301 (by decide +kernel) (by decide +kernel), rfl, rfl, by decide +kernel⟩
theorem nwX9_53 : ac_NW RX9 53 3 3 [.null, .null, .int 0] := ⟨RX3, TX3, tyX3, rfl, inX3, tyX3_ok, ab_Tm 234 (by decide +kernel) (by decide +kernel), ab_Tm 235 (by decide +kernel) (by decide +kernel), ab_Tm 9 (by decide +kernel) (by decide +kernel), by decide +kernel⟩
theorem mlX9_55 : Cond.methodLink RX9 55 yX3_init ∈ ab_T := ab_Tm 236 (by decide +kernel) (by decide +kernel)
theorem yiX3_init : Cond.instanceMethod yX3_init ∈ ab_T ∧ Cond.initialized yX3_init.cls ∈ ab_T ∧ Cond.code yX3_init cX3_init 3 none ∈ ab_T ∧ ab_YO yX3_init 2 := ⟨ab_Tm 237 (by decide +kernel) (by decide +kernel), ab_Tm 9 (by decide +kernel) (by decide +kernel), ab_Tm 238 (by decide +kernel) (by decide +kernel), ⟨(by decide +kernel), (by decide +kernel), (by decide +kernel)⟩⟩
theorem ffX9_58 : ac_FF RX9 58 9 7 (.object "ChangeDoors$Draws") := ⟨RX9, TX9, 10, tyX9, rfl, inX9, tyX9_ok, nmX9, by decide, ab_Tm 302 (by decide +kernel) (by decide +kernel), rfl, rfl, by decide +kernel⟩
theorem nwX9_62 : ac_NW RX9 62 0 6 [.null, .null, .int 0, .int 0, .int 0, .int 0] := ⟨RX0, TX0, tyX0, rfl, inX0, tyX0_ok, ab_Tm 250 (by decide +kernel) (by decide +kernel), ab_Tm 251 (by decide +kernel) (by decide +kernel), ab_Tm 10 (by decide +kernel) (by decide +kernel), by decide +kernel⟩
theorem nlX9_64 : (RX9, 64, yX0_init, "ChangeDoors") ∈ ab_nl := List.mem_of_getElem? (i := 4) rfl
theorem yiX0_init : Cond.instanceMethod yX0_init ∈ ab_T ∧ Cond.initialized yX0_init.cls ∈ ab_T ∧ Cond.code yX0_init cX0_init 1 none ∈ ab_T ∧ ab_YO yX0_init 0 := ⟨ab_Tm 253 (by decide +kernel) (by decide +kernel), ab_Tm 10 (by decide +kernel) (by decide +kernel), ab_Tm 254 (by decide +kernel) (by decide +kernel), ⟨(by decide +kernel), (by decide +kernel), (by decide +kernel)⟩⟩
theorem ffX9_65 : ac_FF RX9 65 9 8 (.object "ChangeDoors$Bodies") := ⟨RX9, TX9, 10, tyX9, rfl, inX9, tyX9_ok, nmX9, by decide, ab_Tm 303 (by decide +kernel) (by decide +kernel), rfl, rfl, by decide +kernel⟩
theorem nwX9_69 : ac_NW RX9 69 6 3 [.null, .null, .null] := ⟨RX6, TX6, tyX6, rfl, inX6, tyX6_ok, ab_Tm 277 (by decide +kernel) (by decide +kernel), ab_Tm 278 (by decide +kernel) (by decide +kernel), ab_Tm 11 (by decide +kernel) (by decide +kernel), by decide +kernel⟩
theorem mlX9_71 : Cond.methodLink RX9 71 yX6_init ∈ ab_T := ab_Tm 279 (by decide +kernel) (by decide +kernel)
theorem yiX6_init : Cond.instanceMethod yX6_init ∈ ab_T ∧ Cond.initialized yX6_init.cls ∈ ab_T ∧ Cond.code yX6_init cX6_init 1 none ∈ ab_T ∧ ab_YO yX6_init 0 := ⟨ab_Tm 280 (by decide +kernel) (by decide +kernel), ab_Tm 11 (by decide +kernel) (by decide +kernel), ab_Tm 281 (by decide +kernel) (by decide +kernel), ⟨(by decide +kernel), (by decide +kernel), (by decide +kernel)⟩⟩
theorem ffX9_72 : ac_FF RX9 72 9 9 (.object "ChangeDoors$Shelves") := ⟨RX9, TX9, 10, tyX9, rfl, inX9, tyX9_ok, nmX9, by decide, ab_Tm 304 (by decide +kernel) (by decide +kernel), rfl, rfl, by decide +kernel⟩
theorem olX10_5 : Cond.methodLink RX10 5 objectInit ∈ ab_T := ab_Tm 1023 (by decide +kernel) (by decide +kernel)
theorem ffX10_11 : ac_FF RX10 11 10 0 (.array .int) := ⟨RX10, TX10, 45, tyX10, rfl, inX10, tyX10_ok, nmX10, by decide, ab_Tm 1028 (by decide +kernel) (by decide +kernel), rfl, rfl, by decide +kernel⟩
theorem ffX10_15 : ac_FF RX10 15 10 1 (.array .int) := ⟨RX10, TX10, 45, tyX10, rfl, inX10, tyX10_ok, nmX10, by decide, ab_Tm 1029 (by decide +kernel) (by decide +kernel), rfl, rfl, by decide +kernel⟩
theorem ffX10_18 : ac_FF RX10 18 10 2 (.array .int) := ⟨RX10, TX10, 45, tyX10, rfl, inX10, tyX10_ok, nmX10, by decide, ab_Tm 1030 (by decide +kernel) (by decide +kernel), rfl, rfl, by decide +kernel⟩
theorem ffX10_21 : ac_FF RX10 21 10 3 (.array .int) := ⟨RX10, TX10, 45, tyX10, rfl, inX10, tyX10_ok, nmX10, by decide, ab_Tm 1031 (by decide +kernel) (by decide +kernel), rfl, rfl, by decide +kernel⟩
theorem ffX10_24 : ac_FF RX10 24 10 10 (.array .int) := ⟨RX10, TX10, 45, tyX10, rfl, inX10, tyX10_ok, nmX10, by decide, ab_Tm 1038 (by decide +kernel) (by decide +kernel), rfl, rfl, by decide +kernel⟩
theorem ffX10_27 : ac_FF RX10 27 10 11 (.array .int) := ⟨RX10, TX10, 45, tyX10, rfl, inX10, tyX10_ok, nmX10, by decide, ab_Tm 1039 (by decide +kernel) (by decide +kernel), rfl, rfl, by decide +kernel⟩
theorem ffX10_30 : ac_FF RX10 30 10 12 (.array .int) := ⟨RX10, TX10, 45, tyX10, rfl, inX10, tyX10_ok, nmX10, by decide, ab_Tm 1040 (by decide +kernel) (by decide +kernel), rfl, rfl, by decide +kernel⟩
theorem ffX10_33 : ac_FF RX10 33 10 13 (.array .int) := ⟨RX10, TX10, 45, tyX10, rfl, inX10, tyX10_ok, nmX10, by decide, ab_Tm 1041 (by decide +kernel) (by decide +kernel), rfl, rfl, by decide +kernel⟩
theorem ffX10_36 : ac_FF RX10 36 10 15 (.array .int) := ⟨RX10, TX10, 45, tyX10, rfl, inX10, tyX10_ok, nmX10, by decide, ab_Tm 1043 (by decide +kernel) (by decide +kernel), rfl, rfl, by decide +kernel⟩
theorem ffX10_39 : ac_FF RX10 39 10 16 (.array .int) := ⟨RX10, TX10, 45, tyX10, rfl, inX10, tyX10_ok, nmX10, by decide, ab_Tm 1044 (by decide +kernel) (by decide +kernel), rfl, rfl, by decide +kernel⟩
theorem ffX10_42 : ac_FF RX10 42 10 22 (.array .int) := ⟨RX10, TX10, 45, tyX10, rfl, inX10, tyX10_ok, nmX10, by decide, ab_Tm 1050 (by decide +kernel) (by decide +kernel), rfl, rfl, by decide +kernel⟩
theorem ffX10_45 : ac_FF RX10 45 10 23 (.array .long) := ⟨RX10, TX10, 45, tyX10, rfl, inX10, tyX10_ok, nmX10, by decide, ab_Tm 1051 (by decide +kernel) (by decide +kernel), rfl, rfl, by decide +kernel⟩
theorem ffX10_49 : ac_FF RX10 49 10 24 (.array .long) := ⟨RX10, TX10, 45, tyX10, rfl, inX10, tyX10_ok, nmX10, by decide, ab_Tm 1052 (by decide +kernel) (by decide +kernel), rfl, rfl, by decide +kernel⟩
theorem ffX10_52 : ac_FF RX10 52 10 27 (.array .int) := ⟨RX10, TX10, 45, tyX10, rfl, inX10, tyX10_ok, nmX10, by decide, ab_Tm 1055 (by decide +kernel) (by decide +kernel), rfl, rfl, by decide +kernel⟩
theorem ffX10_55 : ac_FF RX10 55 10 32 (.array .int) := ⟨RX10, TX10, 45, tyX10, rfl, inX10, tyX10_ok, nmX10, by decide, ab_Tm 1060 (by decide +kernel) (by decide +kernel), rfl, rfl, by decide +kernel⟩
theorem ffX10_58 : ac_FF RX10 58 10 33 (.array .int) := ⟨RX10, TX10, 45, tyX10, rfl, inX10, tyX10_ok, nmX10, by decide, ab_Tm 1061 (by decide +kernel) (by decide +kernel), rfl, rfl, by decide +kernel⟩
theorem ffX10_61 : ac_FF RX10 61 10 34 (.array .int) := ⟨RX10, TX10, 45, tyX10, rfl, inX10, tyX10_ok, nmX10, by decide, ab_Tm 1062 (by decide +kernel) (by decide +kernel), rfl, rfl, by decide +kernel⟩
theorem ffX10_64 : ac_FF RX10 64 10 36 (.array .int) := ⟨RX10, TX10, 45, tyX10, rfl, inX10, tyX10_ok, nmX10, by decide, ab_Tm 1064 (by decide +kernel) (by decide +kernel), rfl, rfl, by decide +kernel⟩
theorem ffX10_67 : ac_FF RX10 67 10 37 (.array .int) := ⟨RX10, TX10, 45, tyX10, rfl, inX10, tyX10_ok, nmX10, by decide, ab_Tm 1065 (by decide +kernel) (by decide +kernel), rfl, rfl, by decide +kernel⟩
theorem ffX10_70 : ac_FF RX10 70 10 41 (.array .int) := ⟨RX10, TX10, 45, tyX10, rfl, inX10, tyX10_ok, nmX10, by decide, ab_Tm 1069 (by decide +kernel) (by decide +kernel), rfl, rfl, by decide +kernel⟩
theorem ffX10_73 : ac_FF RX10 73 10 42 (.array .int) := ⟨RX10, TX10, 45, tyX10, rfl, inX10, tyX10_ok, nmX10, by decide, ab_Tm 1070 (by decide +kernel) (by decide +kernel), rfl, rfl, by decide +kernel⟩
theorem ffX10_76 : ac_FF RX10 76 10 43 (.array .long) := ⟨RX10, TX10, 45, tyX10, rfl, inX10, tyX10_ok, nmX10, by decide, ab_Tm 1071 (by decide +kernel) (by decide +kernel), rfl, rfl, by decide +kernel⟩
theorem ffX10_79 : ac_FF RX10 79 10 44 (.array .long) := ⟨RX10, TX10, 45, tyX10, rfl, inX10, tyX10_ok, nmX10, by decide, ab_Tm 1072 (by decide +kernel) (by decide +kernel), rfl, rfl, by decide +kernel⟩
section AC
variable {p : Program} {l : Launch} {e : Env} {R : Room} {s : State} {m : MethodId} {args : Array Value} {below : List Frame} {meth : Method} {c : Code} {D : va_G} {cA : Nat → ClassId} {A : Nat → Prop} {Q : State → Prop} {cc : ByteArray} {nL : Nat} {own : String} {pc nxt : Nat} {lv : List (Nat × Value)} {st : List Value} {cells slots : Nat} {ws : va_W}
theorem ac_ws {ws' : va_W} (h : ws = ws') (kk : ac_G p l e R s m args below meth c D A Q nL pc lv st cells slots ws') : ac_G p l e R s m args below meth c D A Q nL pc lv st cells slots ws := h ▸ kk
theorem ac_congQ {a n : Nat} {cB : ClassId} {f g : Nat → Option Nat} {ws' : va_W} (q : Nat) (hq : ws[q]? = some (a, .inl (cB, n, .inr (.inr (.inr (.inr f)))))) (hfg : ∀ i, i < n → f i = g i) (hw : ws.set q (a, .inl (cB, n, .inr (.inr (.inr (.inr g))))) = ws') (kk : ac_G p l e R s m args below meth c D A Q nL pc lv st cells slots ws') : ac_G p l e R s m args below meth c D A Q nL pc lv st cells slots ws := by
  subst hw
  intro H locs ls hP hD hS hL
  refine kk H locs ls (hP.set hD hq ?_ (fun _ _ => rfl)) (hD.set hq) hS hL
  have h1 := hP q _ hq
  show H[a]? = some (vp_cell cB _)
  rw [show H[a]? = some (vp_cell cB (n, .inr (.inr (.inr (.inr f))))) from h1, vp_cell_q, vp_cell_q]
  congr 1
  exact ac_arrV_congr (fun i hi => by rw [hfg i hi])
end AC
