/-! ===== the class is made ===== -/
theorem dX2_init_0 : decode mX2_init.cd 0 = .ok (.aload_n 0, 1) := by decide +kernel
theorem dX2_init_1 : decode mX2_init.cd 1 = .ok (.invokespecial 3, 3) := by decide +kernel
theorem dX2_init_4 : decode mX2_init.cd 4 = .ok (.aload_n 0, 1) := by decide +kernel
theorem dX2_init_5 : decode mX2_init.cd 5 = .ok (.bipush 8, 2) := by decide +kernel
theorem dX2_init_7 : decode mX2_init.cd 7 = .ok (.newarray .int, 2) := by decide +kernel
theorem dX2_init_9 : decode mX2_init.cd 9 = .ok (.putfield 9, 3) := by decide +kernel
theorem dX2_init_12 : decode mX2_init.cd 12 = .ok (.aload_n 0, 1) := by decide +kernel
theorem dX2_init_13 : decode mX2_init.cd 13 = .ok (.bipush 8, 2) := by decide +kernel
theorem dX2_init_15 : decode mX2_init.cd 15 = .ok (.newarray .int, 2) := by decide +kernel
theorem dX2_init_17 : decode mX2_init.cd 17 = .ok (.putfield 15, 3) := by decide +kernel
theorem dX2_init_20 : decode mX2_init.cd 20 = .ok (.aload_n 0, 1) := by decide +kernel
theorem dX2_init_21 : decode mX2_init.cd 21 = .ok (.bipush 8, 2) := by decide +kernel
theorem dX2_init_23 : decode mX2_init.cd 23 = .ok (.newarray .int, 2) := by decide +kernel
theorem dX2_init_25 : decode mX2_init.cd 25 = .ok (.putfield 18, 3) := by decide +kernel
theorem dX2_init_28 : decode mX2_init.cd 28 = .ok (.aload_n 0, 1) := by decide +kernel
theorem dX2_init_29 : decode mX2_init.cd 29 = .ok (.bipush 18, 2) := by decide +kernel
theorem dX2_init_31 : decode mX2_init.cd 31 = .ok (.newarray .int, 2) := by decide +kernel
theorem dX2_init_33 : decode mX2_init.cd 33 = .ok (.putfield 21, 3) := by decide +kernel
theorem dX2_init_36 : decode mX2_init.cd 36 = .ok (.aload_n 0, 1) := by decide +kernel
theorem dX2_init_37 : decode mX2_init.cd 37 = .ok (.bipush 6, 2) := by decide +kernel
theorem dX2_init_39 : decode mX2_init.cd 39 = .ok (.newarray .int, 2) := by decide +kernel
theorem dX2_init_41 : decode mX2_init.cd 41 = .ok (.putfield 24, 3) := by decide +kernel
theorem dX2_init_44 : decode mX2_init.cd 44 = .ok (.aload_n 0, 1) := by decide +kernel
theorem dX2_init_45 : decode mX2_init.cd 45 = .ok (.bipush 6, 2) := by decide +kernel
theorem dX2_init_47 : decode mX2_init.cd 47 = .ok (.newarray .int, 2) := by decide +kernel
theorem dX2_init_49 : decode mX2_init.cd 49 = .ok (.putfield 27, 3) := by decide +kernel
theorem dX2_init_52 : decode mX2_init.cd 52 = .ok (.aload_n 0, 1) := by decide +kernel
theorem dX2_init_53 : decode mX2_init.cd 53 = .ok (.bipush 6, 2) := by decide +kernel
theorem dX2_init_55 : decode mX2_init.cd 55 = .ok (.newarray .int, 2) := by decide +kernel
theorem dX2_init_57 : decode mX2_init.cd 57 = .ok (.putfield 30, 3) := by decide +kernel
theorem dX2_init_60 : decode mX2_init.cd 60 = .ok (.aload_n 0, 1) := by decide +kernel
theorem dX2_init_61 : decode mX2_init.cd 61 = .ok (.iconst 3, 1) := by decide +kernel
theorem dX2_init_62 : decode mX2_init.cd 62 = .ok (.newarray .int, 2) := by decide +kernel
theorem dX2_init_64 : decode mX2_init.cd 64 = .ok (.putfield 33, 3) := by decide +kernel
theorem dX2_init_67 : decode mX2_init.cd 67 = .ok (.aload_n 0, 1) := by decide +kernel
theorem dX2_init_68 : decode mX2_init.cd 68 = .ok (.bipush 24, 2) := by decide +kernel
theorem dX2_init_70 : decode mX2_init.cd 70 = .ok (.newarray .int, 2) := by decide +kernel
theorem dX2_init_72 : decode mX2_init.cd 72 = .ok (.putfield 36, 3) := by decide +kernel
theorem dX2_init_75 : decode mX2_init.cd 75 = .ok (.aload_n 0, 1) := by decide +kernel
theorem dX2_init_76 : decode mX2_init.cd 76 = .ok (.bipush 8, 2) := by decide +kernel
theorem dX2_init_78 : decode mX2_init.cd 78 = .ok (.newarray .int, 2) := by decide +kernel
theorem dX2_init_80 : decode mX2_init.cd 80 = .ok (.putfield 39, 3) := by decide +kernel
theorem dX2_init_83 : decode mX2_init.cd 83 = .ok (.aload_n 0, 1) := by decide +kernel
theorem dX2_init_84 : decode mX2_init.cd 84 = .ok (.bipush 8, 2) := by decide +kernel
theorem dX2_init_86 : decode mX2_init.cd 86 = .ok (.newarray .int, 2) := by decide +kernel
theorem dX2_init_88 : decode mX2_init.cd 88 = .ok (.putfield 42, 3) := by decide +kernel
theorem dX2_init_91 : decode mX2_init.cd 91 = .ok (.aload_n 0, 1) := by decide +kernel
theorem dX2_init_92 : decode mX2_init.cd 92 = .ok (.bipush 32, 2) := by decide +kernel
theorem dX2_init_94 : decode mX2_init.cd 94 = .ok (.newarray .int, 2) := by decide +kernel
theorem dX2_init_96 : decode mX2_init.cd 96 = .ok (.putfield 45, 3) := by decide +kernel
theorem dX2_init_99 : decode mX2_init.cd 99 = .ok (.aload_n 0, 1) := by decide +kernel
theorem dX2_init_100 : decode mX2_init.cd 100 = .ok (.bipush 6, 2) := by decide +kernel
theorem dX2_init_102 : decode mX2_init.cd 102 = .ok (.newarray .int, 2) := by decide +kernel
theorem dX2_init_104 : decode mX2_init.cd 104 = .ok (.putfield 48, 3) := by decide +kernel
theorem dX2_init_107 : decode mX2_init.cd 107 = .ok (.aload_n 0, 1) := by decide +kernel
theorem dX2_init_108 : decode mX2_init.cd 108 = .ok (.bipush 18, 2) := by decide +kernel
theorem dX2_init_110 : decode mX2_init.cd 110 = .ok (.newarray .int, 2) := by decide +kernel
theorem dX2_init_112 : decode mX2_init.cd 112 = .ok (.putfield 51, 3) := by decide +kernel
theorem dX2_init_115 : decode mX2_init.cd 115 = .ok (.aload_n 0, 1) := by decide +kernel
theorem dX2_init_116 : decode mX2_init.cd 116 = .ok (.invokevirtual 54, 3) := by decide +kernel
theorem dX2_init_119 : decode mX2_init.cd 119 = .ok (.return_, 1) := by decide +kernel
theorem dX8_init_0 : decode mX8_init.cd 0 = .ok (.aload_n 0, 1) := by decide +kernel
theorem dX8_init_1 : decode mX8_init.cd 1 = .ok (.invokespecial 3, 3) := by decide +kernel
theorem dX8_init_4 : decode mX8_init.cd 4 = .ok (.aload_n 0, 1) := by decide +kernel
theorem dX8_init_5 : decode mX8_init.cd 5 = .ok (.sipush 200, 3) := by decide +kernel
theorem dX8_init_8 : decode mX8_init.cd 8 = .ok (.newarray .int, 2) := by decide +kernel
theorem dX8_init_10 : decode mX8_init.cd 10 = .ok (.putfield 9, 3) := by decide +kernel
theorem dX8_init_13 : decode mX8_init.cd 13 = .ok (.aload_n 0, 1) := by decide +kernel
theorem dX8_init_14 : decode mX8_init.cd 14 = .ok (.bipush 60, 2) := by decide +kernel
theorem dX8_init_16 : decode mX8_init.cd 16 = .ok (.newarray .int, 2) := by decide +kernel
theorem dX8_init_18 : decode mX8_init.cd 18 = .ok (.putfield 15, 3) := by decide +kernel
theorem dX8_init_21 : decode mX8_init.cd 21 = .ok (.aload_n 0, 1) := by decide +kernel
theorem dX8_init_22 : decode mX8_init.cd 22 = .ok (.bipush 16, 2) := by decide +kernel
theorem dX8_init_24 : decode mX8_init.cd 24 = .ok (.newarray .int, 2) := by decide +kernel
theorem dX8_init_26 : decode mX8_init.cd 26 = .ok (.putfield 18, 3) := by decide +kernel
theorem dX8_init_29 : decode mX8_init.cd 29 = .ok (.aload_n 0, 1) := by decide +kernel
theorem dX8_init_30 : decode mX8_init.cd 30 = .ok (.iconst 3, 1) := by decide +kernel
theorem dX8_init_31 : decode mX8_init.cd 31 = .ok (.newarray .int, 2) := by decide +kernel
theorem dX8_init_33 : decode mX8_init.cd 33 = .ok (.putfield 21, 3) := by decide +kernel
theorem dX8_init_36 : decode mX8_init.cd 36 = .ok (.aload_n 0, 1) := by decide +kernel
theorem dX8_init_37 : decode mX8_init.cd 37 = .ok (.iconst 3, 1) := by decide +kernel
theorem dX8_init_38 : decode mX8_init.cd 38 = .ok (.newarray .int, 2) := by decide +kernel
theorem dX8_init_40 : decode mX8_init.cd 40 = .ok (.putfield 24, 3) := by decide +kernel
theorem dX8_init_43 : decode mX8_init.cd 43 = .ok (.aload_n 0, 1) := by decide +kernel
theorem dX8_init_44 : decode mX8_init.cd 44 = .ok (.invokevirtual 27, 3) := by decide +kernel
theorem dX8_init_47 : decode mX8_init.cd 47 = .ok (.return_, 1) := by decide +kernel
theorem dX6_init_0 : decode mX6_init.cd 0 = .ok (.aload_n 0, 1) := by decide +kernel
theorem dX6_init_1 : decode mX6_init.cd 1 = .ok (.invokespecial 3, 3) := by decide +kernel
theorem dX6_init_4 : decode mX6_init.cd 4 = .ok (.return_, 1) := by decide +kernel
theorem dX7_init_0 : decode mX7_init.cd 0 = .ok (.aload_n 0, 1) := by decide +kernel
theorem dX7_init_1 : decode mX7_init.cd 1 = .ok (.invokespecial 3, 3) := by decide +kernel
theorem dX7_init_4 : decode mX7_init.cd 4 = .ok (.aload_n 0, 1) := by decide +kernel
theorem dX7_init_5 : decode mX7_init.cd 5 = .ok (.bipush 19, 2) := by decide +kernel
theorem dX7_init_7 : decode mX7_init.cd 7 = .ok (.newarray .int, 2) := by decide +kernel
theorem dX7_init_9 : decode mX7_init.cd 9 = .ok (.putfield 11, 3) := by decide +kernel
theorem dX7_init_12 : decode mX7_init.cd 12 = .ok (.aload_n 0, 1) := by decide +kernel
theorem dX7_init_13 : decode mX7_init.cd 13 = .ok (.sipush 152, 3) := by decide +kernel
theorem dX7_init_16 : decode mX7_init.cd 16 = .ok (.newarray .int, 2) := by decide +kernel
theorem dX7_init_18 : decode mX7_init.cd 18 = .ok (.putfield 15, 3) := by decide +kernel
theorem dX7_init_21 : decode mX7_init.cd 21 = .ok (.aload_n 0, 1) := by decide +kernel
theorem dX7_init_22 : decode mX7_init.cd 22 = .ok (.bipush 8, 2) := by decide +kernel
theorem dX7_init_24 : decode mX7_init.cd 24 = .ok (.newarray .int, 2) := by decide +kernel
theorem dX7_init_26 : decode mX7_init.cd 26 = .ok (.putfield 18, 3) := by decide +kernel
theorem dX7_init_29 : decode mX7_init.cd 29 = .ok (.return_, 1) := by decide +kernel
theorem dX4_init_0 : decode mX4_init.cd 0 = .ok (.aload_n 0, 1) := by decide +kernel
theorem dX4_init_1 : decode mX4_init.cd 1 = .ok (.invokespecial 3, 3) := by decide +kernel
theorem dX4_init_4 : decode mX4_init.cd 4 = .ok (.aload_n 0, 1) := by decide +kernel
theorem dX4_init_5 : decode mX4_init.cd 5 = .ok (.sipush 400, 3) := by decide +kernel
theorem dX4_init_8 : decode mX4_init.cd 8 = .ok (.newarray .int, 2) := by decide +kernel
theorem dX4_init_10 : decode mX4_init.cd 10 = .ok (.putfield 9, 3) := by decide +kernel
theorem dX4_init_13 : decode mX4_init.cd 13 = .ok (.aload_n 0, 1) := by decide +kernel
theorem dX4_init_14 : decode mX4_init.cd 14 = .ok (.sipush 400, 3) := by decide +kernel
theorem dX4_init_17 : decode mX4_init.cd 17 = .ok (.newarray .int, 2) := by decide +kernel
theorem dX4_init_19 : decode mX4_init.cd 19 = .ok (.putfield 15, 3) := by decide +kernel
theorem dX4_init_22 : decode mX4_init.cd 22 = .ok (.aload_n 0, 1) := by decide +kernel
theorem dX4_init_23 : decode mX4_init.cd 23 = .ok (.bipush 8, 2) := by decide +kernel
theorem dX4_init_25 : decode mX4_init.cd 25 = .ok (.newarray .int, 2) := by decide +kernel
theorem dX4_init_27 : decode mX4_init.cd 27 = .ok (.putfield 18, 3) := by decide +kernel
theorem dX4_init_30 : decode mX4_init.cd 30 = .ok (.return_, 1) := by decide +kernel
theorem dX10_init_0 : decode mX10_init.cd 0 = .ok (.aload_n 0, 1) := by decide +kernel
theorem dX10_init_1 : decode mX10_init.cd 1 = .ok (.invokespecial 5, 3) := by decide +kernel
theorem dX10_init_4 : decode mX10_init.cd 4 = .ok (.aload_n 0, 1) := by decide +kernel
theorem dX10_init_5 : decode mX10_init.cd 5 = .ok (.new 11, 3) := by decide +kernel
theorem dX10_init_8 : decode mX10_init.cd 8 = .ok (.dup, 1) := by decide +kernel
theorem dX10_init_9 : decode mX10_init.cd 9 = .ok (.invokespecial 13, 3) := by decide +kernel
theorem dX10_init_12 : decode mX10_init.cd 12 = .ok (.putfield 14, 3) := by decide +kernel
theorem dX10_init_15 : decode mX10_init.cd 15 = .ok (.aload_n 0, 1) := by decide +kernel
theorem dX10_init_16 : decode mX10_init.cd 16 = .ok (.iconst 4, 1) := by decide +kernel
theorem dX10_init_17 : decode mX10_init.cd 17 = .ok (.newarray .int, 2) := by decide +kernel
theorem dX10_init_19 : decode mX10_init.cd 19 = .ok (.putfield 18, 3) := by decide +kernel
theorem dX10_init_22 : decode mX10_init.cd 22 = .ok (.aload_n 0, 1) := by decide +kernel
theorem dX10_init_23 : decode mX10_init.cd 23 = .ok (.bipush 32, 2) := by decide +kernel
theorem dX10_init_25 : decode mX10_init.cd 25 = .ok (.newarray .int, 2) := by decide +kernel
theorem dX10_init_27 : decode mX10_init.cd 27 = .ok (.putfield 22, 3) := by decide +kernel
theorem dX10_init_30 : decode mX10_init.cd 30 = .ok (.aload_n 0, 1) := by decide +kernel
theorem dX10_init_31 : decode mX10_init.cd 31 = .ok (.bipush 6, 2) := by decide +kernel
theorem dX10_init_33 : decode mX10_init.cd 33 = .ok (.newarray .int, 2) := by decide +kernel
theorem dX10_init_35 : decode mX10_init.cd 35 = .ok (.putfield 25, 3) := by decide +kernel
theorem dX10_init_38 : decode mX10_init.cd 38 = .ok (.aload_n 0, 1) := by decide +kernel
theorem dX10_init_39 : decode mX10_init.cd 39 = .ok (.sipush 144, 3) := by decide +kernel
theorem dX10_init_42 : decode mX10_init.cd 42 = .ok (.newarray .int, 2) := by decide +kernel
theorem dX10_init_44 : decode mX10_init.cd 44 = .ok (.putfield 28, 3) := by decide +kernel
theorem dX10_init_47 : decode mX10_init.cd 47 = .ok (.aload_n 0, 1) := by decide +kernel
theorem dX10_init_48 : decode mX10_init.cd 48 = .ok (.sipush 2304, 3) := by decide +kernel
theorem dX10_init_51 : decode mX10_init.cd 51 = .ok (.newarray .int, 2) := by decide +kernel
theorem dX10_init_53 : decode mX10_init.cd 53 = .ok (.putfield 31, 3) := by decide +kernel
theorem dX10_init_56 : decode mX10_init.cd 56 = .ok (.aload_n 0, 1) := by decide +kernel
theorem dX10_init_57 : decode mX10_init.cd 57 = .ok (.iconst 3, 1) := by decide +kernel
theorem dX10_init_58 : decode mX10_init.cd 58 = .ok (.newarray .int, 2) := by decide +kernel
theorem dX10_init_60 : decode mX10_init.cd 60 = .ok (.putfield 34, 3) := by decide +kernel
theorem dX10_init_63 : decode mX10_init.cd 63 = .ok (.aload_n 0, 1) := by decide +kernel
theorem dX10_init_64 : decode mX10_init.cd 64 = .ok (.bipush 12, 2) := by decide +kernel
theorem dX10_init_66 : decode mX10_init.cd 66 = .ok (.newarray .int, 2) := by decide +kernel
theorem dX10_init_68 : decode mX10_init.cd 68 = .ok (.putfield 37, 3) := by decide +kernel
theorem dX10_init_71 : decode mX10_init.cd 71 = .ok (.aload_n 0, 1) := by decide +kernel
theorem dX10_init_72 : decode mX10_init.cd 72 = .ok (.bipush 12, 2) := by decide +kernel
theorem dX10_init_74 : decode mX10_init.cd 74 = .ok (.newarray .int, 2) := by decide +kernel
theorem dX10_init_76 : decode mX10_init.cd 76 = .ok (.putfield 40, 3) := by decide +kernel
theorem dX10_init_79 : decode mX10_init.cd 79 = .ok (.aload_n 0, 1) := by decide +kernel
theorem dX10_init_80 : decode mX10_init.cd 80 = .ok (.bipush 8, 2) := by decide +kernel
theorem dX10_init_82 : decode mX10_init.cd 82 = .ok (.newarray .int, 2) := by decide +kernel
theorem dX10_init_84 : decode mX10_init.cd 84 = .ok (.putfield 43, 3) := by decide +kernel
theorem dX10_init_87 : decode mX10_init.cd 87 = .ok (.aload_n 0, 1) := by decide +kernel
theorem dX10_init_88 : decode mX10_init.cd 88 = .ok (.getfield 28, 3) := by decide +kernel
theorem dX10_init_91 : decode mX10_init.cd 91 = .ok (.bipush (-2), 2) := by decide +kernel
theorem dX10_init_93 : decode mX10_init.cd 93 = .ok (.invokestatic 46, 3) := by decide +kernel
theorem dX10_init_96 : decode mX10_init.cd 96 = .ok (.return_, 1) := by decide +kernel
theorem dX0_init_0 : decode mX0_init.cd 0 = .ok (.aload_n 0, 1) := by decide +kernel
theorem dX0_init_1 : decode mX0_init.cd 1 = .ok (.invokespecial 3, 3) := by decide +kernel
theorem dX0_init_4 : decode mX0_init.cd 4 = .ok (.aload_n 0, 1) := by decide +kernel
theorem dX0_init_5 : decode mX0_init.cd 5 = .ok (.bipush 8, 2) := by decide +kernel
theorem dX0_init_7 : decode mX0_init.cd 7 = .ok (.newarray .int, 2) := by decide +kernel
theorem dX0_init_9 : decode mX0_init.cd 9 = .ok (.putfield 9, 3) := by decide +kernel
theorem dX0_init_12 : decode mX0_init.cd 12 = .ok (.return_, 1) := by decide +kernel
theorem dX3_init_0 : decode mX3_init.cd 0 = .ok (.aload_n 0, 1) := by decide +kernel
theorem dX3_init_1 : decode mX3_init.cd 1 = .ok (.invokespecial 3, 3) := by decide +kernel
theorem dX3_init_4 : decode mX3_init.cd 4 = .ok (.aload_n 0, 1) := by decide +kernel
theorem dX3_init_5 : decode mX3_init.cd 5 = .ok (.bipush 6, 2) := by decide +kernel
theorem dX3_init_7 : decode mX3_init.cd 7 = .ok (.newarray .int, 2) := by decide +kernel
theorem dX3_init_9 : decode mX3_init.cd 9 = .ok (.putfield 9, 3) := by decide +kernel
theorem dX3_init_12 : decode mX3_init.cd 12 = .ok (.aload_n 0, 1) := by decide +kernel
theorem dX3_init_13 : decode mX3_init.cd 13 = .ok (.new 15, 3) := by decide +kernel
theorem dX3_init_16 : decode mX3_init.cd 16 = .ok (.dup, 1) := by decide +kernel
theorem dX3_init_17 : decode mX3_init.cd 17 = .ok (.invokespecial 17, 3) := by decide +kernel
theorem dX3_init_20 : decode mX3_init.cd 20 = .ok (.putfield 18, 3) := by decide +kernel
theorem dX3_init_23 : decode mX3_init.cd 23 = .ok (.return_, 1) := by decide +kernel
theorem dX9_init_0 : decode mX9_init.cd 0 = .ok (.aload_n 0, 1) := by decide +kernel
theorem dX9_init_1 : decode mX9_init.cd 1 = .ok (.invokespecial 3, 3) := by decide +kernel
theorem dX9_init_4 : decode mX9_init.cd 4 = .ok (.aload_n 0, 1) := by decide +kernel
theorem dX9_init_5 : decode mX9_init.cd 5 = .ok (.iconst 3, 1) := by decide +kernel
theorem dX9_init_6 : decode mX9_init.cd 6 = .ok (.newarray .int, 2) := by decide +kernel
theorem dX9_init_8 : decode mX9_init.cd 8 = .ok (.putfield 9, 3) := by decide +kernel
theorem dX9_init_11 : decode mX9_init.cd 11 = .ok (.aload_n 0, 1) := by decide +kernel
theorem dX9_init_12 : decode mX9_init.cd 12 = .ok (.bipush 60, 2) := by decide +kernel
theorem dX9_init_14 : decode mX9_init.cd 14 = .ok (.newarray .int, 2) := by decide +kernel
theorem dX9_init_16 : decode mX9_init.cd 16 = .ok (.putfield 15, 3) := by decide +kernel
theorem dX9_init_19 : decode mX9_init.cd 19 = .ok (.aload_n 0, 1) := by decide +kernel
theorem dX9_init_20 : decode mX9_init.cd 20 = .ok (.bipush 14, 2) := by decide +kernel
theorem dX9_init_22 : decode mX9_init.cd 22 = .ok (.newarray .int, 2) := by decide +kernel
theorem dX9_init_24 : decode mX9_init.cd 24 = .ok (.putfield 18, 3) := by decide +kernel
theorem dX9_init_27 : decode mX9_init.cd 27 = .ok (.return_, 1) := by decide +kernel
theorem dX5_init_0 : decode mX5_init.cd 0 = .ok (.aload_n 0, 1) := by decide +kernel
theorem dX5_init_1 : decode mX5_init.cd 1 = .ok (.invokespecial 3, 3) := by decide +kernel
theorem dX5_init_4 : decode mX5_init.cd 4 = .ok (.aload_n 0, 1) := by decide +kernel
theorem dX5_init_5 : decode mX5_init.cd 5 = .ok (.sipush 961, 3) := by decide +kernel
theorem dX5_init_8 : decode mX5_init.cd 8 = .ok (.newarray .int, 2) := by decide +kernel
theorem dX5_init_10 : decode mX5_init.cd 10 = .ok (.putfield 9, 3) := by decide +kernel
theorem dX5_init_13 : decode mX5_init.cd 13 = .ok (.aload_n 0, 1) := by decide +kernel
theorem dX5_init_14 : decode mX5_init.cd 14 = .ok (.sipush 992, 3) := by decide +kernel
theorem dX5_init_17 : decode mX5_init.cd 17 = .ok (.newarray .int, 2) := by decide +kernel
theorem dX5_init_19 : decode mX5_init.cd 19 = .ok (.putfield 15, 3) := by decide +kernel
theorem dX5_init_22 : decode mX5_init.cd 22 = .ok (.iconst 0, 1) := by decide +kernel
theorem dX5_init_23 : decode mX5_init.cd 23 = .ok (.istore_n 1, 1) := by decide +kernel
theorem dX5_init_24 : decode mX5_init.cd 24 = .ok (.iload_n 1, 1) := by decide +kernel
theorem dX5_init_25 : decode mX5_init.cd 25 = .ok (.bipush 31, 2) := by decide +kernel
theorem dX5_init_27 : decode mX5_init.cd 27 = .ok (.if_icmp .ge 57, 3) := by decide +kernel
theorem dX5_init_30 : decode mX5_init.cd 30 = .ok (.iload_n 1, 1) := by decide +kernel
theorem dX5_init_31 : decode mX5_init.cd 31 = .ok (.istore_n 2, 1) := by decide +kernel
theorem dX5_init_32 : decode mX5_init.cd 32 = .ok (.iconst 0, 1) := by decide +kernel
theorem dX5_init_33 : decode mX5_init.cd 33 = .ok (.istore_n 3, 1) := by decide +kernel
theorem dX5_init_34 : decode mX5_init.cd 34 = .ok (.iload_n 3, 1) := by decide +kernel
theorem dX5_init_35 : decode mX5_init.cd 35 = .ok (.bipush 31, 2) := by decide +kernel
theorem dX5_init_37 : decode mX5_init.cd 37 = .ok (.if_icmp .ge 41, 3) := by decide +kernel
theorem dX5_init_40 : decode mX5_init.cd 40 = .ok (.iload_n 2, 1) := by decide +kernel
theorem dX5_init_41 : decode mX5_init.cd 41 = .ok (.iconst 1, 1) := by decide +kernel
theorem dX5_init_42 : decode mX5_init.cd 42 = .ok (.iadd, 1) := by decide +kernel
theorem dX5_init_43 : decode mX5_init.cd 43 = .ok (.iload_n 2, 1) := by decide +kernel
theorem dX5_init_44 : decode mX5_init.cd 44 = .ok (.iconst 1, 1) := by decide +kernel
theorem dX5_init_45 : decode mX5_init.cd 45 = .ok (.iadd, 1) := by decide +kernel
theorem dX5_init_46 : decode mX5_init.cd 46 = .ok (.imul, 1) := by decide +kernel
theorem dX5_init_47 : decode mX5_init.cd 47 = .ok (.iload_n 3, 1) := by decide +kernel
theorem dX5_init_48 : decode mX5_init.cd 48 = .ok (.iload_n 3, 1) := by decide +kernel
theorem dX5_init_49 : decode mX5_init.cd 49 = .ok (.imul, 1) := by decide +kernel
theorem dX5_init_50 : decode mX5_init.cd 50 = .ok (.iload_n 1, 1) := by decide +kernel
theorem dX5_init_51 : decode mX5_init.cd 51 = .ok (.iload_n 1, 1) := by decide +kernel
theorem dX5_init_52 : decode mX5_init.cd 52 = .ok (.imul, 1) := by decide +kernel
theorem dX5_init_53 : decode mX5_init.cd 53 = .ok (.iadd, 1) := by decide +kernel
theorem dX5_init_54 : decode mX5_init.cd 54 = .ok (.if_icmp .gt 6, 3) := by decide +kernel
theorem dX5_init_57 : decode mX5_init.cd 57 = .ok (.iinc 2 1, 3) := by decide +kernel
theorem dX5_init_60 : decode mX5_init.cd 60 = .ok (.aload_n 0, 1) := by decide +kernel
theorem dX5_init_61 : decode mX5_init.cd 61 = .ok (.getfield 9, 3) := by decide +kernel
theorem dX5_init_64 : decode mX5_init.cd 64 = .ok (.iload_n 1, 1) := by decide +kernel
theorem dX5_init_65 : decode mX5_init.cd 65 = .ok (.bipush 31, 2) := by decide +kernel
theorem dX5_init_67 : decode mX5_init.cd 67 = .ok (.imul, 1) := by decide +kernel
theorem dX5_init_68 : decode mX5_init.cd 68 = .ok (.iload_n 3, 1) := by decide +kernel
theorem dX5_init_69 : decode mX5_init.cd 69 = .ok (.iadd, 1) := by decide +kernel
theorem dX5_init_70 : decode mX5_init.cd 70 = .ok (.iload_n 2, 1) := by decide +kernel
theorem dX5_init_71 : decode mX5_init.cd 71 = .ok (.iastore, 1) := by decide +kernel
theorem dX5_init_72 : decode mX5_init.cd 72 = .ok (.iinc 3 1, 3) := by decide +kernel
theorem dX5_init_75 : decode mX5_init.cd 75 = .ok (.goto (-41), 3) := by decide +kernel
theorem dX5_init_78 : decode mX5_init.cd 78 = .ok (.iinc 1 1, 3) := by decide +kernel
theorem dX5_init_81 : decode mX5_init.cd 81 = .ok (.goto (-57), 3) := by decide +kernel
theorem dX5_init_84 : decode mX5_init.cd 84 = .ok (.return_, 1) := by decide +kernel
theorem dX1_init_0 : decode mX1_init.cd 0 = .ok (.aload_n 0, 1) := by decide +kernel
theorem dX1_init_1 : decode mX1_init.cd 1 = .ok (.invokespecial 3, 3) := by decide +kernel
theorem dX1_init_4 : decode mX1_init.cd 4 = .ok (.aload_n 0, 1) := by decide +kernel
theorem dX1_init_5 : decode mX1_init.cd 5 = .ok (.bipush 16, 2) := by decide +kernel
theorem dX1_init_7 : decode mX1_init.cd 7 = .ok (.newarray .int, 2) := by decide +kernel
theorem dX1_init_9 : decode mX1_init.cd 9 = .ok (.putfield 9, 3) := by decide +kernel
theorem dX1_init_12 : decode mX1_init.cd 12 = .ok (.aload_n 0, 1) := by decide +kernel
theorem dX1_init_13 : decode mX1_init.cd 13 = .ok (.bipush 18, 2) := by decide +kernel
theorem dX1_init_15 : decode mX1_init.cd 15 = .ok (.newarray .int, 2) := by decide +kernel
theorem dX1_init_17 : decode mX1_init.cd 17 = .ok (.putfield 15, 3) := by decide +kernel
theorem dX1_init_20 : decode mX1_init.cd 20 = .ok (.return_, 1) := by decide +kernel
theorem dX11_init_0 : decode mX11_init.cd 0 = .ok (.aload_n 0, 1) := by decide +kernel
theorem dX11_init_1 : decode mX11_init.cd 1 = .ok (.invokespecial 1, 3) := by decide +kernel
theorem dX11_init_4 : decode mX11_init.cd 4 = .ok (.aload_n 0, 1) := by decide +kernel
theorem dX11_init_5 : decode mX11_init.cd 5 = .ok (.sipush 700, 3) := by decide +kernel
theorem dX11_init_8 : decode mX11_init.cd 8 = .ok (.newarray .byte, 2) := by decide +kernel
theorem dX11_init_10 : decode mX11_init.cd 10 = .ok (.putfield 9, 3) := by decide +kernel
theorem dX11_init_13 : decode mX11_init.cd 13 = .ok (.aload_n 0, 1) := by decide +kernel
theorem dX11_init_14 : decode mX11_init.cd 14 = .ok (.iconst 0, 1) := by decide +kernel
theorem dX11_init_15 : decode mX11_init.cd 15 = .ok (.putfield 13, 3) := by decide +kernel
theorem dX11_init_18 : decode mX11_init.cd 18 = .ok (.aload_n 0, 1) := by decide +kernel
theorem dX11_init_19 : decode mX11_init.cd 19 = .ok (.iconst (-1), 1) := by decide +kernel
theorem dX11_init_20 : decode mX11_init.cd 20 = .ok (.putfield 17, 3) := by decide +kernel
theorem dX11_init_23 : decode mX11_init.cd 23 = .ok (.aload_n 0, 1) := by decide +kernel
theorem dX11_init_24 : decode mX11_init.cd 24 = .ok (.iconst 3, 1) := by decide +kernel
theorem dX11_init_25 : decode mX11_init.cd 25 = .ok (.newarray .int, 2) := by decide +kernel
theorem dX11_init_27 : decode mX11_init.cd 27 = .ok (.putfield 20, 3) := by decide +kernel
theorem dX11_init_30 : decode mX11_init.cd 30 = .ok (.aload_n 0, 1) := by decide +kernel
theorem dX11_init_31 : decode mX11_init.cd 31 = .ok (.new 24, 3) := by decide +kernel
theorem dX11_init_34 : decode mX11_init.cd 34 = .ok (.dup, 1) := by decide +kernel
theorem dX11_init_35 : decode mX11_init.cd 35 = .ok (.invokespecial 26, 3) := by decide +kernel
theorem dX11_init_38 : decode mX11_init.cd 38 = .ok (.putfield 27, 3) := by decide +kernel
theorem dX11_init_41 : decode mX11_init.cd 41 = .ok (.aload_n 0, 1) := by decide +kernel
theorem dX11_init_42 : decode mX11_init.cd 42 = .ok (.new 24, 3) := by decide +kernel
theorem dX11_init_45 : decode mX11_init.cd 45 = .ok (.dup, 1) := by decide +kernel
theorem dX11_init_46 : decode mX11_init.cd 46 = .ok (.invokespecial 26, 3) := by decide +kernel
theorem dX11_init_49 : decode mX11_init.cd 49 = .ok (.putfield 31, 3) := by decide +kernel
theorem dX11_init_52 : decode mX11_init.cd 52 = .ok (.aload_n 0, 1) := by decide +kernel
theorem dX11_init_53 : decode mX11_init.cd 53 = .ok (.new 34, 3) := by decide +kernel
theorem dX11_init_56 : decode mX11_init.cd 56 = .ok (.dup, 1) := by decide +kernel
theorem dX11_init_57 : decode mX11_init.cd 57 = .ok (.invokespecial 36, 3) := by decide +kernel
theorem dX11_init_60 : decode mX11_init.cd 60 = .ok (.putfield 37, 3) := by decide +kernel
theorem dX11_init_63 : decode mX11_init.cd 63 = .ok (.aload_n 0, 1) := by decide +kernel
theorem dX11_init_64 : decode mX11_init.cd 64 = .ok (.new 34, 3) := by decide +kernel
theorem dX11_init_67 : decode mX11_init.cd 67 = .ok (.dup, 1) := by decide +kernel
theorem dX11_init_68 : decode mX11_init.cd 68 = .ok (.invokespecial 36, 3) := by decide +kernel
theorem dX11_init_71 : decode mX11_init.cd 71 = .ok (.putfield 41, 3) := by decide +kernel
theorem dX11_init_74 : decode mX11_init.cd 74 = .ok (.aload_n 0, 1) := by decide +kernel
theorem dX11_init_75 : decode mX11_init.cd 75 = .ok (.iconst 0, 1) := by decide +kernel
theorem dX11_init_76 : decode mX11_init.cd 76 = .ok (.putfield 44, 3) := by decide +kernel
theorem dX11_init_79 : decode mX11_init.cd 79 = .ok (.aload_n 0, 1) := by decide +kernel
theorem dX11_init_80 : decode mX11_init.cd 80 = .ok (.new 48, 3) := by decide +kernel
theorem dX11_init_83 : decode mX11_init.cd 83 = .ok (.dup, 1) := by decide +kernel
theorem dX11_init_84 : decode mX11_init.cd 84 = .ok (.invokespecial 50, 3) := by decide +kernel
theorem dX11_init_87 : decode mX11_init.cd 87 = .ok (.putfield 51, 3) := by decide +kernel
theorem dX11_init_90 : decode mX11_init.cd 90 = .ok (.aload_n 0, 1) := by decide +kernel
theorem dX11_init_91 : decode mX11_init.cd 91 = .ok (.new 55, 3) := by decide +kernel
theorem dX11_init_94 : decode mX11_init.cd 94 = .ok (.dup, 1) := by decide +kernel
theorem dX11_init_95 : decode mX11_init.cd 95 = .ok (.invokespecial 57, 3) := by decide +kernel
theorem dX11_init_98 : decode mX11_init.cd 98 = .ok (.putfield 58, 3) := by decide +kernel
theorem dX11_init_101 : decode mX11_init.cd 101 = .ok (.aload_n 0, 1) := by decide +kernel
theorem dX11_init_102 : decode mX11_init.cd 102 = .ok (.new 62, 3) := by decide +kernel
theorem dX11_init_105 : decode mX11_init.cd 105 = .ok (.dup, 1) := by decide +kernel
theorem dX11_init_106 : decode mX11_init.cd 106 = .ok (.invokespecial 64, 3) := by decide +kernel
theorem dX11_init_109 : decode mX11_init.cd 109 = .ok (.putfield 65, 3) := by decide +kernel
theorem dX11_init_112 : decode mX11_init.cd 112 = .ok (.aload_n 0, 1) := by decide +kernel
theorem dX11_init_113 : decode mX11_init.cd 113 = .ok (.new 69, 3) := by decide +kernel
theorem dX11_init_116 : decode mX11_init.cd 116 = .ok (.dup, 1) := by decide +kernel
theorem dX11_init_117 : decode mX11_init.cd 117 = .ok (.invokespecial 71, 3) := by decide +kernel
theorem dX11_init_120 : decode mX11_init.cd 120 = .ok (.putfield 72, 3) := by decide +kernel
theorem dX11_init_123 : decode mX11_init.cd 123 = .ok (.aload_n 0, 1) := by decide +kernel
theorem dX11_init_124 : decode mX11_init.cd 124 = .ok (.new 76, 3) := by decide +kernel
theorem dX11_init_127 : decode mX11_init.cd 127 = .ok (.dup, 1) := by decide +kernel
theorem dX11_init_128 : decode mX11_init.cd 128 = .ok (.invokespecial 78, 3) := by decide +kernel
theorem dX11_init_131 : decode mX11_init.cd 131 = .ok (.putfield 79, 3) := by decide +kernel
theorem dX11_init_134 : decode mX11_init.cd 134 = .ok (.aload_n 0, 1) := by decide +kernel
theorem dX11_init_135 : decode mX11_init.cd 135 = .ok (.new 83, 3) := by decide +kernel
theorem dX11_init_138 : decode mX11_init.cd 138 = .ok (.dup, 1) := by decide +kernel
theorem dX11_init_139 : decode mX11_init.cd 139 = .ok (.invokespecial 85, 3) := by decide +kernel
theorem dX11_init_142 : decode mX11_init.cd 142 = .ok (.putfield 86, 3) := by decide +kernel
theorem dX11_init_145 : decode mX11_init.cd 145 = .ok (.aload_n 0, 1) := by decide +kernel
theorem dX11_init_146 : decode mX11_init.cd 146 = .ok (.new 90, 3) := by decide +kernel
theorem dX11_init_149 : decode mX11_init.cd 149 = .ok (.dup, 1) := by decide +kernel
theorem dX11_init_150 : decode mX11_init.cd 150 = .ok (.invokespecial 92, 3) := by decide +kernel
theorem dX11_init_153 : decode mX11_init.cd 153 = .ok (.putfield 93, 3) := by decide +kernel
theorem dX11_init_156 : decode mX11_init.cd 156 = .ok (.aload_n 0, 1) := by decide +kernel
theorem dX11_init_157 : decode mX11_init.cd 157 = .ok (.new 97, 3) := by decide +kernel
theorem dX11_init_160 : decode mX11_init.cd 160 = .ok (.dup, 1) := by decide +kernel
theorem dX11_init_161 : decode mX11_init.cd 161 = .ok (.invokespecial 99, 3) := by decide +kernel
theorem dX11_init_164 : decode mX11_init.cd 164 = .ok (.putfield 100, 3) := by decide +kernel
theorem dX11_init_167 : decode mX11_init.cd 167 = .ok (.aload_n 0, 1) := by decide +kernel
theorem dX11_init_168 : decode mX11_init.cd 168 = .ok (.new 104, 3) := by decide +kernel
theorem dX11_init_171 : decode mX11_init.cd 171 = .ok (.dup, 1) := by decide +kernel
theorem dX11_init_172 : decode mX11_init.cd 172 = .ok (.invokespecial 106, 3) := by decide +kernel
theorem dX11_init_175 : decode mX11_init.cd 175 = .ok (.putfield 107, 3) := by decide +kernel
theorem dX11_init_178 : decode mX11_init.cd 178 = .ok (.return_, 1) := by decide +kernel
theorem n_X2_clear_4 {fr : Nat} {h : AH} (hf : 2 ≤ fr) (fz : frz 18 h) (f4_9 : h 4 9 ≠ 0) (f4_14 : h 4 14 ≠ 0) (f4_15 : h 4 15 ≠ 0) : Sp mX2_clear false fr 0 0 [zR 4] 18 h (rF 18 (fun h9 => h9 = (fil (fil (fil (up (up (up (up (up (up (up h 4 0 0) 4 1 0) 4 2 0) 4 3 0) 4 4 1) 4 5 0) 4 6 0) 7 0 8) 12 0 3) 13 100 24))) := by
  refine Sp.mkF yX2_clear_ok rfl rfl ?_
  show Wp _ _ _ _ 0 [zR 4] [] 18 _
  refine s_aload_n (x := 4) dX2_clear_0 rfl ?_
  refine s_iconst dX2_clear_1 ?_
  refine f_put (c := 4) (kz := 0) rfl dX2_clear_2 iX2_57 ⟨by decide, by decide, rfl⟩ (by decide) fz (fun fz => ?_)
  refine s_aload_n (x := 4) dX2_clear_5 rfl ?_
  refine s_iconst dX2_clear_6 ?_
  refine f_put (c := 4) (kz := 1) rfl dX2_clear_7 iX2_61 ⟨by decide, by decide, rfl⟩ (by decide) fz (fun fz => ?_)
  refine s_aload_n (x := 4) dX2_clear_10 rfl ?_
  refine s_iconst dX2_clear_11 ?_
  refine f_put (c := 4) (kz := 2) rfl dX2_clear_12 iX2_64 ⟨by decide, by decide, rfl⟩ (by decide) fz (fun fz => ?_)
  refine s_aload_n (x := 4) dX2_clear_15 rfl ?_
  refine s_iconst dX2_clear_16 ?_
  refine f_put (c := 4) (kz := 3) rfl dX2_clear_17 iX2_67 ⟨by decide, by decide, rfl⟩ (by decide) fz (fun fz => ?_)
  refine s_aload_n (x := 4) dX2_clear_20 rfl ?_
  refine s_iconst dX2_clear_21 ?_
  refine f_put (c := 4) (kz := 4) rfl dX2_clear_22 iX2_70 ⟨by decide, by decide, rfl⟩ (by decide) fz (fun fz => ?_)
  refine s_aload_n (x := 4) dX2_clear_25 rfl ?_
  refine s_iconst dX2_clear_26 ?_
  refine f_put (c := 4) (kz := 5) rfl dX2_clear_27 iX2_73 ⟨by decide, by decide, rfl⟩ (by decide) fz (fun fz => ?_)
  refine s_aload_n (x := 4) dX2_clear_30 rfl ?_
  refine s_iconst dX2_clear_31 ?_
  refine f_put (c := 4) (kz := 6) rfl dX2_clear_32 iX2_76 ⟨by decide, by decide, rfl⟩ (by decide) fz (fun fz => ?_)
  refine s_aload_n (x := 4) dX2_clear_35 rfl ?_
  refine s_getFd (c := 4) (d := 7) dX2_clear_36 iX2_18 ⟨by decide, by decide, rfl⟩ (Or.inr (show (up (up (up (up (up (up (up h 4 0 0) 4 1 0) 4 2 0) 4 3 0) 4 4 1) 4 5 0) 4 6 0) 4 9 ≠ 0 by rw [up_cn (by decide), up_cn (by decide), up_cn (by decide), up_cn (by decide), up_cn (by decide), up_cn (by decide), up_cn (by decide)]; exact f4_9)) (by decide) (by decide) ?_
  refine s_iconst dX2_clear_39 ?_
  refine s_callS (as := [zR 7, zI 0]) (st := []) dX2_clear_40 gX2_79 rfl rfl (Nat.le_of_ble_eq_true rfl) (n_fill (fr := fr - 1) (N := 8) ⟨by decide, by decide, rfl⟩ (by decide) fz) (show fr - 1 + 1 ≤ fr by omega) (by decide) (by decide) (fun v n9 h9 hP _ => ?_) (fun E n9 h9 z _ => by cases z)
  obtain ⟨z1, z2, fz, z3⟩ := hP
  cases z1; subst z2; subst z3
  show Wp _ _ _ _ _ _ [] 18 _
  refine s_aload_n (x := 4) dX2_clear_43 rfl ?_
  refine s_getFd (c := 4) (d := 12) dX2_clear_44 iX2_33 ⟨by decide, by decide, rfl⟩ (Or.inr (show (fil (up (up (up (up (up (up (up h 4 0 0) 4 1 0) 4 2 0) 4 3 0) 4 4 1) 4 5 0) 4 6 0) 7 0 8) 4 14 ≠ 0 by rw [fil_nn (by decide), up_cn (by decide), up_cn (by decide), up_cn (by decide), up_cn (by decide), up_cn (by decide), up_cn (by decide), up_cn (by decide)]; exact f4_14)) (by decide) (by decide) ?_
  refine s_iconst dX2_clear_47 ?_
  refine s_callS (as := [zR 12, zI 0]) (st := []) dX2_clear_48 gX2_79 rfl rfl (Nat.le_of_ble_eq_true rfl) (n_fill (fr := fr - 1) (N := 3) ⟨by decide, by decide, rfl⟩ (by decide) fz) (show fr - 1 + 1 ≤ fr by omega) (by decide) (by decide) (fun v n9 h9 hP _ => ?_) (fun E n9 h9 z _ => by cases z)
  obtain ⟨z1, z2, fz, z3⟩ := hP
  cases z1; subst z2; subst z3
  show Wp _ _ _ _ _ _ [] 18 _
  refine s_aload_n (x := 4) dX2_clear_51 rfl ?_
  refine s_getFd (c := 4) (d := 13) dX2_clear_52 iX2_36 ⟨by decide, by decide, rfl⟩ (Or.inr (show (fil (fil (up (up (up (up (up (up (up h 4 0 0) 4 1 0) 4 2 0) 4 3 0) 4 4 1) 4 5 0) 4 6 0) 7 0 8) 12 0 3) 4 15 ≠ 0 by rw [fil_nn (by decide), fil_nn (by decide), up_cn (by decide), up_cn (by decide), up_cn (by decide), up_cn (by decide), up_cn (by decide), up_cn (by decide), up_cn (by decide)]; exact f4_15)) (by decide) (by decide) ?_
  refine s_bipush dX2_clear_55 (by decide) ?_
  refine s_callS (as := [zR 13, zI 100]) (st := []) dX2_clear_57 gX2_79 rfl rfl (Nat.le_of_ble_eq_true rfl) (n_fill (fr := fr - 1) (N := 24) ⟨by decide, by decide, rfl⟩ (by decide) fz) (show fr - 1 + 1 ≤ fr by omega) (by decide) (by decide) (fun v n9 h9 hP _ => ?_) (fun E n9 h9 z _ => by cases z)
  obtain ⟨z1, z2, fz, z3⟩ := hP
  cases z1; subst z2; subst z3
  show Wp _ _ _ _ _ _ [] 18 _
  exact s_return dX2_clear_60 rfl ⟨rfl, rfl, fz, rfl⟩ (fun _ => by decide)
theorem n_X2_clear_19 {fr : Nat} {h : AH} (hf : 2 ≤ fr) (fz : frz 33 h) (f19_9 : h 19 9 ≠ 0) (f19_14 : h 19 14 ≠ 0) (f19_15 : h 19 15 ≠ 0) : Sp mX2_clear false fr 0 0 [zR 19] 33 h (rF 33 (fun h9 => h9 = (fil (fil (fil (up (up (up (up (up (up (up h 19 0 0) 19 1 0) 19 2 0) 19 3 0) 19 4 1) 19 5 0) 19 6 0) 22 0 8) 27 0 3) 28 100 24))) := by
  refine Sp.mkF yX2_clear_ok rfl rfl ?_
  show Wp _ _ _ _ 0 [zR 19] [] 33 _
  refine s_aload_n (x := 19) dX2_clear_0 rfl ?_
  refine s_iconst dX2_clear_1 ?_
  refine f_put (c := 19) (kz := 0) rfl dX2_clear_2 iX2_57 ⟨by decide, by decide, rfl⟩ (by decide) fz (fun fz => ?_)
  refine s_aload_n (x := 19) dX2_clear_5 rfl ?_
  refine s_iconst dX2_clear_6 ?_
  refine f_put (c := 19) (kz := 1) rfl dX2_clear_7 iX2_61 ⟨by decide, by decide, rfl⟩ (by decide) fz (fun fz => ?_)
  refine s_aload_n (x := 19) dX2_clear_10 rfl ?_
  refine s_iconst dX2_clear_11 ?_
  refine f_put (c := 19) (kz := 2) rfl dX2_clear_12 iX2_64 ⟨by decide, by decide, rfl⟩ (by decide) fz (fun fz => ?_)
  refine s_aload_n (x := 19) dX2_clear_15 rfl ?_
  refine s_iconst dX2_clear_16 ?_
  refine f_put (c := 19) (kz := 3) rfl dX2_clear_17 iX2_67 ⟨by decide, by decide, rfl⟩ (by decide) fz (fun fz => ?_)
  refine s_aload_n (x := 19) dX2_clear_20 rfl ?_
  refine s_iconst dX2_clear_21 ?_
  refine f_put (c := 19) (kz := 4) rfl dX2_clear_22 iX2_70 ⟨by decide, by decide, rfl⟩ (by decide) fz (fun fz => ?_)
  refine s_aload_n (x := 19) dX2_clear_25 rfl ?_
  refine s_iconst dX2_clear_26 ?_
  refine f_put (c := 19) (kz := 5) rfl dX2_clear_27 iX2_73 ⟨by decide, by decide, rfl⟩ (by decide) fz (fun fz => ?_)
  refine s_aload_n (x := 19) dX2_clear_30 rfl ?_
  refine s_iconst dX2_clear_31 ?_
  refine f_put (c := 19) (kz := 6) rfl dX2_clear_32 iX2_76 ⟨by decide, by decide, rfl⟩ (by decide) fz (fun fz => ?_)
  refine s_aload_n (x := 19) dX2_clear_35 rfl ?_
  refine s_getFd (c := 19) (d := 22) dX2_clear_36 iX2_18 ⟨by decide, by decide, rfl⟩ (Or.inr (show (up (up (up (up (up (up (up h 19 0 0) 19 1 0) 19 2 0) 19 3 0) 19 4 1) 19 5 0) 19 6 0) 19 9 ≠ 0 by rw [up_cn (by decide), up_cn (by decide), up_cn (by decide), up_cn (by decide), up_cn (by decide), up_cn (by decide), up_cn (by decide)]; exact f19_9)) (by decide) (by decide) ?_
  refine s_iconst dX2_clear_39 ?_
  refine s_callS (as := [zR 22, zI 0]) (st := []) dX2_clear_40 gX2_79 rfl rfl (Nat.le_of_ble_eq_true rfl) (n_fill (fr := fr - 1) (N := 8) ⟨by decide, by decide, rfl⟩ (by decide) fz) (show fr - 1 + 1 ≤ fr by omega) (by decide) (by decide) (fun v n9 h9 hP _ => ?_) (fun E n9 h9 z _ => by cases z)
  obtain ⟨z1, z2, fz, z3⟩ := hP
  cases z1; subst z2; subst z3
  show Wp _ _ _ _ _ _ [] 33 _
  refine s_aload_n (x := 19) dX2_clear_43 rfl ?_
  refine s_getFd (c := 19) (d := 27) dX2_clear_44 iX2_33 ⟨by decide, by decide, rfl⟩ (Or.inr (show (fil (up (up (up (up (up (up (up h 19 0 0) 19 1 0) 19 2 0) 19 3 0) 19 4 1) 19 5 0) 19 6 0) 22 0 8) 19 14 ≠ 0 by rw [fil_nn (by decide), up_cn (by decide), up_cn (by decide), up_cn (by decide), up_cn (by decide), up_cn (by decide), up_cn (by decide), up_cn (by decide)]; exact f19_14)) (by decide) (by decide) ?_
  refine s_iconst dX2_clear_47 ?_
  refine s_callS (as := [zR 27, zI 0]) (st := []) dX2_clear_48 gX2_79 rfl rfl (Nat.le_of_ble_eq_true rfl) (n_fill (fr := fr - 1) (N := 3) ⟨by decide, by decide, rfl⟩ (by decide) fz) (show fr - 1 + 1 ≤ fr by omega) (by decide) (by decide) (fun v n9 h9 hP _ => ?_) (fun E n9 h9 z _ => by cases z)
  obtain ⟨z1, z2, fz, z3⟩ := hP
  cases z1; subst z2; subst z3
  show Wp _ _ _ _ _ _ [] 33 _
  refine s_aload_n (x := 19) dX2_clear_51 rfl ?_
  refine s_getFd (c := 19) (d := 28) dX2_clear_52 iX2_36 ⟨by decide, by decide, rfl⟩ (Or.inr (show (fil (fil (up (up (up (up (up (up (up h 19 0 0) 19 1 0) 19 2 0) 19 3 0) 19 4 1) 19 5 0) 19 6 0) 22 0 8) 27 0 3) 19 15 ≠ 0 by rw [fil_nn (by decide), fil_nn (by decide), up_cn (by decide), up_cn (by decide), up_cn (by decide), up_cn (by decide), up_cn (by decide), up_cn (by decide), up_cn (by decide)]; exact f19_15)) (by decide) (by decide) ?_
  refine s_bipush dX2_clear_55 (by decide) ?_
  refine s_callS (as := [zR 28, zI 100]) (st := []) dX2_clear_57 gX2_79 rfl rfl (Nat.le_of_ble_eq_true rfl) (n_fill (fr := fr - 1) (N := 24) ⟨by decide, by decide, rfl⟩ (by decide) fz) (show fr - 1 + 1 ≤ fr by omega) (by decide) (by decide) (fun v n9 h9 hP _ => ?_) (fun E n9 h9 z _ => by cases z)
  obtain ⟨z1, z2, fz, z3⟩ := hP
  cases z1; subst z2; subst z3
  show Wp _ _ _ _ _ _ [] 33 _
  exact s_return dX2_clear_60 rfl ⟨rfl, rfl, fz, rfl⟩ (fun _ => by decide)
theorem n_X2_clear_56 {fr : Nat} {h : AH} (hf : 2 ≤ fr) (fz : frz 70 h) (f56_9 : h 56 9 ≠ 0) (f56_14 : h 56 14 ≠ 0) (f56_15 : h 56 15 ≠ 0) : Sp mX2_clear false fr 0 0 [zR 56] 70 h (rF 70 (fun h9 => h9 = (fil (fil (fil (up (up (up (up (up (up (up h 56 0 0) 56 1 0) 56 2 0) 56 3 0) 56 4 1) 56 5 0) 56 6 0) 59 0 8) 64 0 3) 65 100 24))) := by
  refine Sp.mkF yX2_clear_ok rfl rfl ?_
  show Wp _ _ _ _ 0 [zR 56] [] 70 _
  refine s_aload_n (x := 56) dX2_clear_0 rfl ?_
  refine s_iconst dX2_clear_1 ?_
  refine f_put (c := 56) (kz := 0) rfl dX2_clear_2 iX2_57 ⟨by decide, by decide, rfl⟩ (by decide) fz (fun fz => ?_)
  refine s_aload_n (x := 56) dX2_clear_5 rfl ?_
  refine s_iconst dX2_clear_6 ?_
  refine f_put (c := 56) (kz := 1) rfl dX2_clear_7 iX2_61 ⟨by decide, by decide, rfl⟩ (by decide) fz (fun fz => ?_)
  refine s_aload_n (x := 56) dX2_clear_10 rfl ?_
  refine s_iconst dX2_clear_11 ?_
  refine f_put (c := 56) (kz := 2) rfl dX2_clear_12 iX2_64 ⟨by decide, by decide, rfl⟩ (by decide) fz (fun fz => ?_)
  refine s_aload_n (x := 56) dX2_clear_15 rfl ?_
  refine s_iconst dX2_clear_16 ?_
  refine f_put (c := 56) (kz := 3) rfl dX2_clear_17 iX2_67 ⟨by decide, by decide, rfl⟩ (by decide) fz (fun fz => ?_)
  refine s_aload_n (x := 56) dX2_clear_20 rfl ?_
  refine s_iconst dX2_clear_21 ?_
  refine f_put (c := 56) (kz := 4) rfl dX2_clear_22 iX2_70 ⟨by decide, by decide, rfl⟩ (by decide) fz (fun fz => ?_)
  refine s_aload_n (x := 56) dX2_clear_25 rfl ?_
  refine s_iconst dX2_clear_26 ?_
  refine f_put (c := 56) (kz := 5) rfl dX2_clear_27 iX2_73 ⟨by decide, by decide, rfl⟩ (by decide) fz (fun fz => ?_)
  refine s_aload_n (x := 56) dX2_clear_30 rfl ?_
  refine s_iconst dX2_clear_31 ?_
  refine f_put (c := 56) (kz := 6) rfl dX2_clear_32 iX2_76 ⟨by decide, by decide, rfl⟩ (by decide) fz (fun fz => ?_)
  refine s_aload_n (x := 56) dX2_clear_35 rfl ?_
  refine s_getFd (c := 56) (d := 59) dX2_clear_36 iX2_18 ⟨by decide, by decide, rfl⟩ (Or.inr (show (up (up (up (up (up (up (up h 56 0 0) 56 1 0) 56 2 0) 56 3 0) 56 4 1) 56 5 0) 56 6 0) 56 9 ≠ 0 by rw [up_cn (by decide), up_cn (by decide), up_cn (by decide), up_cn (by decide), up_cn (by decide), up_cn (by decide), up_cn (by decide)]; exact f56_9)) (by decide) (by decide) ?_
  refine s_iconst dX2_clear_39 ?_
  refine s_callS (as := [zR 59, zI 0]) (st := []) dX2_clear_40 gX2_79 rfl rfl (Nat.le_of_ble_eq_true rfl) (n_fill (fr := fr - 1) (N := 8) ⟨by decide, by decide, rfl⟩ (by decide) fz) (show fr - 1 + 1 ≤ fr by omega) (by decide) (by decide) (fun v n9 h9 hP _ => ?_) (fun E n9 h9 z _ => by cases z)
  obtain ⟨z1, z2, fz, z3⟩ := hP
  cases z1; subst z2; subst z3
  show Wp _ _ _ _ _ _ [] 70 _
  refine s_aload_n (x := 56) dX2_clear_43 rfl ?_
  refine s_getFd (c := 56) (d := 64) dX2_clear_44 iX2_33 ⟨by decide, by decide, rfl⟩ (Or.inr (show (fil (up (up (up (up (up (up (up h 56 0 0) 56 1 0) 56 2 0) 56 3 0) 56 4 1) 56 5 0) 56 6 0) 59 0 8) 56 14 ≠ 0 by rw [fil_nn (by decide), up_cn (by decide), up_cn (by decide), up_cn (by decide), up_cn (by decide), up_cn (by decide), up_cn (by decide), up_cn (by decide)]; exact f56_14)) (by decide) (by decide) ?_
  refine s_iconst dX2_clear_47 ?_
  refine s_callS (as := [zR 64, zI 0]) (st := []) dX2_clear_48 gX2_79 rfl rfl (Nat.le_of_ble_eq_true rfl) (n_fill (fr := fr - 1) (N := 3) ⟨by decide, by decide, rfl⟩ (by decide) fz) (show fr - 1 + 1 ≤ fr by omega) (by decide) (by decide) (fun v n9 h9 hP _ => ?_) (fun E n9 h9 z _ => by cases z)
  obtain ⟨z1, z2, fz, z3⟩ := hP
  cases z1; subst z2; subst z3
  show Wp _ _ _ _ _ _ [] 70 _
  refine s_aload_n (x := 56) dX2_clear_51 rfl ?_
  refine s_getFd (c := 56) (d := 65) dX2_clear_52 iX2_36 ⟨by decide, by decide, rfl⟩ (Or.inr (show (fil (fil (up (up (up (up (up (up (up h 56 0 0) 56 1 0) 56 2 0) 56 3 0) 56 4 1) 56 5 0) 56 6 0) 59 0 8) 64 0 3) 56 15 ≠ 0 by rw [fil_nn (by decide), fil_nn (by decide), up_cn (by decide), up_cn (by decide), up_cn (by decide), up_cn (by decide), up_cn (by decide), up_cn (by decide), up_cn (by decide)]; exact f56_15)) (by decide) (by decide) ?_
  refine s_bipush dX2_clear_55 (by decide) ?_
  refine s_callS (as := [zR 65, zI 100]) (st := []) dX2_clear_57 gX2_79 rfl rfl (Nat.le_of_ble_eq_true rfl) (n_fill (fr := fr - 1) (N := 24) ⟨by decide, by decide, rfl⟩ (by decide) fz) (show fr - 1 + 1 ≤ fr by omega) (by decide) (by decide) (fun v n9 h9 hP _ => ?_) (fun E n9 h9 z _ => by cases z)
  obtain ⟨z1, z2, fz, z3⟩ := hP
  cases z1; subst z2; subst z3
  show Wp _ _ _ _ _ _ [] 70 _
  exact s_return dX2_clear_60 rfl ⟨rfl, rfl, fz, rfl⟩ (fun _ => by decide)
def hX2_init_4 (h : AH) : AH := (fil (fil (fil (up (up (up (up (up (up (up (up (up (up (up (up (up (up (up (up (up (up (up (up (up h 4 7 1) 4 8 1) 4 9 1) 4 10 1) 4 11 1) 4 12 1) 4 13 1) 4 14 1) 4 15 1) 4 16 1) 4 17 1) 4 18 1) 4 19 1) 4 20 1) 4 0 0) 4 1 0) 4 2 0) 4 3 0) 4 4 1) 4 5 0) 4 6 0) 7 0 8) 12 0 3) 13 100 24)
theorem n_X2_init_4 {fr : Nat} {h : AH} (hf : 3 ≤ fr) (fz : frz 4 h) : Sp mX2_init false fr 14 159 [zR 4] 4 h (rF 18 (fun h9 => h9 = hX2_init_4 h)) := by
  refine Sp.mkF yX2_init_ok rfl rfl ?_
  show Wp _ _ _ _ 0 [zR 4] [] 4 _
  refine s_aload_n (x := 4) dX2_init_0 rfl ?_
  refine s_objInit dX2_init_1 we40 we33 we34 (by decide) (show 1 ≤ fr by omega) (Nat.le_of_ble_eq_true rfl) ?_
  refine s_aload_n (x := 4) dX2_init_4 rfl ?_
  refine s_bipush dX2_init_5 (by decide) ?_
  refine f_newarr (N := 8) (K := 100) dX2_init_7 we175 (Or.inl ⟨rfl, rfl⟩) rfl rfl rfl (by decide) (by decide) fz (fun fz => ?_)
  show Wp _ _ _ (13, 151) _ _ [zR 5, zR 4] 5 _
  refine f_putF (c := 4) (kz := 7) rfl dX2_init_9 iX2_9 ⟨by decide, by decide, rfl⟩ rfl (by decide) (by decide) (fun T C N e => by rw [tc_X2 e]; rfl) (by decide) fz (fun fz => ?_)
  refine s_aload_n (x := 4) dX2_init_12 rfl ?_
  refine s_bipush dX2_init_13 (by decide) ?_
  refine f_newarr (N := 8) (K := 100) dX2_init_15 we175 (Or.inl ⟨rfl, rfl⟩) rfl rfl rfl (by decide) (by decide) fz (fun fz => ?_)
  show Wp _ _ _ (12, 143) _ _ [zR 6, zR 4] 6 _
  refine f_putF (c := 4) (kz := 8) rfl dX2_init_17 iX2_15 ⟨by decide, by decide, rfl⟩ rfl (by decide) (by decide) (fun T C N e => by rw [tc_X2 e]; rfl) (by decide) fz (fun fz => ?_)
  refine s_aload_n (x := 4) dX2_init_20 rfl ?_
  refine s_bipush dX2_init_21 (by decide) ?_
  refine f_newarr (N := 8) (K := 100) dX2_init_23 we175 (Or.inl ⟨rfl, rfl⟩) rfl rfl rfl (by decide) (by decide) fz (fun fz => ?_)
  show Wp _ _ _ (11, 135) _ _ [zR 7, zR 4] 7 _
  refine f_putF (c := 4) (kz := 9) rfl dX2_init_25 iX2_18 ⟨by decide, by decide, rfl⟩ rfl (by decide) (by decide) (fun T C N e => by rw [tc_X2 e]; rfl) (by decide) fz (fun fz => ?_)
  refine s_aload_n (x := 4) dX2_init_28 rfl ?_
  refine s_bipush dX2_init_29 (by decide) ?_
  refine f_newarr (N := 18) (K := 100) dX2_init_31 we175 (Or.inl ⟨rfl, rfl⟩) rfl rfl rfl (by decide) (by decide) fz (fun fz => ?_)
  show Wp _ _ _ (10, 117) _ _ [zR 8, zR 4] 8 _
  refine f_putF (c := 4) (kz := 10) rfl dX2_init_33 iX2_21 ⟨by decide, by decide, rfl⟩ rfl (by decide) (by decide) (fun T C N e => by rw [tc_X2 e]; rfl) (by decide) fz (fun fz => ?_)
  refine s_aload_n (x := 4) dX2_init_36 rfl ?_
  refine s_bipush dX2_init_37 (by decide) ?_
  refine f_newarr (N := 6) (K := 100) dX2_init_39 we175 (Or.inl ⟨rfl, rfl⟩) rfl rfl rfl (by decide) (by decide) fz (fun fz => ?_)
  show Wp _ _ _ (9, 111) _ _ [zR 9, zR 4] 9 _
  refine f_putF (c := 4) (kz := 11) rfl dX2_init_41 iX2_24 ⟨by decide, by decide, rfl⟩ rfl (by decide) (by decide) (fun T C N e => by rw [tc_X2 e]; rfl) (by decide) fz (fun fz => ?_)
  refine s_aload_n (x := 4) dX2_init_44 rfl ?_
  refine s_bipush dX2_init_45 (by decide) ?_
  refine f_newarr (N := 6) (K := 100) dX2_init_47 we175 (Or.inl ⟨rfl, rfl⟩) rfl rfl rfl (by decide) (by decide) fz (fun fz => ?_)
  show Wp _ _ _ (8, 105) _ _ [zR 10, zR 4] 10 _
  refine f_putF (c := 4) (kz := 12) rfl dX2_init_49 iX2_27 ⟨by decide, by decide, rfl⟩ rfl (by decide) (by decide) (fun T C N e => by rw [tc_X2 e]; rfl) (by decide) fz (fun fz => ?_)
  refine s_aload_n (x := 4) dX2_init_52 rfl ?_
  refine s_bipush dX2_init_53 (by decide) ?_
  refine f_newarr (N := 6) (K := 100) dX2_init_55 we175 (Or.inl ⟨rfl, rfl⟩) rfl rfl rfl (by decide) (by decide) fz (fun fz => ?_)
  show Wp _ _ _ (7, 99) _ _ [zR 11, zR 4] 11 _
  refine f_putF (c := 4) (kz := 13) rfl dX2_init_57 iX2_30 ⟨by decide, by decide, rfl⟩ rfl (by decide) (by decide) (fun T C N e => by rw [tc_X2 e]; rfl) (by decide) fz (fun fz => ?_)
  refine s_aload_n (x := 4) dX2_init_60 rfl ?_
  refine s_iconst dX2_init_61 ?_
  refine f_newarr (N := 3) (K := 100) dX2_init_62 we175 (Or.inl ⟨rfl, rfl⟩) rfl rfl rfl (by decide) (by decide) fz (fun fz => ?_)
  show Wp _ _ _ (6, 96) _ _ [zR 12, zR 4] 12 _
  refine f_putF (c := 4) (kz := 14) rfl dX2_init_64 iX2_33 ⟨by decide, by decide, rfl⟩ rfl (by decide) (by decide) (fun T C N e => by rw [tc_X2 e]; rfl) (by decide) fz (fun fz => ?_)
  refine s_aload_n (x := 4) dX2_init_67 rfl ?_
  refine s_bipush dX2_init_68 (by decide) ?_
  refine f_newarr (N := 24) (K := 100) dX2_init_70 we175 (Or.inl ⟨rfl, rfl⟩) rfl rfl rfl (by decide) (by decide) fz (fun fz => ?_)
  show Wp _ _ _ (5, 72) _ _ [zR 13, zR 4] 13 _
  refine f_putF (c := 4) (kz := 15) rfl dX2_init_72 iX2_36 ⟨by decide, by decide, rfl⟩ rfl (by decide) (by decide) (fun T C N e => by rw [tc_X2 e]; rfl) (by decide) fz (fun fz => ?_)
  refine s_aload_n (x := 4) dX2_init_75 rfl ?_
  refine s_bipush dX2_init_76 (by decide) ?_
  refine f_newarr (N := 8) (K := 100) dX2_init_78 we175 (Or.inl ⟨rfl, rfl⟩) rfl rfl rfl (by decide) (by decide) fz (fun fz => ?_)
  show Wp _ _ _ (4, 64) _ _ [zR 14, zR 4] 14 _
  refine f_putF (c := 4) (kz := 16) rfl dX2_init_80 iX2_39 ⟨by decide, by decide, rfl⟩ rfl (by decide) (by decide) (fun T C N e => by rw [tc_X2 e]; rfl) (by decide) fz (fun fz => ?_)
  refine s_aload_n (x := 4) dX2_init_83 rfl ?_
  refine s_bipush dX2_init_84 (by decide) ?_
  refine f_newarr (N := 8) (K := 100) dX2_init_86 we175 (Or.inl ⟨rfl, rfl⟩) rfl rfl rfl (by decide) (by decide) fz (fun fz => ?_)
  show Wp _ _ _ (3, 56) _ _ [zR 15, zR 4] 15 _
  refine f_putF (c := 4) (kz := 17) rfl dX2_init_88 iX2_42 ⟨by decide, by decide, rfl⟩ rfl (by decide) (by decide) (fun T C N e => by rw [tc_X2 e]; rfl) (by decide) fz (fun fz => ?_)
  refine s_aload_n (x := 4) dX2_init_91 rfl ?_
  refine s_bipush dX2_init_92 (by decide) ?_
  refine f_newarr (N := 32) (K := 100) dX2_init_94 we175 (Or.inl ⟨rfl, rfl⟩) rfl rfl rfl (by decide) (by decide) fz (fun fz => ?_)
  show Wp _ _ _ (2, 24) _ _ [zR 16, zR 4] 16 _
  refine f_putF (c := 4) (kz := 18) rfl dX2_init_96 iX2_45 ⟨by decide, by decide, rfl⟩ rfl (by decide) (by decide) (fun T C N e => by rw [tc_X2 e]; rfl) (by decide) fz (fun fz => ?_)
  refine s_aload_n (x := 4) dX2_init_99 rfl ?_
  refine s_bipush dX2_init_100 (by decide) ?_
  refine f_newarr (N := 6) (K := 100) dX2_init_102 we175 (Or.inl ⟨rfl, rfl⟩) rfl rfl rfl (by decide) (by decide) fz (fun fz => ?_)
  show Wp _ _ _ (1, 18) _ _ [zR 17, zR 4] 17 _
  refine f_putF (c := 4) (kz := 19) rfl dX2_init_104 iX2_48 ⟨by decide, by decide, rfl⟩ rfl (by decide) (by decide) (fun T C N e => by rw [tc_X2 e]; rfl) (by decide) fz (fun fz => ?_)
  refine s_aload_n (x := 4) dX2_init_107 rfl ?_
  refine s_bipush dX2_init_108 (by decide) ?_
  refine f_newarr (N := 18) (K := 100) dX2_init_110 we175 (Or.inl ⟨rfl, rfl⟩) rfl rfl rfl (by decide) (by decide) fz (fun fz => ?_)
  show Wp _ _ _ (0, 0) _ _ [zR 18, zR 4] 18 _
  refine f_putF (c := 4) (kz := 20) rfl dX2_init_112 iX2_51 ⟨by decide, by decide, rfl⟩ rfl (by decide) (by decide) (fun T C N e => by rw [tc_X2 e]; rfl) (by decide) fz (fun fz => ?_)
  refine s_aload_n (x := 4) dX2_init_115 rfl ?_
  refine s_callV (as := []) (st := []) (o := 4) dX2_init_116 gX2_54 rfl ⟨2, 21, TX2, ⟨by decide, by decide, rfl⟩, rfl, by decide⟩ rfl rfl (Nat.le_of_ble_eq_true rfl) (n_X2_clear_4 (fr := fr - 1) (by omega) fz (show (up (up (up (up (up (up (up (up (up (up (up (up (up (up h 4 7 1) 4 8 1) 4 9 1) 4 10 1) 4 11 1) 4 12 1) 4 13 1) 4 14 1) 4 15 1) 4 16 1) 4 17 1) 4 18 1) 4 19 1) 4 20 1) 4 9 ≠ 0 by rw [up_cn (by decide), up_cn (by decide), up_cn (by decide), up_cn (by decide), up_cn (by decide), up_cn (by decide), up_cn (by decide), up_cn (by decide), up_cn (by decide), up_cn (by decide), up_cn (by decide), up_ci]; decide) (show (up (up (up (up (up (up (up (up (up (up (up (up (up (up h 4 7 1) 4 8 1) 4 9 1) 4 10 1) 4 11 1) 4 12 1) 4 13 1) 4 14 1) 4 15 1) 4 16 1) 4 17 1) 4 18 1) 4 19 1) 4 20 1) 4 14 ≠ 0 by rw [up_cn (by decide), up_cn (by decide), up_cn (by decide), up_cn (by decide), up_cn (by decide), up_cn (by decide), up_ci]; decide) (show (up (up (up (up (up (up (up (up (up (up (up (up (up (up h 4 7 1) 4 8 1) 4 9 1) 4 10 1) 4 11 1) 4 12 1) 4 13 1) 4 14 1) 4 15 1) 4 16 1) 4 17 1) 4 18 1) 4 19 1) 4 20 1) 4 15 ≠ 0 by rw [up_cn (by decide), up_cn (by decide), up_cn (by decide), up_cn (by decide), up_cn (by decide), up_ci]; decide)) (show fr - 1 + 1 ≤ fr by omega) (by decide) (by decide) (fun v n9 h9 hP _ => ?_) (fun E n9 h9 z _ => by cases z)
  obtain ⟨z1, z2, fz, z3⟩ := hP
  cases z1; subst z2; subst z3
  show Wp _ _ _ (0, 0) _ _ [] 18 _
  exact s_return dX2_init_119 rfl ⟨rfl, rfl, fz, rfl⟩ (fun _ => by decide)
def hX2_init_19 (h : AH) : AH := (fil (fil (fil (up (up (up (up (up (up (up (up (up (up (up (up (up (up (up (up (up (up (up (up (up h 19 7 1) 19 8 1) 19 9 1) 19 10 1) 19 11 1) 19 12 1) 19 13 1) 19 14 1) 19 15 1) 19 16 1) 19 17 1) 19 18 1) 19 19 1) 19 20 1) 19 0 0) 19 1 0) 19 2 0) 19 3 0) 19 4 1) 19 5 0) 19 6 0) 22 0 8) 27 0 3) 28 100 24)
theorem n_X2_init_19 {fr : Nat} {h : AH} (hf : 3 ≤ fr) (fz : frz 19 h) : Sp mX2_init false fr 14 159 [zR 19] 19 h (rF 33 (fun h9 => h9 = hX2_init_19 h)) := by
  refine Sp.mkF yX2_init_ok rfl rfl ?_
  show Wp _ _ _ _ 0 [zR 19] [] 19 _
  refine s_aload_n (x := 19) dX2_init_0 rfl ?_
  refine s_objInit dX2_init_1 we40 we33 we34 (by decide) (show 1 ≤ fr by omega) (Nat.le_of_ble_eq_true rfl) ?_
  refine s_aload_n (x := 19) dX2_init_4 rfl ?_
  refine s_bipush dX2_init_5 (by decide) ?_
  refine f_newarr (N := 8) (K := 100) dX2_init_7 we175 (Or.inl ⟨rfl, rfl⟩) rfl rfl rfl (by decide) (by decide) fz (fun fz => ?_)
  show Wp _ _ _ (13, 151) _ _ [zR 20, zR 19] 20 _
  refine f_putF (c := 19) (kz := 7) rfl dX2_init_9 iX2_9 ⟨by decide, by decide, rfl⟩ rfl (by decide) (by decide) (fun T C N e => by rw [tc_X2 e]; rfl) (by decide) fz (fun fz => ?_)
  refine s_aload_n (x := 19) dX2_init_12 rfl ?_
  refine s_bipush dX2_init_13 (by decide) ?_
  refine f_newarr (N := 8) (K := 100) dX2_init_15 we175 (Or.inl ⟨rfl, rfl⟩) rfl rfl rfl (by decide) (by decide) fz (fun fz => ?_)
  show Wp _ _ _ (12, 143) _ _ [zR 21, zR 19] 21 _
  refine f_putF (c := 19) (kz := 8) rfl dX2_init_17 iX2_15 ⟨by decide, by decide, rfl⟩ rfl (by decide) (by decide) (fun T C N e => by rw [tc_X2 e]; rfl) (by decide) fz (fun fz => ?_)
  refine s_aload_n (x := 19) dX2_init_20 rfl ?_
  refine s_bipush dX2_init_21 (by decide) ?_
  refine f_newarr (N := 8) (K := 100) dX2_init_23 we175 (Or.inl ⟨rfl, rfl⟩) rfl rfl rfl (by decide) (by decide) fz (fun fz => ?_)
  show Wp _ _ _ (11, 135) _ _ [zR 22, zR 19] 22 _
  refine f_putF (c := 19) (kz := 9) rfl dX2_init_25 iX2_18 ⟨by decide, by decide, rfl⟩ rfl (by decide) (by decide) (fun T C N e => by rw [tc_X2 e]; rfl) (by decide) fz (fun fz => ?_)
  refine s_aload_n (x := 19) dX2_init_28 rfl ?_
  refine s_bipush dX2_init_29 (by decide) ?_
  refine f_newarr (N := 18) (K := 100) dX2_init_31 we175 (Or.inl ⟨rfl, rfl⟩) rfl rfl rfl (by decide) (by decide) fz (fun fz => ?_)
  show Wp _ _ _ (10, 117) _ _ [zR 23, zR 19] 23 _
  refine f_putF (c := 19) (kz := 10) rfl dX2_init_33 iX2_21 ⟨by decide, by decide, rfl⟩ rfl (by decide) (by decide) (fun T C N e => by rw [tc_X2 e]; rfl) (by decide) fz (fun fz => ?_)
  refine s_aload_n (x := 19) dX2_init_36 rfl ?_
  refine s_bipush dX2_init_37 (by decide) ?_
  refine f_newarr (N := 6) (K := 100) dX2_init_39 we175 (Or.inl ⟨rfl, rfl⟩) rfl rfl rfl (by decide) (by decide) fz (fun fz => ?_)
  show Wp _ _ _ (9, 111) _ _ [zR 24, zR 19] 24 _
  refine f_putF (c := 19) (kz := 11) rfl dX2_init_41 iX2_24 ⟨by decide, by decide, rfl⟩ rfl (by decide) (by decide) (fun T C N e => by rw [tc_X2 e]; rfl) (by decide) fz (fun fz => ?_)
  refine s_aload_n (x := 19) dX2_init_44 rfl ?_
  refine s_bipush dX2_init_45 (by decide) ?_
  refine f_newarr (N := 6) (K := 100) dX2_init_47 we175 (Or.inl ⟨rfl, rfl⟩) rfl rfl rfl (by decide) (by decide) fz (fun fz => ?_)
  show Wp _ _ _ (8, 105) _ _ [zR 25, zR 19] 25 _
  refine f_putF (c := 19) (kz := 12) rfl dX2_init_49 iX2_27 ⟨by decide, by decide, rfl⟩ rfl (by decide) (by decide) (fun T C N e => by rw [tc_X2 e]; rfl) (by decide) fz (fun fz => ?_)
  refine s_aload_n (x := 19) dX2_init_52 rfl ?_
  refine s_bipush dX2_init_53 (by decide) ?_
  refine f_newarr (N := 6) (K := 100) dX2_init_55 we175 (Or.inl ⟨rfl, rfl⟩) rfl rfl rfl (by decide) (by decide) fz (fun fz => ?_)
  show Wp _ _ _ (7, 99) _ _ [zR 26, zR 19] 26 _
  refine f_putF (c := 19) (kz := 13) rfl dX2_init_57 iX2_30 ⟨by decide, by decide, rfl⟩ rfl (by decide) (by decide) (fun T C N e => by rw [tc_X2 e]; rfl) (by decide) fz (fun fz => ?_)
  refine s_aload_n (x := 19) dX2_init_60 rfl ?_
  refine s_iconst dX2_init_61 ?_
  refine f_newarr (N := 3) (K := 100) dX2_init_62 we175 (Or.inl ⟨rfl, rfl⟩) rfl rfl rfl (by decide) (by decide) fz (fun fz => ?_)
  show Wp _ _ _ (6, 96) _ _ [zR 27, zR 19] 27 _
  refine f_putF (c := 19) (kz := 14) rfl dX2_init_64 iX2_33 ⟨by decide, by decide, rfl⟩ rfl (by decide) (by decide) (fun T C N e => by rw [tc_X2 e]; rfl) (by decide) fz (fun fz => ?_)
  refine s_aload_n (x := 19) dX2_init_67 rfl ?_
  refine s_bipush dX2_init_68 (by decide) ?_
  refine f_newarr (N := 24) (K := 100) dX2_init_70 we175 (Or.inl ⟨rfl, rfl⟩) rfl rfl rfl (by decide) (by decide) fz (fun fz => ?_)
  show Wp _ _ _ (5, 72) _ _ [zR 28, zR 19] 28 _
  refine f_putF (c := 19) (kz := 15) rfl dX2_init_72 iX2_36 ⟨by decide, by decide, rfl⟩ rfl (by decide) (by decide) (fun T C N e => by rw [tc_X2 e]; rfl) (by decide) fz (fun fz => ?_)
  refine s_aload_n (x := 19) dX2_init_75 rfl ?_
  refine s_bipush dX2_init_76 (by decide) ?_
  refine f_newarr (N := 8) (K := 100) dX2_init_78 we175 (Or.inl ⟨rfl, rfl⟩) rfl rfl rfl (by decide) (by decide) fz (fun fz => ?_)
  show Wp _ _ _ (4, 64) _ _ [zR 29, zR 19] 29 _
  refine f_putF (c := 19) (kz := 16) rfl dX2_init_80 iX2_39 ⟨by decide, by decide, rfl⟩ rfl (by decide) (by decide) (fun T C N e => by rw [tc_X2 e]; rfl) (by decide) fz (fun fz => ?_)
  refine s_aload_n (x := 19) dX2_init_83 rfl ?_
  refine s_bipush dX2_init_84 (by decide) ?_
  refine f_newarr (N := 8) (K := 100) dX2_init_86 we175 (Or.inl ⟨rfl, rfl⟩) rfl rfl rfl (by decide) (by decide) fz (fun fz => ?_)
  show Wp _ _ _ (3, 56) _ _ [zR 30, zR 19] 30 _
  refine f_putF (c := 19) (kz := 17) rfl dX2_init_88 iX2_42 ⟨by decide, by decide, rfl⟩ rfl (by decide) (by decide) (fun T C N e => by rw [tc_X2 e]; rfl) (by decide) fz (fun fz => ?_)
  refine s_aload_n (x := 19) dX2_init_91 rfl ?_
  refine s_bipush dX2_init_92 (by decide) ?_
  refine f_newarr (N := 32) (K := 100) dX2_init_94 we175 (Or.inl ⟨rfl, rfl⟩) rfl rfl rfl (by decide) (by decide) fz (fun fz => ?_)
  show Wp _ _ _ (2, 24) _ _ [zR 31, zR 19] 31 _
  refine f_putF (c := 19) (kz := 18) rfl dX2_init_96 iX2_45 ⟨by decide, by decide, rfl⟩ rfl (by decide) (by decide) (fun T C N e => by rw [tc_X2 e]; rfl) (by decide) fz (fun fz => ?_)
  refine s_aload_n (x := 19) dX2_init_99 rfl ?_
  refine s_bipush dX2_init_100 (by decide) ?_
  refine f_newarr (N := 6) (K := 100) dX2_init_102 we175 (Or.inl ⟨rfl, rfl⟩) rfl rfl rfl (by decide) (by decide) fz (fun fz => ?_)
  show Wp _ _ _ (1, 18) _ _ [zR 32, zR 19] 32 _
  refine f_putF (c := 19) (kz := 19) rfl dX2_init_104 iX2_48 ⟨by decide, by decide, rfl⟩ rfl (by decide) (by decide) (fun T C N e => by rw [tc_X2 e]; rfl) (by decide) fz (fun fz => ?_)
  refine s_aload_n (x := 19) dX2_init_107 rfl ?_
  refine s_bipush dX2_init_108 (by decide) ?_
  refine f_newarr (N := 18) (K := 100) dX2_init_110 we175 (Or.inl ⟨rfl, rfl⟩) rfl rfl rfl (by decide) (by decide) fz (fun fz => ?_)
  show Wp _ _ _ (0, 0) _ _ [zR 33, zR 19] 33 _
  refine f_putF (c := 19) (kz := 20) rfl dX2_init_112 iX2_51 ⟨by decide, by decide, rfl⟩ rfl (by decide) (by decide) (fun T C N e => by rw [tc_X2 e]; rfl) (by decide) fz (fun fz => ?_)
  refine s_aload_n (x := 19) dX2_init_115 rfl ?_
  refine s_callV (as := []) (st := []) (o := 19) dX2_init_116 gX2_54 rfl ⟨2, 21, TX2, ⟨by decide, by decide, rfl⟩, rfl, by decide⟩ rfl rfl (Nat.le_of_ble_eq_true rfl) (n_X2_clear_19 (fr := fr - 1) (by omega) fz (show (up (up (up (up (up (up (up (up (up (up (up (up (up (up h 19 7 1) 19 8 1) 19 9 1) 19 10 1) 19 11 1) 19 12 1) 19 13 1) 19 14 1) 19 15 1) 19 16 1) 19 17 1) 19 18 1) 19 19 1) 19 20 1) 19 9 ≠ 0 by rw [up_cn (by decide), up_cn (by decide), up_cn (by decide), up_cn (by decide), up_cn (by decide), up_cn (by decide), up_cn (by decide), up_cn (by decide), up_cn (by decide), up_cn (by decide), up_cn (by decide), up_ci]; decide) (show (up (up (up (up (up (up (up (up (up (up (up (up (up (up h 19 7 1) 19 8 1) 19 9 1) 19 10 1) 19 11 1) 19 12 1) 19 13 1) 19 14 1) 19 15 1) 19 16 1) 19 17 1) 19 18 1) 19 19 1) 19 20 1) 19 14 ≠ 0 by rw [up_cn (by decide), up_cn (by decide), up_cn (by decide), up_cn (by decide), up_cn (by decide), up_cn (by decide), up_ci]; decide) (show (up (up (up (up (up (up (up (up (up (up (up (up (up (up h 19 7 1) 19 8 1) 19 9 1) 19 10 1) 19 11 1) 19 12 1) 19 13 1) 19 14 1) 19 15 1) 19 16 1) 19 17 1) 19 18 1) 19 19 1) 19 20 1) 19 15 ≠ 0 by rw [up_cn (by decide), up_cn (by decide), up_cn (by decide), up_cn (by decide), up_cn (by decide), up_ci]; decide)) (show fr - 1 + 1 ≤ fr by omega) (by decide) (by decide) (fun v n9 h9 hP _ => ?_) (fun E n9 h9 z _ => by cases z)
  obtain ⟨z1, z2, fz, z3⟩ := hP
  cases z1; subst z2; subst z3
  show Wp _ _ _ (0, 0) _ _ [] 33 _
  exact s_return dX2_init_119 rfl ⟨rfl, rfl, fz, rfl⟩ (fun _ => by decide)
theorem n_X8_clearSaid_34 {fr : Nat} {h : AH} (hf : 2 ≤ fr) (fz : frz 39 h) (f34_0 : h 34 0 ≠ 0) : Sp mX8_clearSaid false fr 0 0 [zR 34] 39 h (rF 39 (fun h9 => h9 = (up (fil h 35 0 200) 34 1 0))) := by
  refine Sp.mkF yX8_clearSaid_ok rfl rfl ?_
  show Wp _ _ _ _ 0 [zR 34] [] 39 _
  refine s_aload_n (x := 34) dX8_clearSaid_0 rfl ?_
  refine s_getFd (c := 34) (d := 35) dX8_clearSaid_1 iX8_9 ⟨by decide, by decide, rfl⟩ (Or.inr f34_0) (by decide) (by decide) ?_
  refine s_iconst dX8_clearSaid_4 ?_
  refine s_callS (as := [zR 35, zI 0]) (st := []) dX8_clearSaid_5 gX8_36 rfl rfl (Nat.le_of_ble_eq_true rfl) (n_fill (fr := fr - 1) (N := 200) ⟨by decide, by decide, rfl⟩ (by decide) fz) (show fr - 1 + 1 ≤ fr by omega) (by decide) (by decide) (fun v n9 h9 hP _ => ?_) (fun E n9 h9 z _ => by cases z)
  obtain ⟨z1, z2, fz, z3⟩ := hP
  cases z1; subst z2; subst z3
  show Wp _ _ _ _ _ _ [] 39 _
  refine s_aload_n (x := 34) dX8_clearSaid_8 rfl ?_
  refine s_iconst dX8_clearSaid_9 ?_
  refine f_put (c := 34) (kz := 1) rfl dX8_clearSaid_10 iX8_46 ⟨by decide, by decide, rfl⟩ (by decide) fz (fun fz => ?_)
  exact s_return dX8_clearSaid_13 rfl ⟨rfl, rfl, fz, rfl⟩ (fun _ => by decide)
theorem n_X8_clearTold_34 {fr : Nat} {h : AH} (hf : 2 ≤ fr) (fz : frz 39 h) (f34_2 : h 34 2 ≠ 0) : Sp mX8_clearTold false fr 0 0 [zR 34] 39 h (rF 39 (fun h9 => h9 = (up (fil h 36 (-1) 60) 34 3 0))) := by
  refine Sp.mkF yX8_clearTold_ok rfl rfl ?_
  show Wp _ _ _ _ 0 [zR 34] [] 39 _
  refine s_aload_n (x := 34) dX8_clearTold_0 rfl ?_
  refine s_getFd (c := 34) (d := 36) dX8_clearTold_1 iX8_15 ⟨by decide, by decide, rfl⟩ (Or.inr f34_2) (by decide) (by decide) ?_
  refine s_iconst dX8_clearTold_4 ?_
  refine s_callS (as := [zR 36, zI (-1)]) (st := []) dX8_clearTold_5 gX8_36 rfl rfl (Nat.le_of_ble_eq_true rfl) (n_fill (fr := fr - 1) (N := 60) ⟨by decide, by decide, rfl⟩ (by decide) fz) (show fr - 1 + 1 ≤ fr by omega) (by decide) (by decide) (fun v n9 h9 hP _ => ?_) (fun E n9 h9 z _ => by cases z)
  obtain ⟨z1, z2, fz, z3⟩ := hP
  cases z1; subst z2; subst z3
  show Wp _ _ _ _ _ _ [] 39 _
  refine s_aload_n (x := 34) dX8_clearTold_8 rfl ?_
  refine s_iconst dX8_clearTold_9 ?_
  refine f_put (c := 34) (kz := 3) rfl dX8_clearTold_10 iX8_49 ⟨by decide, by decide, rfl⟩ (by decide) fz (fun fz => ?_)
  exact s_return dX8_clearTold_13 rfl ⟨rfl, rfl, fz, rfl⟩ (fun _ => by decide)
theorem n_X8_clear_34 {fr : Nat} {h : AH} (hf : 3 ≤ fr) (fz : frz 39 h) (f34_0 : h 34 0 ≠ 0) (f34_2 : h 34 2 ≠ 0) (f34_4 : h 34 4 ≠ 0) (f34_6 : h 34 6 ≠ 0) (f34_7 : h 34 7 ≠ 0) : Sp mX8_clear false fr 0 0 [zR 34] 39 h (rF 39 (fun h9 => h9 = (fil (fil (up (fil (up (fil (up (fil h 35 0 200) 34 1 0) 36 (-1) 60) 34 3 0) 37 (-1) 16) 34 5 0) 38 0 3) 39 0 3))) := by
  refine Sp.mkF yX8_clear_ok rfl rfl ?_
  show Wp _ _ _ _ 0 [zR 34] [] 39 _
  refine s_aload_n (x := 34) dX8_clear_0 rfl ?_
  refine s_callV (as := []) (st := []) (o := 34) dX8_clear_1 gX8_30 rfl ⟨8, 8, TX8, ⟨by decide, by decide, rfl⟩, rfl, by decide⟩ rfl rfl (Nat.le_of_ble_eq_true rfl) (n_X8_clearSaid_34 (fr := fr - 1) (by omega) fz f34_0) (show fr - 1 + 1 ≤ fr by omega) (by decide) (by decide) (fun v n9 h9 hP _ => ?_) (fun E n9 h9 z _ => by cases z)
  obtain ⟨z1, z2, fz, z3⟩ := hP
  cases z1; subst z2; subst z3
  show Wp _ _ _ _ _ _ [] 39 _
  refine s_aload_n (x := 34) dX8_clear_4 rfl ?_
  refine s_callV (as := []) (st := []) (o := 34) dX8_clear_5 gX8_33 rfl ⟨8, 8, TX8, ⟨by decide, by decide, rfl⟩, rfl, by decide⟩ rfl rfl (Nat.le_of_ble_eq_true rfl) (n_X8_clearTold_34 (fr := fr - 1) (by omega) fz (show (up (fil h 35 0 200) 34 1 0) 34 2 ≠ 0 by rw [up_cn (by decide), fil_nn (by decide)]; exact f34_2)) (show fr - 1 + 1 ≤ fr by omega) (by decide) (by decide) (fun v n9 h9 hP _ => ?_) (fun E n9 h9 z _ => by cases z)
  obtain ⟨z1, z2, fz, z3⟩ := hP
  cases z1; subst z2; subst z3
  show Wp _ _ _ _ _ _ [] 39 _
  refine s_aload_n (x := 34) dX8_clear_8 rfl ?_
  refine s_getFd (c := 34) (d := 37) dX8_clear_9 iX8_18 ⟨by decide, by decide, rfl⟩ (Or.inr (show (up (fil (up (fil h 35 0 200) 34 1 0) 36 (-1) 60) 34 3 0) 34 4 ≠ 0 by rw [up_cn (by decide), fil_nn (by decide), up_cn (by decide), fil_nn (by decide)]; exact f34_4)) (by decide) (by decide) ?_
  refine s_iconst dX8_clear_12 ?_
  refine s_callS (as := [zR 37, zI (-1)]) (st := []) dX8_clear_13 gX8_36 rfl rfl (Nat.le_of_ble_eq_true rfl) (n_fill (fr := fr - 1) (N := 16) ⟨by decide, by decide, rfl⟩ (by decide) fz) (show fr - 1 + 1 ≤ fr by omega) (by decide) (by decide) (fun v n9 h9 hP _ => ?_) (fun E n9 h9 z _ => by cases z)
  obtain ⟨z1, z2, fz, z3⟩ := hP
  cases z1; subst z2; subst z3
  show Wp _ _ _ _ _ _ [] 39 _
  refine s_aload_n (x := 34) dX8_clear_16 rfl ?_
  refine s_iconst dX8_clear_17 ?_
  refine f_put (c := 34) (kz := 5) rfl dX8_clear_18 iX8_42 ⟨by decide, by decide, rfl⟩ (by decide) fz (fun fz => ?_)
  refine s_aload_n (x := 34) dX8_clear_21 rfl ?_
  refine s_getFd (c := 34) (d := 38) dX8_clear_22 iX8_21 ⟨by decide, by decide, rfl⟩ (Or.inr (show (up (fil (up (fil (up (fil h 35 0 200) 34 1 0) 36 (-1) 60) 34 3 0) 37 (-1) 16) 34 5 0) 34 6 ≠ 0 by rw [up_cn (by decide), fil_nn (by decide), up_cn (by decide), fil_nn (by decide), up_cn (by decide), fil_nn (by decide)]; exact f34_6)) (by decide) (by decide) ?_
  refine s_iconst dX8_clear_25 ?_
  refine s_callS (as := [zR 38, zI 0]) (st := []) dX8_clear_26 gX8_36 rfl rfl (Nat.le_of_ble_eq_true rfl) (n_fill (fr := fr - 1) (N := 3) ⟨by decide, by decide, rfl⟩ (by decide) fz) (show fr - 1 + 1 ≤ fr by omega) (by decide) (by decide) (fun v n9 h9 hP _ => ?_) (fun E n9 h9 z _ => by cases z)
  obtain ⟨z1, z2, fz, z3⟩ := hP
  cases z1; subst z2; subst z3
  show Wp _ _ _ _ _ _ [] 39 _
  refine s_aload_n (x := 34) dX8_clear_29 rfl ?_
  refine s_getFd (c := 34) (d := 39) dX8_clear_30 iX8_24 ⟨by decide, by decide, rfl⟩ (Or.inr (show (fil (up (fil (up (fil (up (fil h 35 0 200) 34 1 0) 36 (-1) 60) 34 3 0) 37 (-1) 16) 34 5 0) 38 0 3) 34 7 ≠ 0 by rw [fil_nn (by decide), up_cn (by decide), fil_nn (by decide), up_cn (by decide), fil_nn (by decide), up_cn (by decide), fil_nn (by decide)]; exact f34_7)) (by decide) (by decide) ?_
  refine s_iconst dX8_clear_33 ?_
  refine s_callS (as := [zR 39, zI 0]) (st := []) dX8_clear_34 gX8_36 rfl rfl (Nat.le_of_ble_eq_true rfl) (n_fill (fr := fr - 1) (N := 3) ⟨by decide, by decide, rfl⟩ (by decide) fz) (show fr - 1 + 1 ≤ fr by omega) (by decide) (by decide) (fun v n9 h9 hP _ => ?_) (fun E n9 h9 z _ => by cases z)
  obtain ⟨z1, z2, fz, z3⟩ := hP
  cases z1; subst z2; subst z3
  show Wp _ _ _ _ _ _ [] 39 _
  exact s_return dX8_clear_37 rfl ⟨rfl, rfl, fz, rfl⟩ (fun _ => by decide)
def hX8_init_34 (h : AH) : AH := (fil (fil (up (fil (up (fil (up (fil (up (up (up (up (up h 34 0 1) 34 2 1) 34 4 1) 34 6 1) 34 7 1) 35 0 200) 34 1 0) 36 (-1) 60) 34 3 0) 37 (-1) 16) 34 5 0) 38 0 3) 39 0 3)
theorem n_X8_init_34 {fr : Nat} {h : AH} (hf : 4 ≤ fr) (fz : frz 34 h) : Sp mX8_init false fr 5 282 [zR 34] 34 h (rF 39 (fun h9 => h9 = hX8_init_34 h)) := by
  refine Sp.mkF yX8_init_ok rfl rfl ?_
  show Wp _ _ _ _ 0 [zR 34] [] 34 _
  refine s_aload_n (x := 34) dX8_init_0 rfl ?_
  refine s_objInit dX8_init_1 we181 we33 we34 (by decide) (show 1 ≤ fr by omega) (Nat.le_of_ble_eq_true rfl) ?_
  refine s_aload_n (x := 34) dX8_init_4 rfl ?_
  refine s_sipush dX8_init_5 (by decide) ?_
  refine f_newarr (N := 200) (K := 100) dX8_init_8 we175 (Or.inl ⟨rfl, rfl⟩) rfl rfl rfl (by decide) (by decide) fz (fun fz => ?_)
  show Wp _ _ _ (4, 82) _ _ [zR 35, zR 34] 35 _
  refine f_putF (c := 34) (kz := 0) rfl dX8_init_10 iX8_9 ⟨by decide, by decide, rfl⟩ rfl (by decide) (by decide) (fun T C N e => by rw [tc_X8 e]; rfl) (by decide) fz (fun fz => ?_)
  refine s_aload_n (x := 34) dX8_init_13 rfl ?_
  refine s_bipush dX8_init_14 (by decide) ?_
  refine f_newarr (N := 60) (K := 100) dX8_init_16 we175 (Or.inl ⟨rfl, rfl⟩) rfl rfl rfl (by decide) (by decide) fz (fun fz => ?_)
  show Wp _ _ _ (3, 22) _ _ [zR 36, zR 34] 36 _
  refine f_putF (c := 34) (kz := 2) rfl dX8_init_18 iX8_15 ⟨by decide, by decide, rfl⟩ rfl (by decide) (by decide) (fun T C N e => by rw [tc_X8 e]; rfl) (by decide) fz (fun fz => ?_)
  refine s_aload_n (x := 34) dX8_init_21 rfl ?_
  refine s_bipush dX8_init_22 (by decide) ?_
  refine f_newarr (N := 16) (K := 100) dX8_init_24 we175 (Or.inl ⟨rfl, rfl⟩) rfl rfl rfl (by decide) (by decide) fz (fun fz => ?_)
  show Wp _ _ _ (2, 6) _ _ [zR 37, zR 34] 37 _
  refine f_putF (c := 34) (kz := 4) rfl dX8_init_26 iX8_18 ⟨by decide, by decide, rfl⟩ rfl (by decide) (by decide) (fun T C N e => by rw [tc_X8 e]; rfl) (by decide) fz (fun fz => ?_)
  refine s_aload_n (x := 34) dX8_init_29 rfl ?_
  refine s_iconst dX8_init_30 ?_
  refine f_newarr (N := 3) (K := 100) dX8_init_31 we175 (Or.inl ⟨rfl, rfl⟩) rfl rfl rfl (by decide) (by decide) fz (fun fz => ?_)
  show Wp _ _ _ (1, 3) _ _ [zR 38, zR 34] 38 _
  refine f_putF (c := 34) (kz := 6) rfl dX8_init_33 iX8_21 ⟨by decide, by decide, rfl⟩ rfl (by decide) (by decide) (fun T C N e => by rw [tc_X8 e]; rfl) (by decide) fz (fun fz => ?_)
  refine s_aload_n (x := 34) dX8_init_36 rfl ?_
  refine s_iconst dX8_init_37 ?_
  refine f_newarr (N := 3) (K := 100) dX8_init_38 we175 (Or.inl ⟨rfl, rfl⟩) rfl rfl rfl (by decide) (by decide) fz (fun fz => ?_)
  show Wp _ _ _ (0, 0) _ _ [zR 39, zR 34] 39 _
  refine f_putF (c := 34) (kz := 7) rfl dX8_init_40 iX8_24 ⟨by decide, by decide, rfl⟩ rfl (by decide) (by decide) (fun T C N e => by rw [tc_X8 e]; rfl) (by decide) fz (fun fz => ?_)
  refine s_aload_n (x := 34) dX8_init_43 rfl ?_
  refine s_callV (as := []) (st := []) (o := 34) dX8_init_44 gX8_27 rfl ⟨8, 8, TX8, ⟨by decide, by decide, rfl⟩, rfl, by decide⟩ rfl rfl (Nat.le_of_ble_eq_true rfl) (n_X8_clear_34 (fr := fr - 1) (by omega) fz (show (up (up (up (up (up h 34 0 1) 34 2 1) 34 4 1) 34 6 1) 34 7 1) 34 0 ≠ 0 by rw [up_cn (by decide), up_cn (by decide), up_cn (by decide), up_cn (by decide), up_ci]; decide) (show (up (up (up (up (up h 34 0 1) 34 2 1) 34 4 1) 34 6 1) 34 7 1) 34 2 ≠ 0 by rw [up_cn (by decide), up_cn (by decide), up_cn (by decide), up_ci]; decide) (show (up (up (up (up (up h 34 0 1) 34 2 1) 34 4 1) 34 6 1) 34 7 1) 34 4 ≠ 0 by rw [up_cn (by decide), up_cn (by decide), up_ci]; decide) (show (up (up (up (up (up h 34 0 1) 34 2 1) 34 4 1) 34 6 1) 34 7 1) 34 6 ≠ 0 by rw [up_cn (by decide), up_ci]; decide) (show (up (up (up (up (up h 34 0 1) 34 2 1) 34 4 1) 34 6 1) 34 7 1) 34 7 ≠ 0 by rw [up_ci]; decide)) (show fr - 1 + 1 ≤ fr by omega) (by decide) (by decide) (fun v n9 h9 hP _ => ?_) (fun E n9 h9 z _ => by cases z)
  obtain ⟨z1, z2, fz, z3⟩ := hP
  cases z1; subst z2; subst z3
  show Wp _ _ _ (0, 0) _ _ [] 39 _
  exact s_return dX8_init_47 rfl ⟨rfl, rfl, fz, rfl⟩ (fun _ => by decide)
theorem n_X8_clearSaid_40 {fr : Nat} {h : AH} (hf : 2 ≤ fr) (fz : frz 45 h) (f40_0 : h 40 0 ≠ 0) : Sp mX8_clearSaid false fr 0 0 [zR 40] 45 h (rF 45 (fun h9 => h9 = (up (fil h 41 0 200) 40 1 0))) := by
  refine Sp.mkF yX8_clearSaid_ok rfl rfl ?_
  show Wp _ _ _ _ 0 [zR 40] [] 45 _
  refine s_aload_n (x := 40) dX8_clearSaid_0 rfl ?_
  refine s_getFd (c := 40) (d := 41) dX8_clearSaid_1 iX8_9 ⟨by decide, by decide, rfl⟩ (Or.inr f40_0) (by decide) (by decide) ?_
  refine s_iconst dX8_clearSaid_4 ?_
  refine s_callS (as := [zR 41, zI 0]) (st := []) dX8_clearSaid_5 gX8_36 rfl rfl (Nat.le_of_ble_eq_true rfl) (n_fill (fr := fr - 1) (N := 200) ⟨by decide, by decide, rfl⟩ (by decide) fz) (show fr - 1 + 1 ≤ fr by omega) (by decide) (by decide) (fun v n9 h9 hP _ => ?_) (fun E n9 h9 z _ => by cases z)
  obtain ⟨z1, z2, fz, z3⟩ := hP
  cases z1; subst z2; subst z3
  show Wp _ _ _ _ _ _ [] 45 _
  refine s_aload_n (x := 40) dX8_clearSaid_8 rfl ?_
  refine s_iconst dX8_clearSaid_9 ?_
  refine f_put (c := 40) (kz := 1) rfl dX8_clearSaid_10 iX8_46 ⟨by decide, by decide, rfl⟩ (by decide) fz (fun fz => ?_)
  exact s_return dX8_clearSaid_13 rfl ⟨rfl, rfl, fz, rfl⟩ (fun _ => by decide)
theorem n_X8_clearTold_40 {fr : Nat} {h : AH} (hf : 2 ≤ fr) (fz : frz 45 h) (f40_2 : h 40 2 ≠ 0) : Sp mX8_clearTold false fr 0 0 [zR 40] 45 h (rF 45 (fun h9 => h9 = (up (fil h 42 (-1) 60) 40 3 0))) := by
  refine Sp.mkF yX8_clearTold_ok rfl rfl ?_
  show Wp _ _ _ _ 0 [zR 40] [] 45 _
  refine s_aload_n (x := 40) dX8_clearTold_0 rfl ?_
  refine s_getFd (c := 40) (d := 42) dX8_clearTold_1 iX8_15 ⟨by decide, by decide, rfl⟩ (Or.inr f40_2) (by decide) (by decide) ?_
  refine s_iconst dX8_clearTold_4 ?_
  refine s_callS (as := [zR 42, zI (-1)]) (st := []) dX8_clearTold_5 gX8_36 rfl rfl (Nat.le_of_ble_eq_true rfl) (n_fill (fr := fr - 1) (N := 60) ⟨by decide, by decide, rfl⟩ (by decide) fz) (show fr - 1 + 1 ≤ fr by omega) (by decide) (by decide) (fun v n9 h9 hP _ => ?_) (fun E n9 h9 z _ => by cases z)
  obtain ⟨z1, z2, fz, z3⟩ := hP
  cases z1; subst z2; subst z3
  show Wp _ _ _ _ _ _ [] 45 _
  refine s_aload_n (x := 40) dX8_clearTold_8 rfl ?_
  refine s_iconst dX8_clearTold_9 ?_
  refine f_put (c := 40) (kz := 3) rfl dX8_clearTold_10 iX8_49 ⟨by decide, by decide, rfl⟩ (by decide) fz (fun fz => ?_)
  exact s_return dX8_clearTold_13 rfl ⟨rfl, rfl, fz, rfl⟩ (fun _ => by decide)
theorem n_X8_clear_40 {fr : Nat} {h : AH} (hf : 3 ≤ fr) (fz : frz 45 h) (f40_0 : h 40 0 ≠ 0) (f40_2 : h 40 2 ≠ 0) (f40_4 : h 40 4 ≠ 0) (f40_6 : h 40 6 ≠ 0) (f40_7 : h 40 7 ≠ 0) : Sp mX8_clear false fr 0 0 [zR 40] 45 h (rF 45 (fun h9 => h9 = (fil (fil (up (fil (up (fil (up (fil h 41 0 200) 40 1 0) 42 (-1) 60) 40 3 0) 43 (-1) 16) 40 5 0) 44 0 3) 45 0 3))) := by
  refine Sp.mkF yX8_clear_ok rfl rfl ?_
  show Wp _ _ _ _ 0 [zR 40] [] 45 _
  refine s_aload_n (x := 40) dX8_clear_0 rfl ?_
  refine s_callV (as := []) (st := []) (o := 40) dX8_clear_1 gX8_30 rfl ⟨8, 8, TX8, ⟨by decide, by decide, rfl⟩, rfl, by decide⟩ rfl rfl (Nat.le_of_ble_eq_true rfl) (n_X8_clearSaid_40 (fr := fr - 1) (by omega) fz f40_0) (show fr - 1 + 1 ≤ fr by omega) (by decide) (by decide) (fun v n9 h9 hP _ => ?_) (fun E n9 h9 z _ => by cases z)
  obtain ⟨z1, z2, fz, z3⟩ := hP
  cases z1; subst z2; subst z3
  show Wp _ _ _ _ _ _ [] 45 _
  refine s_aload_n (x := 40) dX8_clear_4 rfl ?_
  refine s_callV (as := []) (st := []) (o := 40) dX8_clear_5 gX8_33 rfl ⟨8, 8, TX8, ⟨by decide, by decide, rfl⟩, rfl, by decide⟩ rfl rfl (Nat.le_of_ble_eq_true rfl) (n_X8_clearTold_40 (fr := fr - 1) (by omega) fz (show (up (fil h 41 0 200) 40 1 0) 40 2 ≠ 0 by rw [up_cn (by decide), fil_nn (by decide)]; exact f40_2)) (show fr - 1 + 1 ≤ fr by omega) (by decide) (by decide) (fun v n9 h9 hP _ => ?_) (fun E n9 h9 z _ => by cases z)
  obtain ⟨z1, z2, fz, z3⟩ := hP
  cases z1; subst z2; subst z3
  show Wp _ _ _ _ _ _ [] 45 _
  refine s_aload_n (x := 40) dX8_clear_8 rfl ?_
  refine s_getFd (c := 40) (d := 43) dX8_clear_9 iX8_18 ⟨by decide, by decide, rfl⟩ (Or.inr (show (up (fil (up (fil h 41 0 200) 40 1 0) 42 (-1) 60) 40 3 0) 40 4 ≠ 0 by rw [up_cn (by decide), fil_nn (by decide), up_cn (by decide), fil_nn (by decide)]; exact f40_4)) (by decide) (by decide) ?_
  refine s_iconst dX8_clear_12 ?_
  refine s_callS (as := [zR 43, zI (-1)]) (st := []) dX8_clear_13 gX8_36 rfl rfl (Nat.le_of_ble_eq_true rfl) (n_fill (fr := fr - 1) (N := 16) ⟨by decide, by decide, rfl⟩ (by decide) fz) (show fr - 1 + 1 ≤ fr by omega) (by decide) (by decide) (fun v n9 h9 hP _ => ?_) (fun E n9 h9 z _ => by cases z)
  obtain ⟨z1, z2, fz, z3⟩ := hP
  cases z1; subst z2; subst z3
  show Wp _ _ _ _ _ _ [] 45 _
  refine s_aload_n (x := 40) dX8_clear_16 rfl ?_
  refine s_iconst dX8_clear_17 ?_
  refine f_put (c := 40) (kz := 5) rfl dX8_clear_18 iX8_42 ⟨by decide, by decide, rfl⟩ (by decide) fz (fun fz => ?_)
  refine s_aload_n (x := 40) dX8_clear_21 rfl ?_
  refine s_getFd (c := 40) (d := 44) dX8_clear_22 iX8_21 ⟨by decide, by decide, rfl⟩ (Or.inr (show (up (fil (up (fil (up (fil h 41 0 200) 40 1 0) 42 (-1) 60) 40 3 0) 43 (-1) 16) 40 5 0) 40 6 ≠ 0 by rw [up_cn (by decide), fil_nn (by decide), up_cn (by decide), fil_nn (by decide), up_cn (by decide), fil_nn (by decide)]; exact f40_6)) (by decide) (by decide) ?_
  refine s_iconst dX8_clear_25 ?_
  refine s_callS (as := [zR 44, zI 0]) (st := []) dX8_clear_26 gX8_36 rfl rfl (Nat.le_of_ble_eq_true rfl) (n_fill (fr := fr - 1) (N := 3) ⟨by decide, by decide, rfl⟩ (by decide) fz) (show fr - 1 + 1 ≤ fr by omega) (by decide) (by decide) (fun v n9 h9 hP _ => ?_) (fun E n9 h9 z _ => by cases z)
  obtain ⟨z1, z2, fz, z3⟩ := hP
  cases z1; subst z2; subst z3
  show Wp _ _ _ _ _ _ [] 45 _
  refine s_aload_n (x := 40) dX8_clear_29 rfl ?_
  refine s_getFd (c := 40) (d := 45) dX8_clear_30 iX8_24 ⟨by decide, by decide, rfl⟩ (Or.inr (show (fil (up (fil (up (fil (up (fil h 41 0 200) 40 1 0) 42 (-1) 60) 40 3 0) 43 (-1) 16) 40 5 0) 44 0 3) 40 7 ≠ 0 by rw [fil_nn (by decide), up_cn (by decide), fil_nn (by decide), up_cn (by decide), fil_nn (by decide), up_cn (by decide), fil_nn (by decide)]; exact f40_7)) (by decide) (by decide) ?_
  refine s_iconst dX8_clear_33 ?_
  refine s_callS (as := [zR 45, zI 0]) (st := []) dX8_clear_34 gX8_36 rfl rfl (Nat.le_of_ble_eq_true rfl) (n_fill (fr := fr - 1) (N := 3) ⟨by decide, by decide, rfl⟩ (by decide) fz) (show fr - 1 + 1 ≤ fr by omega) (by decide) (by decide) (fun v n9 h9 hP _ => ?_) (fun E n9 h9 z _ => by cases z)
  obtain ⟨z1, z2, fz, z3⟩ := hP
  cases z1; subst z2; subst z3
  show Wp _ _ _ _ _ _ [] 45 _
  exact s_return dX8_clear_37 rfl ⟨rfl, rfl, fz, rfl⟩ (fun _ => by decide)
def hX8_init_40 (h : AH) : AH := (fil (fil (up (fil (up (fil (up (fil (up (up (up (up (up h 40 0 1) 40 2 1) 40 4 1) 40 6 1) 40 7 1) 41 0 200) 40 1 0) 42 (-1) 60) 40 3 0) 43 (-1) 16) 40 5 0) 44 0 3) 45 0 3)
theorem n_X8_init_40 {fr : Nat} {h : AH} (hf : 4 ≤ fr) (fz : frz 40 h) : Sp mX8_init false fr 5 282 [zR 40] 40 h (rF 45 (fun h9 => h9 = hX8_init_40 h)) := by
  refine Sp.mkF yX8_init_ok rfl rfl ?_
  show Wp _ _ _ _ 0 [zR 40] [] 40 _
  refine s_aload_n (x := 40) dX8_init_0 rfl ?_
  refine s_objInit dX8_init_1 we181 we33 we34 (by decide) (show 1 ≤ fr by omega) (Nat.le_of_ble_eq_true rfl) ?_
  refine s_aload_n (x := 40) dX8_init_4 rfl ?_
  refine s_sipush dX8_init_5 (by decide) ?_
  refine f_newarr (N := 200) (K := 100) dX8_init_8 we175 (Or.inl ⟨rfl, rfl⟩) rfl rfl rfl (by decide) (by decide) fz (fun fz => ?_)
  show Wp _ _ _ (4, 82) _ _ [zR 41, zR 40] 41 _
  refine f_putF (c := 40) (kz := 0) rfl dX8_init_10 iX8_9 ⟨by decide, by decide, rfl⟩ rfl (by decide) (by decide) (fun T C N e => by rw [tc_X8 e]; rfl) (by decide) fz (fun fz => ?_)
  refine s_aload_n (x := 40) dX8_init_13 rfl ?_
  refine s_bipush dX8_init_14 (by decide) ?_
  refine f_newarr (N := 60) (K := 100) dX8_init_16 we175 (Or.inl ⟨rfl, rfl⟩) rfl rfl rfl (by decide) (by decide) fz (fun fz => ?_)
  show Wp _ _ _ (3, 22) _ _ [zR 42, zR 40] 42 _
  refine f_putF (c := 40) (kz := 2) rfl dX8_init_18 iX8_15 ⟨by decide, by decide, rfl⟩ rfl (by decide) (by decide) (fun T C N e => by rw [tc_X8 e]; rfl) (by decide) fz (fun fz => ?_)
  refine s_aload_n (x := 40) dX8_init_21 rfl ?_
  refine s_bipush dX8_init_22 (by decide) ?_
  refine f_newarr (N := 16) (K := 100) dX8_init_24 we175 (Or.inl ⟨rfl, rfl⟩) rfl rfl rfl (by decide) (by decide) fz (fun fz => ?_)
  show Wp _ _ _ (2, 6) _ _ [zR 43, zR 40] 43 _
  refine f_putF (c := 40) (kz := 4) rfl dX8_init_26 iX8_18 ⟨by decide, by decide, rfl⟩ rfl (by decide) (by decide) (fun T C N e => by rw [tc_X8 e]; rfl) (by decide) fz (fun fz => ?_)
  refine s_aload_n (x := 40) dX8_init_29 rfl ?_
  refine s_iconst dX8_init_30 ?_
  refine f_newarr (N := 3) (K := 100) dX8_init_31 we175 (Or.inl ⟨rfl, rfl⟩) rfl rfl rfl (by decide) (by decide) fz (fun fz => ?_)
  show Wp _ _ _ (1, 3) _ _ [zR 44, zR 40] 44 _
  refine f_putF (c := 40) (kz := 6) rfl dX8_init_33 iX8_21 ⟨by decide, by decide, rfl⟩ rfl (by decide) (by decide) (fun T C N e => by rw [tc_X8 e]; rfl) (by decide) fz (fun fz => ?_)
  refine s_aload_n (x := 40) dX8_init_36 rfl ?_
  refine s_iconst dX8_init_37 ?_
  refine f_newarr (N := 3) (K := 100) dX8_init_38 we175 (Or.inl ⟨rfl, rfl⟩) rfl rfl rfl (by decide) (by decide) fz (fun fz => ?_)
  show Wp _ _ _ (0, 0) _ _ [zR 45, zR 40] 45 _
  refine f_putF (c := 40) (kz := 7) rfl dX8_init_40 iX8_24 ⟨by decide, by decide, rfl⟩ rfl (by decide) (by decide) (fun T C N e => by rw [tc_X8 e]; rfl) (by decide) fz (fun fz => ?_)
  refine s_aload_n (x := 40) dX8_init_43 rfl ?_
  refine s_callV (as := []) (st := []) (o := 40) dX8_init_44 gX8_27 rfl ⟨8, 8, TX8, ⟨by decide, by decide, rfl⟩, rfl, by decide⟩ rfl rfl (Nat.le_of_ble_eq_true rfl) (n_X8_clear_40 (fr := fr - 1) (by omega) fz (show (up (up (up (up (up h 40 0 1) 40 2 1) 40 4 1) 40 6 1) 40 7 1) 40 0 ≠ 0 by rw [up_cn (by decide), up_cn (by decide), up_cn (by decide), up_cn (by decide), up_ci]; decide) (show (up (up (up (up (up h 40 0 1) 40 2 1) 40 4 1) 40 6 1) 40 7 1) 40 2 ≠ 0 by rw [up_cn (by decide), up_cn (by decide), up_cn (by decide), up_ci]; decide) (show (up (up (up (up (up h 40 0 1) 40 2 1) 40 4 1) 40 6 1) 40 7 1) 40 4 ≠ 0 by rw [up_cn (by decide), up_cn (by decide), up_ci]; decide) (show (up (up (up (up (up h 40 0 1) 40 2 1) 40 4 1) 40 6 1) 40 7 1) 40 6 ≠ 0 by rw [up_cn (by decide), up_ci]; decide) (show (up (up (up (up (up h 40 0 1) 40 2 1) 40 4 1) 40 6 1) 40 7 1) 40 7 ≠ 0 by rw [up_ci]; decide)) (show fr - 1 + 1 ≤ fr by omega) (by decide) (by decide) (fun v n9 h9 hP _ => ?_) (fun E n9 h9 z _ => by cases z)
  obtain ⟨z1, z2, fz, z3⟩ := hP
  cases z1; subst z2; subst z3
  show Wp _ _ _ (0, 0) _ _ [] 45 _
  exact s_return dX8_init_47 rfl ⟨rfl, rfl, fz, rfl⟩ (fun _ => by decide)
def hX6_init_46 (h : AH) : AH := h
theorem n_X6_init_46 {fr : Nat} {h : AH} (hf : 1 ≤ fr) (fz : frz 46 h) : Sp mX6_init false fr 0 0 [zR 46] 46 h (rF 46 (fun h9 => h9 = hX6_init_46 h)) := by
  refine Sp.mkF yX6_init_ok rfl rfl ?_
  show Wp _ _ _ _ 0 [zR 46] [] 46 _
  refine s_aload_n (x := 46) dX6_init_0 rfl ?_
  refine s_objInit dX6_init_1 we240 we33 we34 (by decide) (show 1 ≤ fr by omega) (Nat.le_of_ble_eq_true rfl) ?_
  exact s_return dX6_init_4 rfl ⟨rfl, rfl, fz, rfl⟩ (fun _ => by decide)
def hX7_init_47 (h : AH) : AH := (up (up (up h 47 0 1) 47 1 1) 47 3 1)
theorem n_X7_init_47 {fr : Nat} {h : AH} (hf : 1 ≤ fr) (fz : frz 47 h) : Sp mX7_init false fr 3 179 [zR 47] 47 h (rF 50 (fun h9 => h9 = hX7_init_47 h)) := by
  refine Sp.mkF yX7_init_ok rfl rfl ?_
  show Wp _ _ _ _ 0 [zR 47] [] 47 _
  refine s_aload_n (x := 47) dX7_init_0 rfl ?_
  refine s_objInit dX7_init_1 we284 we33 we34 (by decide) (show 1 ≤ fr by omega) (Nat.le_of_ble_eq_true rfl) ?_
  refine s_aload_n (x := 47) dX7_init_4 rfl ?_
  refine s_bipush dX7_init_5 (by decide) ?_
  refine f_newarr (N := 19) (K := 100) dX7_init_7 we175 (Or.inl ⟨rfl, rfl⟩) rfl rfl rfl (by decide) (by decide) fz (fun fz => ?_)
  show Wp _ _ _ (2, 160) _ _ [zR 48, zR 47] 48 _
  refine f_putF (c := 47) (kz := 0) rfl dX7_init_9 iX7_11 ⟨by decide, by decide, rfl⟩ rfl (by decide) (by decide) (fun T C N e => by rw [tc_X7 e]; rfl) (by decide) fz (fun fz => ?_)
  refine s_aload_n (x := 47) dX7_init_12 rfl ?_
  refine s_sipush dX7_init_13 (by decide) ?_
  refine f_newarr (N := 152) (K := 100) dX7_init_16 we175 (Or.inl ⟨rfl, rfl⟩) rfl rfl rfl (by decide) (by decide) fz (fun fz => ?_)
  show Wp _ _ _ (1, 8) _ _ [zR 49, zR 47] 49 _
  refine f_putF (c := 47) (kz := 1) rfl dX7_init_18 iX7_15 ⟨by decide, by decide, rfl⟩ rfl (by decide) (by decide) (fun T C N e => by rw [tc_X7 e]; rfl) (by decide) fz (fun fz => ?_)
  refine s_aload_n (x := 47) dX7_init_21 rfl ?_
  refine s_bipush dX7_init_22 (by decide) ?_
  refine f_newarr (N := 8) (K := 100) dX7_init_24 we175 (Or.inl ⟨rfl, rfl⟩) rfl rfl rfl (by decide) (by decide) fz (fun fz => ?_)
  show Wp _ _ _ (0, 0) _ _ [zR 50, zR 47] 50 _
  refine f_putF (c := 47) (kz := 3) rfl dX7_init_26 iX7_18 ⟨by decide, by decide, rfl⟩ rfl (by decide) (by decide) (fun T C N e => by rw [tc_X7 e]; rfl) (by decide) fz (fun fz => ?_)
  exact s_return dX7_init_29 rfl ⟨rfl, rfl, fz, rfl⟩ (fun _ => by decide)
def hX4_init_51 (h : AH) : AH := (up (up (up h 51 0 1) 51 1 1) 51 2 1)
theorem n_X4_init_51 {fr : Nat} {h : AH} (hf : 1 ≤ fr) (fz : frz 51 h) : Sp mX4_init false fr 3 808 [zR 51] 51 h (rF 54 (fun h9 => h9 = hX4_init_51 h)) := by
  refine Sp.mkF yX4_init_ok rfl rfl ?_
  show Wp _ _ _ _ 0 [zR 51] [] 51 _
  refine s_aload_n (x := 51) dX4_init_0 rfl ?_
  refine s_objInit dX4_init_1 we325 we33 we34 (by decide) (show 1 ≤ fr by omega) (Nat.le_of_ble_eq_true rfl) ?_
  refine s_aload_n (x := 51) dX4_init_4 rfl ?_
  refine s_sipush dX4_init_5 (by decide) ?_
  refine f_newarr (N := 400) (K := 100) dX4_init_8 we175 (Or.inl ⟨rfl, rfl⟩) rfl rfl rfl (by decide) (by decide) fz (fun fz => ?_)
  show Wp _ _ _ (2, 408) _ _ [zR 52, zR 51] 52 _
  refine f_putF (c := 51) (kz := 0) rfl dX4_init_10 iX4_9 ⟨by decide, by decide, rfl⟩ rfl (by decide) (by decide) (fun T C N e => by rw [tc_X4 e]; rfl) (by decide) fz (fun fz => ?_)
  refine s_aload_n (x := 51) dX4_init_13 rfl ?_
  refine s_sipush dX4_init_14 (by decide) ?_
  refine f_newarr (N := 400) (K := 100) dX4_init_17 we175 (Or.inl ⟨rfl, rfl⟩) rfl rfl rfl (by decide) (by decide) fz (fun fz => ?_)
  show Wp _ _ _ (1, 8) _ _ [zR 53, zR 51] 53 _
  refine f_putF (c := 51) (kz := 1) rfl dX4_init_19 iX4_15 ⟨by decide, by decide, rfl⟩ rfl (by decide) (by decide) (fun T C N e => by rw [tc_X4 e]; rfl) (by decide) fz (fun fz => ?_)
  refine s_aload_n (x := 51) dX4_init_22 rfl ?_
  refine s_bipush dX4_init_23 (by decide) ?_
  refine f_newarr (N := 8) (K := 100) dX4_init_25 we175 (Or.inl ⟨rfl, rfl⟩) rfl rfl rfl (by decide) (by decide) fz (fun fz => ?_)
  show Wp _ _ _ (0, 0) _ _ [zR 54, zR 51] 54 _
  refine f_putF (c := 51) (kz := 2) rfl dX4_init_27 iX4_18 ⟨by decide, by decide, rfl⟩ rfl (by decide) (by decide) (fun T C N e => by rw [tc_X4 e]; rfl) (by decide) fz (fun fz => ?_)
  exact s_return dX4_init_30 rfl ⟨rfl, rfl, fz, rfl⟩ (fun _ => by decide)
def hX2_init_56 (h : AH) : AH := (fil (fil (fil (up (up (up (up (up (up (up (up (up (up (up (up (up (up (up (up (up (up (up (up (up h 56 7 1) 56 8 1) 56 9 1) 56 10 1) 56 11 1) 56 12 1) 56 13 1) 56 14 1) 56 15 1) 56 16 1) 56 17 1) 56 18 1) 56 19 1) 56 20 1) 56 0 0) 56 1 0) 56 2 0) 56 3 0) 56 4 1) 56 5 0) 56 6 0) 59 0 8) 64 0 3) 65 100 24)
theorem n_X2_init_56 {fr : Nat} {h : AH} (hf : 3 ≤ fr) (fz : frz 56 h) : Sp mX2_init false fr 14 159 [zR 56] 56 h (rF 70 (fun h9 => h9 = hX2_init_56 h)) := by
  refine Sp.mkF yX2_init_ok rfl rfl ?_
  show Wp _ _ _ _ 0 [zR 56] [] 56 _
  refine s_aload_n (x := 56) dX2_init_0 rfl ?_
  refine s_objInit dX2_init_1 we40 we33 we34 (by decide) (show 1 ≤ fr by omega) (Nat.le_of_ble_eq_true rfl) ?_
  refine s_aload_n (x := 56) dX2_init_4 rfl ?_
  refine s_bipush dX2_init_5 (by decide) ?_
  refine f_newarr (N := 8) (K := 100) dX2_init_7 we175 (Or.inl ⟨rfl, rfl⟩) rfl rfl rfl (by decide) (by decide) fz (fun fz => ?_)
  show Wp _ _ _ (13, 151) _ _ [zR 57, zR 56] 57 _
  refine f_putF (c := 56) (kz := 7) rfl dX2_init_9 iX2_9 ⟨by decide, by decide, rfl⟩ rfl (by decide) (by decide) (fun T C N e => by rw [tc_X2 e]; rfl) (by decide) fz (fun fz => ?_)
  refine s_aload_n (x := 56) dX2_init_12 rfl ?_
  refine s_bipush dX2_init_13 (by decide) ?_
  refine f_newarr (N := 8) (K := 100) dX2_init_15 we175 (Or.inl ⟨rfl, rfl⟩) rfl rfl rfl (by decide) (by decide) fz (fun fz => ?_)
  show Wp _ _ _ (12, 143) _ _ [zR 58, zR 56] 58 _
  refine f_putF (c := 56) (kz := 8) rfl dX2_init_17 iX2_15 ⟨by decide, by decide, rfl⟩ rfl (by decide) (by decide) (fun T C N e => by rw [tc_X2 e]; rfl) (by decide) fz (fun fz => ?_)
  refine s_aload_n (x := 56) dX2_init_20 rfl ?_
  refine s_bipush dX2_init_21 (by decide) ?_
  refine f_newarr (N := 8) (K := 100) dX2_init_23 we175 (Or.inl ⟨rfl, rfl⟩) rfl rfl rfl (by decide) (by decide) fz (fun fz => ?_)
  show Wp _ _ _ (11, 135) _ _ [zR 59, zR 56] 59 _
  refine f_putF (c := 56) (kz := 9) rfl dX2_init_25 iX2_18 ⟨by decide, by decide, rfl⟩ rfl (by decide) (by decide) (fun T C N e => by rw [tc_X2 e]; rfl) (by decide) fz (fun fz => ?_)
  refine s_aload_n (x := 56) dX2_init_28 rfl ?_
  refine s_bipush dX2_init_29 (by decide) ?_
  refine f_newarr (N := 18) (K := 100) dX2_init_31 we175 (Or.inl ⟨rfl, rfl⟩) rfl rfl rfl (by decide) (by decide) fz (fun fz => ?_)
  show Wp _ _ _ (10, 117) _ _ [zR 60, zR 56] 60 _
  refine f_putF (c := 56) (kz := 10) rfl dX2_init_33 iX2_21 ⟨by decide, by decide, rfl⟩ rfl (by decide) (by decide) (fun T C N e => by rw [tc_X2 e]; rfl) (by decide) fz (fun fz => ?_)
  refine s_aload_n (x := 56) dX2_init_36 rfl ?_
  refine s_bipush dX2_init_37 (by decide) ?_
  refine f_newarr (N := 6) (K := 100) dX2_init_39 we175 (Or.inl ⟨rfl, rfl⟩) rfl rfl rfl (by decide) (by decide) fz (fun fz => ?_)
  show Wp _ _ _ (9, 111) _ _ [zR 61, zR 56] 61 _
  refine f_putF (c := 56) (kz := 11) rfl dX2_init_41 iX2_24 ⟨by decide, by decide, rfl⟩ rfl (by decide) (by decide) (fun T C N e => by rw [tc_X2 e]; rfl) (by decide) fz (fun fz => ?_)
  refine s_aload_n (x := 56) dX2_init_44 rfl ?_
  refine s_bipush dX2_init_45 (by decide) ?_
  refine f_newarr (N := 6) (K := 100) dX2_init_47 we175 (Or.inl ⟨rfl, rfl⟩) rfl rfl rfl (by decide) (by decide) fz (fun fz => ?_)
  show Wp _ _ _ (8, 105) _ _ [zR 62, zR 56] 62 _
  refine f_putF (c := 56) (kz := 12) rfl dX2_init_49 iX2_27 ⟨by decide, by decide, rfl⟩ rfl (by decide) (by decide) (fun T C N e => by rw [tc_X2 e]; rfl) (by decide) fz (fun fz => ?_)
  refine s_aload_n (x := 56) dX2_init_52 rfl ?_
  refine s_bipush dX2_init_53 (by decide) ?_
  refine f_newarr (N := 6) (K := 100) dX2_init_55 we175 (Or.inl ⟨rfl, rfl⟩) rfl rfl rfl (by decide) (by decide) fz (fun fz => ?_)
  show Wp _ _ _ (7, 99) _ _ [zR 63, zR 56] 63 _
  refine f_putF (c := 56) (kz := 13) rfl dX2_init_57 iX2_30 ⟨by decide, by decide, rfl⟩ rfl (by decide) (by decide) (fun T C N e => by rw [tc_X2 e]; rfl) (by decide) fz (fun fz => ?_)
  refine s_aload_n (x := 56) dX2_init_60 rfl ?_
  refine s_iconst dX2_init_61 ?_
  refine f_newarr (N := 3) (K := 100) dX2_init_62 we175 (Or.inl ⟨rfl, rfl⟩) rfl rfl rfl (by decide) (by decide) fz (fun fz => ?_)
  show Wp _ _ _ (6, 96) _ _ [zR 64, zR 56] 64 _
  refine f_putF (c := 56) (kz := 14) rfl dX2_init_64 iX2_33 ⟨by decide, by decide, rfl⟩ rfl (by decide) (by decide) (fun T C N e => by rw [tc_X2 e]; rfl) (by decide) fz (fun fz => ?_)
  refine s_aload_n (x := 56) dX2_init_67 rfl ?_
  refine s_bipush dX2_init_68 (by decide) ?_
  refine f_newarr (N := 24) (K := 100) dX2_init_70 we175 (Or.inl ⟨rfl, rfl⟩) rfl rfl rfl (by decide) (by decide) fz (fun fz => ?_)
  show Wp _ _ _ (5, 72) _ _ [zR 65, zR 56] 65 _
  refine f_putF (c := 56) (kz := 15) rfl dX2_init_72 iX2_36 ⟨by decide, by decide, rfl⟩ rfl (by decide) (by decide) (fun T C N e => by rw [tc_X2 e]; rfl) (by decide) fz (fun fz => ?_)
  refine s_aload_n (x := 56) dX2_init_75 rfl ?_
  refine s_bipush dX2_init_76 (by decide) ?_
  refine f_newarr (N := 8) (K := 100) dX2_init_78 we175 (Or.inl ⟨rfl, rfl⟩) rfl rfl rfl (by decide) (by decide) fz (fun fz => ?_)
  show Wp _ _ _ (4, 64) _ _ [zR 66, zR 56] 66 _
  refine f_putF (c := 56) (kz := 16) rfl dX2_init_80 iX2_39 ⟨by decide, by decide, rfl⟩ rfl (by decide) (by decide) (fun T C N e => by rw [tc_X2 e]; rfl) (by decide) fz (fun fz => ?_)
  refine s_aload_n (x := 56) dX2_init_83 rfl ?_
  refine s_bipush dX2_init_84 (by decide) ?_
  refine f_newarr (N := 8) (K := 100) dX2_init_86 we175 (Or.inl ⟨rfl, rfl⟩) rfl rfl rfl (by decide) (by decide) fz (fun fz => ?_)
  show Wp _ _ _ (3, 56) _ _ [zR 67, zR 56] 67 _
  refine f_putF (c := 56) (kz := 17) rfl dX2_init_88 iX2_42 ⟨by decide, by decide, rfl⟩ rfl (by decide) (by decide) (fun T C N e => by rw [tc_X2 e]; rfl) (by decide) fz (fun fz => ?_)
  refine s_aload_n (x := 56) dX2_init_91 rfl ?_
  refine s_bipush dX2_init_92 (by decide) ?_
  refine f_newarr (N := 32) (K := 100) dX2_init_94 we175 (Or.inl ⟨rfl, rfl⟩) rfl rfl rfl (by decide) (by decide) fz (fun fz => ?_)
  show Wp _ _ _ (2, 24) _ _ [zR 68, zR 56] 68 _
  refine f_putF (c := 56) (kz := 18) rfl dX2_init_96 iX2_45 ⟨by decide, by decide, rfl⟩ rfl (by decide) (by decide) (fun T C N e => by rw [tc_X2 e]; rfl) (by decide) fz (fun fz => ?_)
  refine s_aload_n (x := 56) dX2_init_99 rfl ?_
  refine s_bipush dX2_init_100 (by decide) ?_
  refine f_newarr (N := 6) (K := 100) dX2_init_102 we175 (Or.inl ⟨rfl, rfl⟩) rfl rfl rfl (by decide) (by decide) fz (fun fz => ?_)
  show Wp _ _ _ (1, 18) _ _ [zR 69, zR 56] 69 _
  refine f_putF (c := 56) (kz := 19) rfl dX2_init_104 iX2_48 ⟨by decide, by decide, rfl⟩ rfl (by decide) (by decide) (fun T C N e => by rw [tc_X2 e]; rfl) (by decide) fz (fun fz => ?_)
  refine s_aload_n (x := 56) dX2_init_107 rfl ?_
  refine s_bipush dX2_init_108 (by decide) ?_
  refine f_newarr (N := 18) (K := 100) dX2_init_110 we175 (Or.inl ⟨rfl, rfl⟩) rfl rfl rfl (by decide) (by decide) fz (fun fz => ?_)
  show Wp _ _ _ (0, 0) _ _ [zR 70, zR 56] 70 _
  refine f_putF (c := 56) (kz := 20) rfl dX2_init_112 iX2_51 ⟨by decide, by decide, rfl⟩ rfl (by decide) (by decide) (fun T C N e => by rw [tc_X2 e]; rfl) (by decide) fz (fun fz => ?_)
  refine s_aload_n (x := 56) dX2_init_115 rfl ?_
  refine s_callV (as := []) (st := []) (o := 56) dX2_init_116 gX2_54 rfl ⟨2, 21, TX2, ⟨by decide, by decide, rfl⟩, rfl, by decide⟩ rfl rfl (Nat.le_of_ble_eq_true rfl) (n_X2_clear_56 (fr := fr - 1) (by omega) fz (show (up (up (up (up (up (up (up (up (up (up (up (up (up (up h 56 7 1) 56 8 1) 56 9 1) 56 10 1) 56 11 1) 56 12 1) 56 13 1) 56 14 1) 56 15 1) 56 16 1) 56 17 1) 56 18 1) 56 19 1) 56 20 1) 56 9 ≠ 0 by rw [up_cn (by decide), up_cn (by decide), up_cn (by decide), up_cn (by decide), up_cn (by decide), up_cn (by decide), up_cn (by decide), up_cn (by decide), up_cn (by decide), up_cn (by decide), up_cn (by decide), up_ci]; decide) (show (up (up (up (up (up (up (up (up (up (up (up (up (up (up h 56 7 1) 56 8 1) 56 9 1) 56 10 1) 56 11 1) 56 12 1) 56 13 1) 56 14 1) 56 15 1) 56 16 1) 56 17 1) 56 18 1) 56 19 1) 56 20 1) 56 14 ≠ 0 by rw [up_cn (by decide), up_cn (by decide), up_cn (by decide), up_cn (by decide), up_cn (by decide), up_cn (by decide), up_ci]; decide) (show (up (up (up (up (up (up (up (up (up (up (up (up (up (up h 56 7 1) 56 8 1) 56 9 1) 56 10 1) 56 11 1) 56 12 1) 56 13 1) 56 14 1) 56 15 1) 56 16 1) 56 17 1) 56 18 1) 56 19 1) 56 20 1) 56 15 ≠ 0 by rw [up_cn (by decide), up_cn (by decide), up_cn (by decide), up_cn (by decide), up_cn (by decide), up_ci]; decide)) (show fr - 1 + 1 ≤ fr by omega) (by decide) (by decide) (fun v n9 h9 hP _ => ?_) (fun E n9 h9 z _ => by cases z)
  obtain ⟨z1, z2, fz, z3⟩ := hP
  cases z1; subst z2; subst z3
  show Wp _ _ _ (0, 0) _ _ [] 70 _
  exact s_return dX2_init_119 rfl ⟨rfl, rfl, fz, rfl⟩ (fun _ => by decide)
def hX10_init_55 (h : AH) : AH := (fil (up (up (up (up (up (up (up (up (up (up (hX2_init_56 h) 55 0 56) 55 5 1) 55 6 1) 55 7 1) 55 8 1) 55 9 1) 55 10 1) 55 11 1) 55 13 1) 55 15 1) 74 (-2) 144)
theorem n_X10_init_55 {fr : Nat} {h : AH} (hf : 4 ≤ fr) (fz : frz 55 h) : Sp mX10_init false fr 24 2705 [zR 55] 55 h (rF 79 (fun h9 => h9 = hX10_init_55 h)) := by
  refine Sp.mkF yX10_init_ok rfl rfl ?_
  show Wp _ _ _ _ 0 [zR 55] [] 55 _
  refine s_aload_n (x := 55) dX10_init_0 rfl ?_
  refine s_objInit dX10_init_1 we359 we33 we34 (by decide) (show 1 ≤ fr by omega) (Nat.le_of_ble_eq_true rfl) ?_
  refine s_aload_n (x := 55) dX10_init_4 rfl ?_
  refine f_new dX10_init_5 jX10_11 rfl rfl (by decide) (by decide) fz (fun fz => ?_)
  show Wp _ _ _ (23, 2684) _ _ [zR 56, zR 55] 56 _
  refine s_dup dX10_init_8 rfl ?_
  refine s_callI (as := []) (st := [zR 56, zR 55]) (o := 56) dX10_init_9 gX10_13 rfl we38 rfl rfl (by decide) rfl rfl (Nat.le_of_ble_eq_true rfl) (n_X2_init_56 (fr := fr - 1) (by omega) fz) rF_nt (show fr - 1 + 1 ≤ fr by omega) (by decide) (by decide) (fun v n9 h9 hP _ => ?_)
  obtain ⟨z1, z2, fz, z3⟩ := hP
  cases z1; subst z2; subst z3
  show Wp _ _ _ (9, 2525) _ _ [zR 56, zR 55] 70 _
  refine f_putR (c := 55) (kz := 0) rfl dX10_init_12 iX10_14 ⟨by decide, by decide, rfl⟩ (by decide) fz (fun fz => ?_)
  refine s_aload_n (x := 55) dX10_init_15 rfl ?_
  refine s_iconst dX10_init_16 ?_
  refine f_newarr (N := 4) (K := 100) dX10_init_17 we175 (Or.inl ⟨rfl, rfl⟩) rfl rfl rfl (by decide) (by decide) fz (fun fz => ?_)
  show Wp _ _ _ (8, 2521) _ _ [zR 71, zR 55] 71 _
  refine f_putF (c := 55) (kz := 5) rfl dX10_init_19 iX10_18 ⟨by decide, by decide, rfl⟩ rfl (by decide) (by decide) (fun T C N e => by rw [tc_X10 e]; rfl) (by decide) fz (fun fz => ?_)
  refine s_aload_n (x := 55) dX10_init_22 rfl ?_
  refine s_bipush dX10_init_23 (by decide) ?_
  refine f_newarr (N := 32) (K := 100) dX10_init_25 we175 (Or.inl ⟨rfl, rfl⟩) rfl rfl rfl (by decide) (by decide) fz (fun fz => ?_)
  show Wp _ _ _ (7, 2489) _ _ [zR 72, zR 55] 72 _
  refine f_putF (c := 55) (kz := 6) rfl dX10_init_27 iX10_22 ⟨by decide, by decide, rfl⟩ rfl (by decide) (by decide) (fun T C N e => by rw [tc_X10 e]; rfl) (by decide) fz (fun fz => ?_)
  refine s_aload_n (x := 55) dX10_init_30 rfl ?_
  refine s_bipush dX10_init_31 (by decide) ?_
  refine f_newarr (N := 6) (K := 100) dX10_init_33 we175 (Or.inl ⟨rfl, rfl⟩) rfl rfl rfl (by decide) (by decide) fz (fun fz => ?_)
  show Wp _ _ _ (6, 2483) _ _ [zR 73, zR 55] 73 _
  refine f_putF (c := 55) (kz := 7) rfl dX10_init_35 iX10_25 ⟨by decide, by decide, rfl⟩ rfl (by decide) (by decide) (fun T C N e => by rw [tc_X10 e]; rfl) (by decide) fz (fun fz => ?_)
  refine s_aload_n (x := 55) dX10_init_38 rfl ?_
  refine s_sipush dX10_init_39 (by decide) ?_
  refine f_newarr (N := 144) (K := 100) dX10_init_42 we175 (Or.inl ⟨rfl, rfl⟩) rfl rfl rfl (by decide) (by decide) fz (fun fz => ?_)
  show Wp _ _ _ (5, 2339) _ _ [zR 74, zR 55] 74 _
  refine f_putF (c := 55) (kz := 8) rfl dX10_init_44 iX10_28 ⟨by decide, by decide, rfl⟩ rfl (by decide) (by decide) (fun T C N e => by rw [tc_X10 e]; rfl) (by decide) fz (fun fz => ?_)
  refine s_aload_n (x := 55) dX10_init_47 rfl ?_
  refine s_sipush dX10_init_48 (by decide) ?_
  refine f_newarr (N := 2304) (K := 100) dX10_init_51 we175 (Or.inl ⟨rfl, rfl⟩) rfl rfl rfl (by decide) (by decide) fz (fun fz => ?_)
  show Wp _ _ _ (4, 35) _ _ [zR 75, zR 55] 75 _
  refine f_putF (c := 55) (kz := 9) rfl dX10_init_53 iX10_31 ⟨by decide, by decide, rfl⟩ rfl (by decide) (by decide) (fun T C N e => by rw [tc_X10 e]; rfl) (by decide) fz (fun fz => ?_)
  refine s_aload_n (x := 55) dX10_init_56 rfl ?_
  refine s_iconst dX10_init_57 ?_
  refine f_newarr (N := 3) (K := 100) dX10_init_58 we175 (Or.inl ⟨rfl, rfl⟩) rfl rfl rfl (by decide) (by decide) fz (fun fz => ?_)
  show Wp _ _ _ (3, 32) _ _ [zR 76, zR 55] 76 _
  refine f_putF (c := 55) (kz := 10) rfl dX10_init_60 iX10_34 ⟨by decide, by decide, rfl⟩ rfl (by decide) (by decide) (fun T C N e => by rw [tc_X10 e]; rfl) (by decide) fz (fun fz => ?_)
  refine s_aload_n (x := 55) dX10_init_63 rfl ?_
  refine s_bipush dX10_init_64 (by decide) ?_
  refine f_newarr (N := 12) (K := 100) dX10_init_66 we175 (Or.inl ⟨rfl, rfl⟩) rfl rfl rfl (by decide) (by decide) fz (fun fz => ?_)
  show Wp _ _ _ (2, 20) _ _ [zR 77, zR 55] 77 _
  refine f_putF (c := 55) (kz := 11) rfl dX10_init_68 iX10_37 ⟨by decide, by decide, rfl⟩ rfl (by decide) (by decide) (fun T C N e => by rw [tc_X10 e]; rfl) (by decide) fz (fun fz => ?_)
  refine s_aload_n (x := 55) dX10_init_71 rfl ?_
  refine s_bipush dX10_init_72 (by decide) ?_
  refine f_newarr (N := 12) (K := 100) dX10_init_74 we175 (Or.inl ⟨rfl, rfl⟩) rfl rfl rfl (by decide) (by decide) fz (fun fz => ?_)
  show Wp _ _ _ (1, 8) _ _ [zR 78, zR 55] 78 _
  refine f_putF (c := 55) (kz := 13) rfl dX10_init_76 iX10_40 ⟨by decide, by decide, rfl⟩ rfl (by decide) (by decide) (fun T C N e => by rw [tc_X10 e]; rfl) (by decide) fz (fun fz => ?_)
  refine s_aload_n (x := 55) dX10_init_79 rfl ?_
  refine s_bipush dX10_init_80 (by decide) ?_
  refine f_newarr (N := 8) (K := 100) dX10_init_82 we175 (Or.inl ⟨rfl, rfl⟩) rfl rfl rfl (by decide) (by decide) fz (fun fz => ?_)
  show Wp _ _ _ (0, 0) _ _ [zR 79, zR 55] 79 _
  refine f_putF (c := 55) (kz := 15) rfl dX10_init_84 iX10_43 ⟨by decide, by decide, rfl⟩ rfl (by decide) (by decide) (fun T C N e => by rw [tc_X10 e]; rfl) (by decide) fz (fun fz => ?_)
  refine s_aload_n (x := 55) dX10_init_87 rfl ?_
  refine s_getFd (c := 55) (d := 74) dX10_init_88 iX10_28 ⟨by decide, by decide, rfl⟩ (Or.inr (show (up (up (up (up (up (up (up (up (up (up (hX2_init_56 h) 55 0 56) 55 5 1) 55 6 1) 55 7 1) 55 8 1) 55 9 1) 55 10 1) 55 11 1) 55 13 1) 55 15 1) 55 8 ≠ 0 by rw [up_cn (by decide), up_cn (by decide), up_cn (by decide), up_cn (by decide), up_cn (by decide), up_ci]; decide)) (by decide) (by decide) ?_
  refine s_bipush dX10_init_91 (by decide) ?_
  refine s_callS (as := [zR 74, zI (-2)]) (st := []) dX10_init_93 gX10_46 rfl rfl (Nat.le_of_ble_eq_true rfl) (n_fill (fr := fr - 1) (N := 144) ⟨by decide, by decide, rfl⟩ (by decide) fz) (show fr - 1 + 1 ≤ fr by omega) (by decide) (by decide) (fun v n9 h9 hP _ => ?_) (fun E n9 h9 z _ => by cases z)
  obtain ⟨z1, z2, fz, z3⟩ := hP
  cases z1; subst z2; subst z3
  show Wp _ _ _ (0, 0) _ _ [] 79 _
  exact s_return dX10_init_96 rfl ⟨rfl, rfl, fz, rfl⟩ (fun _ => by decide)
def hX0_init_80 (h : AH) : AH := (up h 80 0 1)
theorem n_X0_init_80 {fr : Nat} {h : AH} (hf : 1 ≤ fr) (fz : frz 80 h) : Sp mX0_init false fr 1 8 [zR 80] 80 h (rF 81 (fun h9 => h9 = hX0_init_80 h)) := by
  refine Sp.mkF yX0_init_ok rfl rfl ?_
  show Wp _ _ _ _ 0 [zR 80] [] 80 _
  refine s_aload_n (x := 80) dX0_init_0 rfl ?_
  refine s_objInit dX0_init_1 we419 we33 we34 (by decide) (show 1 ≤ fr by omega) (Nat.le_of_ble_eq_true rfl) ?_
  refine s_aload_n (x := 80) dX0_init_4 rfl ?_
  refine s_bipush dX0_init_5 (by decide) ?_
  refine f_newarr (N := 8) (K := 100) dX0_init_7 we175 (Or.inl ⟨rfl, rfl⟩) rfl rfl rfl (by decide) (by decide) fz (fun fz => ?_)
  show Wp _ _ _ (0, 0) _ _ [zR 81, zR 80] 81 _
  refine f_putF (c := 80) (kz := 0) rfl dX0_init_9 iX0_9 ⟨by decide, by decide, rfl⟩ rfl (by decide) (by decide) (fun T C N e => by rw [tc_X0 e]; rfl) (by decide) fz (fun fz => ?_)
  exact s_return dX0_init_12 rfl ⟨rfl, rfl, fz, rfl⟩ (fun _ => by decide)
def hX7_init_84 (h : AH) : AH := (up (up (up h 84 0 1) 84 1 1) 84 3 1)
theorem n_X7_init_84 {fr : Nat} {h : AH} (hf : 1 ≤ fr) (fz : frz 84 h) : Sp mX7_init false fr 3 179 [zR 84] 84 h (rF 87 (fun h9 => h9 = hX7_init_84 h)) := by
  refine Sp.mkF yX7_init_ok rfl rfl ?_
  show Wp _ _ _ _ 0 [zR 84] [] 84 _
  refine s_aload_n (x := 84) dX7_init_0 rfl ?_
  refine s_objInit dX7_init_1 we284 we33 we34 (by decide) (show 1 ≤ fr by omega) (Nat.le_of_ble_eq_true rfl) ?_
  refine s_aload_n (x := 84) dX7_init_4 rfl ?_
  refine s_bipush dX7_init_5 (by decide) ?_
  refine f_newarr (N := 19) (K := 100) dX7_init_7 we175 (Or.inl ⟨rfl, rfl⟩) rfl rfl rfl (by decide) (by decide) fz (fun fz => ?_)
  show Wp _ _ _ (2, 160) _ _ [zR 85, zR 84] 85 _
  refine f_putF (c := 84) (kz := 0) rfl dX7_init_9 iX7_11 ⟨by decide, by decide, rfl⟩ rfl (by decide) (by decide) (fun T C N e => by rw [tc_X7 e]; rfl) (by decide) fz (fun fz => ?_)
  refine s_aload_n (x := 84) dX7_init_12 rfl ?_
  refine s_sipush dX7_init_13 (by decide) ?_
  refine f_newarr (N := 152) (K := 100) dX7_init_16 we175 (Or.inl ⟨rfl, rfl⟩) rfl rfl rfl (by decide) (by decide) fz (fun fz => ?_)
  show Wp _ _ _ (1, 8) _ _ [zR 86, zR 84] 86 _
  refine f_putF (c := 84) (kz := 1) rfl dX7_init_18 iX7_15 ⟨by decide, by decide, rfl⟩ rfl (by decide) (by decide) (fun T C N e => by rw [tc_X7 e]; rfl) (by decide) fz (fun fz => ?_)
  refine s_aload_n (x := 84) dX7_init_21 rfl ?_
  refine s_bipush dX7_init_22 (by decide) ?_
  refine f_newarr (N := 8) (K := 100) dX7_init_24 we175 (Or.inl ⟨rfl, rfl⟩) rfl rfl rfl (by decide) (by decide) fz (fun fz => ?_)
  show Wp _ _ _ (0, 0) _ _ [zR 87, zR 84] 87 _
  refine f_putF (c := 84) (kz := 3) rfl dX7_init_26 iX7_18 ⟨by decide, by decide, rfl⟩ rfl (by decide) (by decide) (fun T C N e => by rw [tc_X7 e]; rfl) (by decide) fz (fun fz => ?_)
  exact s_return dX7_init_29 rfl ⟨rfl, rfl, fz, rfl⟩ (fun _ => by decide)
def hX3_init_82 (h : AH) : AH := (up (hX7_init_84 (up h 82 0 1)) 82 1 1)
theorem n_X3_init_82 {fr : Nat} {h : AH} (hf : 2 ≤ fr) (fz : frz 82 h) : Sp mX3_init false fr 5 194 [zR 82] 82 h (rF 87 (fun h9 => h9 = hX3_init_82 h)) := by
  refine Sp.mkF yX3_init_ok rfl rfl ?_
  show Wp _ _ _ _ 0 [zR 82] [] 82 _
  refine s_aload_n (x := 82) dX3_init_0 rfl ?_
  refine s_objInit dX3_init_1 we429 we33 we34 (by decide) (show 1 ≤ fr by omega) (Nat.le_of_ble_eq_true rfl) ?_
  refine s_aload_n (x := 82) dX3_init_4 rfl ?_
  refine s_bipush dX3_init_5 (by decide) ?_
  refine f_newarr (N := 6) (K := 100) dX3_init_7 we175 (Or.inl ⟨rfl, rfl⟩) rfl rfl rfl (by decide) (by decide) fz (fun fz => ?_)
  show Wp _ _ _ (4, 188) _ _ [zR 83, zR 82] 83 _
  refine f_putF (c := 82) (kz := 0) rfl dX3_init_9 iX3_9 ⟨by decide, by decide, rfl⟩ rfl (by decide) (by decide) (fun T C N e => by rw [tc_X3 e]; rfl) (by decide) fz (fun fz => ?_)
  refine s_aload_n (x := 82) dX3_init_12 rfl ?_
  refine f_new dX3_init_13 jX3_15 rfl rfl (by decide) (by decide) fz (fun fz => ?_)
  show Wp _ _ _ (3, 179) _ _ [zR 84, zR 82] 84 _
  refine s_dup dX3_init_16 rfl ?_
  refine s_callIN (host := "EchoGorge") (as := []) (st := [zR 84, zR 82]) (o := 84) dX3_init_17 (by decide +kernel) gX3_17 rfl we282 rfl rfl (by decide) rfl rfl (Nat.le_of_ble_eq_true rfl) (n_X7_init_84 (fr := fr - 1) (by omega) fz) rF_nt (show fr - 1 + 1 ≤ fr by omega) (by decide) (by decide) (fun v n9 h9 hP _ => ?_)
  obtain ⟨z1, z2, fz, z3⟩ := hP
  cases z1; subst z2; subst z3
  show Wp _ _ _ (0, 0) _ _ [zR 84, zR 82] 87 _
  refine f_putF (c := 82) (kz := 1) rfl dX3_init_20 iX3_18 ⟨by decide, by decide, rfl⟩ rfl (by decide) (by decide) (fun T C N e => by rw [tc_X3 e]; rfl) (by decide) fz (fun fz => ?_)
  exact s_return dX3_init_23 rfl ⟨rfl, rfl, fz, rfl⟩ (fun _ => by decide)
def hX9_init_88 (h : AH) : AH := (up (up (up h 88 0 1) 88 2 1) 88 3 1)
theorem n_X9_init_88 {fr : Nat} {h : AH} (hf : 1 ≤ fr) (fz : frz 88 h) : Sp mX9_init false fr 3 77 [zR 88] 88 h (rF 91 (fun h9 => h9 = hX9_init_88 h)) := by
  refine Sp.mkF yX9_init_ok rfl rfl ?_
  show Wp _ _ _ _ 0 [zR 88] [] 88 _
  refine s_aload_n (x := 88) dX9_init_0 rfl ?_
  refine s_objInit dX9_init_1 we463 we33 we34 (by decide) (show 1 ≤ fr by omega) (Nat.le_of_ble_eq_true rfl) ?_
  refine s_aload_n (x := 88) dX9_init_4 rfl ?_
  refine s_iconst dX9_init_5 ?_
  refine f_newarr (N := 3) (K := 100) dX9_init_6 we175 (Or.inl ⟨rfl, rfl⟩) rfl rfl rfl (by decide) (by decide) fz (fun fz => ?_)
  show Wp _ _ _ (2, 74) _ _ [zR 89, zR 88] 89 _
  refine f_putF (c := 88) (kz := 0) rfl dX9_init_8 iX9_9 ⟨by decide, by decide, rfl⟩ rfl (by decide) (by decide) (fun T C N e => by rw [tc_X9 e]; rfl) (by decide) fz (fun fz => ?_)
  refine s_aload_n (x := 88) dX9_init_11 rfl ?_
  refine s_bipush dX9_init_12 (by decide) ?_
  refine f_newarr (N := 60) (K := 100) dX9_init_14 we175 (Or.inl ⟨rfl, rfl⟩) rfl rfl rfl (by decide) (by decide) fz (fun fz => ?_)
  show Wp _ _ _ (1, 14) _ _ [zR 90, zR 88] 90 _
  refine f_putF (c := 88) (kz := 2) rfl dX9_init_16 iX9_15 ⟨by decide, by decide, rfl⟩ rfl (by decide) (by decide) (fun T C N e => by rw [tc_X9 e]; rfl) (by decide) fz (fun fz => ?_)
  refine s_aload_n (x := 88) dX9_init_19 rfl ?_
  refine s_bipush dX9_init_20 (by decide) ?_
  refine f_newarr (N := 14) (K := 100) dX9_init_22 we175 (Or.inl ⟨rfl, rfl⟩) rfl rfl rfl (by decide) (by decide) fz (fun fz => ?_)
  show Wp _ _ _ (0, 0) _ _ [zR 91, zR 88] 91 _
  refine f_putF (c := 88) (kz := 3) rfl dX9_init_24 iX9_18 ⟨by decide, by decide, rfl⟩ rfl (by decide) (by decide) (fun T C N e => by rw [tc_X9 e]; rfl) (by decide) fz (fun fz => ?_)
  exact s_return dX9_init_27 rfl ⟨rfl, rfl, fz, rfl⟩ (fun _ => by decide)
def rtk (h : AH) (k : Int) : AH := fun c => if c = 93 then (fun i => if 0 ≤ i ∧ i < k then ((rootN ((i % 31) * (i % 31) + (i / 31) * (i / 31)).toNat : Nat) : Int) else h 93 i) else h c
theorem rtk_n {h : AH} {k c : Int} (e : c ≠ 93) : rtk h k c = h c := if_neg e
theorem rtk_0 (h : AH) : rtk h 0 = h := by
  funext c i
  unfold rtk
  by_cases e : c = 93
  · rw [if_pos e]
    show (if 0 ≤ i ∧ i < 0 then _ else h 93 i) = h c i
    rw [if_neg (by omega), e]
  · rw [if_neg e]
theorem rtk_s {h : AH} {k r : Int} (k0 : 0 ≤ k) (e : r = ((rootN ((k % 31) * (k % 31) + (k / 31) * (k / 31)).toNat : Nat) : Int)) : up (rtk h k) 93 k r = rtk h (k + 1) := by
  funext c i
  by_cases c3 : c = 93
  · rw [c3, up_c]
    show (if i = k then r else rtk h k 93 i) = _
    unfold rtk
    rw [if_pos rfl, if_pos rfl]
    by_cases ik : i = k
    · rw [if_pos ik, ik, if_pos (by omega)]; exact e
    · rw [if_neg ik]
      show (if 0 ≤ i ∧ i < k then _ else h 93 i) = (if 0 ≤ i ∧ i < k + 1 then _ else h 93 i)
      by_cases q : 0 ≤ i ∧ i < k
      · rw [if_pos q, if_pos (by omega)]
      · rw [if_neg q, if_neg (by omega)]
  · rw [up_n c3, rtk_n c3, rtk_n c3]
theorem root_nat {x y : Int} {X Y : Nat} (hx : x = X) (hy : y = Y) : (x * x + y * y).toNat = X * X + Y * Y := by
  subst hx; subst hy
  rw [← Int.natCast_mul, ← Int.natCast_mul, ← Int.natCast_add, Int.toNat_natCast]
theorem sq1 (n : Nat) : (n + 1) * (n + 1) = n * n + 2 * n + 1 := by
  rw [Nat.add_mul, Nat.mul_add]; omega
theorem sq1i (n : Nat) : ((n : Int) + 1) * ((n : Int) + 1) = (((n + 1) * (n + 1) : Nat) : Int) := by
  rw [Int.natCast_mul, Int.natCast_add]; rfl
theorem root_step {x y r : Int} (x0 : 0 ≤ x) (y0 : 0 ≤ y) (hp : (x = 0 ∧ r = y) ∨ (1 ≤ x ∧ r = ((rootN ((x - 1) * (x - 1) + y * y).toNat : Nat) : Int))) : (x * x + y * y < (r + 1) * (r + 1) → r = ((rootN (x * x + y * y).toNat : Nat) : Int)) ∧ ((r + 1) * (r + 1) ≤ x * x + y * y → r + 1 = ((rootN (x * x + y * y).toNat : Nat) : Int)) := by
  obtain ⟨Y, rfl⟩ := Int.eq_ofNat_of_zero_le y0
  rcases hp with ⟨rfl, rfl⟩ | ⟨x1, hr⟩
  · have e : ((0 : Int) * 0 + (Y : Int) * Y).toNat = Y * Y := by
      have e9 := root_nat (x := 0) (y := (Y : Int)) (X := 0) (Y := Y) rfl rfl
      rw [e9]; omega
    rw [e]
    have k := sq1 Y
    have er : Y = rootN (Y * Y) := rootN_one (Nat.le_refl _) (by omega)
    refine ⟨fun _ => by rw [← er], fun h => ?_⟩
    exfalso
    have a := sq1i Y
    have b : (Y : Int) * Y = ((Y * Y : Nat) : Int) := by rw [Int.natCast_mul]
    omega
  · obtain ⟨X, rfl⟩ : ∃ X : Nat, x = (X : Int) + 1 := ⟨(x - 1).toNat, by omega⟩
    have e1 : (((X : Int) + 1 - 1) * ((X : Int) + 1 - 1) + (Y : Int) * Y).toNat = X * X + Y * Y := root_nat (by omega) rfl
    have e2 : (((X : Int) + 1) * ((X : Int) + 1) + (Y : Int) * Y).toNat = (X + 1) * (X + 1) + Y * Y := root_nat (by omega) rfl
    rw [e1] at hr
    rw [e2, hr]
    obtain ⟨q1, q2⟩ := rootN_ok (X * X + Y * Y)
    generalize rootN (X * X + Y * Y) = R at q1 q2
    have kX := sq1 X
    have kR := sq1 R
    have kR2 := sq1 (R + 1)
    have xr : X ≤ R := by
      by_cases c : X ≤ R
      · exact c
      · have := Nat.mul_le_mul (show R + 1 ≤ X by omega) (show R + 1 ≤ X by omega)
        omega
    have c1 := sq1i R
    have c2 : ((X : Int) + 1) * ((X : Int) + 1) + (Y : Int) * Y = (((X + 1) * (X + 1) + Y * Y : Nat) : Int) := by rw [sq1i, Int.natCast_add, Int.natCast_mul Y]
    rw [c1, c2]
    constructor
    · intro h
      have := rootN_one (n := (X + 1) * (X + 1) + Y * Y) (r := R) (by omega) (by omega)
      rw [← this]
    · intro h
      have := rootN_one (n := (X + 1) * (X + 1) + Y * Y) (r := R + 1) (by omega) (by omega)
      rw [← this]; rfl
def hX5_init_92 (h : AH) : AH := rtk (up (up h 92 0 1) 92 1 1) 961
theorem frz_rtk {n : Nat} {h : AH} {k : Int} (f : frz n h) (hn : 93 ≤ n) : frz n (rtk h k) := fun d hd j => by rw [rtk_n (by omega)]; exact f d hd j
theorem n_X5_init_92 {fr : Nat} {h : AH} (hf : 1 ≤ fr) (fz : frz 92 h) : Sp mX5_init false fr 2 1953 [zR 92] 92 h (rF 94 (fun h9 => h9 = hX5_init_92 h)) := by
  refine Sp.mkF yX5_init_ok rfl rfl ?_
  show Wp _ _ _ _ 0 [zR 92, none, none, none] [] 92 _
  refine s_aload_n (x := 92) dX5_init_0 rfl ?_
  refine s_objInit dX5_init_1 we498 we33 we34 (by decide) (show 1 ≤ fr by omega) (Nat.le_of_ble_eq_true rfl) ?_
  refine s_aload_n (x := 92) dX5_init_4 rfl ?_
  refine s_sipush dX5_init_5 (by decide) ?_
  refine f_newarr (N := 961) (K := 100) dX5_init_8 we175 (Or.inl ⟨rfl, rfl⟩) rfl rfl rfl (by decide) (by decide) fz (fun fz => ?_)
  show Wp _ _ _ (1, 992) _ _ [zR 93, zR 92] 93 _
  refine f_putF (c := 92) (kz := 0) rfl dX5_init_10 iX5_9 ⟨by decide, by decide, rfl⟩ rfl (by decide) (by decide) (fun T C N e => by rw [tc_X5 e]; rfl) (by decide) fz (fun fz => ?_)
  refine s_aload_n (x := 92) dX5_init_13 rfl ?_
  refine s_sipush dX5_init_14 (by decide) ?_
  refine f_newarr (N := 992) (K := 100) dX5_init_17 we175 (Or.inl ⟨rfl, rfl⟩) rfl rfl rfl (by decide) (by decide) fz (fun fz => ?_)
  show Wp _ _ _ (0, 0) _ _ [zR 94, zR 92] 94 _
  refine f_putF (c := 92) (kz := 1) rfl dX5_init_19 iX5_15 ⟨by decide, by decide, rfl⟩ rfl (by decide) (by decide) (fun T C N e => by rw [tc_X5 e]; rfl) (by decide) fz (fun fz => ?_)
  have nz0 : (up (up h 92 0 1) 92 1 1) 92 0 ≠ 0 := (show (up (up h 92 0 1) 92 1 1) 92 0 ≠ 0 by rw [up_cn (by decide), up_ci]; decide)
  have ed : hX5_init_92 h = rtk (up (up h 92 0 1) 92 1 1) 961 := rfl
  generalize (up (up h 92 0 1) 92 1 1) = h0 at fz nz0 ed ⊢
  show Wp _ _ _ (0, 0) 22 [zR 92, none, none, none] [] 94 _
  refine s_iconst dX5_init_22 ?_
  refine s_istore_n dX5_init_23 rfl (by decide) ?_
  generalize hQ : rF 94 (fun h9 => h9 = hX5_init_92 h) = Q
  suffices HY : ∀ (d : Nat) (y : Int) (x2 x3 : AV), y + d = 31 → 0 ≤ y → Wp mX5_init (kF fr 2 1953) Q (0, 0) 24 [zR 92, zI y, x2, x3] [] 94 (rtk h0 (y * 31)) by
    have := HY 31 0 none none (by decide) (by decide)
    rw [show (0 : Int) * 31 = 0 from rfl, rtk_0] at this
    exact this
  intro d
  induction d with
  | zero =>
    intro y x2 x3 hy y0
    refine s_iload_n (x := y) dX5_init_24 rfl ?_
    refine s_bipush dX5_init_25 (by decide) ?_
    refine s_icmp_ge (tgt := 84) dX5_init_27 (by decide) ⟨by omega, by omega⟩ ⟨by decide, by decide⟩ (fun q => ?_) (fun q => by omega)
    refine s_return dX5_init_84 rfl ?_ (fun _ => rfl)
    rw [← hQ]
    refine ⟨rfl, rfl, frz_rtk fz (by decide), ?_⟩
    rw [ed, show y = 31 by omega]
    rfl
  | succ d ih =>
    intro y x2 x3 hy y0
    refine s_iload_n (x := y) dX5_init_24 rfl ?_
    refine s_bipush dX5_init_25 (by decide) ?_
    refine s_icmp_ge (tgt := 84) dX5_init_27 (by decide) ⟨by omega, by omega⟩ ⟨by decide, by decide⟩ (fun q => by omega) (fun q => ?_)
    refine s_iload_n (x := y) dX5_init_30 rfl ?_
    refine s_istore_n dX5_init_31 rfl (by decide) ?_
    refine s_iconst dX5_init_32 ?_
    refine s_istore_n dX5_init_33 rfl (by decide) ?_
    suffices HX : ∀ (e : Nat) (x r : Int), x + e = 31 → 0 ≤ x → ((x = 0 ∧ r = y) ∨ (1 ≤ x ∧ r = ((rootN ((x - 1) * (x - 1) + y * y).toNat : Nat) : Int))) → Wp mX5_init (kF fr 2 1953) Q (0, 0) 34 [zR 92, zI y, zI r, zI x] [] 94 (rtk h0 (y * 31 + x)) by
      have := HX 31 0 y (by decide) (by decide) (Or.inl ⟨rfl, rfl⟩)
      rw [Int.add_zero] at this
      exact this
    intro e
    induction e with
    | zero =>
      intro x r hx x0 hp
      refine s_iload_n (x := x) dX5_init_34 rfl ?_
      refine s_bipush dX5_init_35 (by decide) ?_
      refine s_icmp_ge (tgt := 78) dX5_init_37 (by decide) ⟨by omega, by omega⟩ ⟨by decide, by decide⟩ (fun q => ?_) (fun q => by omega)
      refine s_iinc (x := y) dX5_init_78 rfl rfl (by decide) ?_
      refine s_goto (tgt := 24) dX5_init_81 (by decide) ?_
      have := ih (y + 1) (zI r) (zI x) (by omega) (by omega)
      rw [show (y + 1) * 31 = y * 31 + x by omega] at this
      exact this
    | succ e ihx =>
      intro x r hx x0 hp
      have m2 := mul_rng (a := x) (b := x) (A := 30) (B := 30) x0 (by omega) x0 (by omega)
      have m3 := mul_rng (a := y) (b := y) (A := 30) (B := 30) y0 (by omega) y0 (by omega)
      have rr : 0 ≤ r ∧ r ≤ 42 := by
        rcases hp with ⟨-, q⟩ | ⟨q, z⟩
        · omega
        · have m4 := mul_rng (a := x - 1) (b := x - 1) (A := 30) (B := 30) (by omega) (by omega) (by omega) (by omega)
          have : rootN ((x - 1) * (x - 1) + y * y).toNat ≤ 42 := rootN_le (by omega)
          omega
      have m1 := mul_rng (a := r + 1) (b := r + 1) (A := 43) (B := 43) (by omega) (by omega) (by omega) (by omega)
      obtain ⟨s1, s2⟩ := root_step x0 y0 hp
      refine s_iload_n (x := x) dX5_init_34 rfl ?_
      refine s_bipush dX5_init_35 (by decide) ?_
      refine s_icmp_ge (tgt := 78) dX5_init_37 (by decide) ⟨by omega, by omega⟩ ⟨by decide, by decide⟩ (fun q => by omega) (fun q => ?_)
      refine s_iload_n (x := r) dX5_init_40 rfl ?_
      refine s_iconst dX5_init_41 ?_
      refine s_iadd dX5_init_42 ?_
      refine s_iload_n (x := r) dX5_init_43 rfl ?_
      refine s_iconst dX5_init_44 ?_
      refine s_iadd dX5_init_45 ?_
      refine s_imul dX5_init_46 ?_
      refine s_iload_n (x := x) dX5_init_47 rfl ?_
      refine s_iload_n (x := x) dX5_init_48 rfl ?_
      refine s_imul dX5_init_49 ?_
      refine s_iload_n (x := y) dX5_init_50 rfl ?_
      refine s_iload_n (x := y) dX5_init_51 rfl ?_
      refine s_imul dX5_init_52 ?_
      refine s_iadd dX5_init_53 ?_
      have fin : ∀ r2 : Int, r2 = ((rootN (x * x + y * y).toNat : Nat) : Int) → Wp mX5_init (kF fr 2 1953) Q (0, 0) 60 [zR 92, zI y, zI r2, zI x] [] 94 (rtk h0 (y * 31 + x)) := by
        intro r2 e2
        refine s_aload_n (x := 92) dX5_init_60 rfl ?_
        refine s_getFd (c := 92) (d := 93) dX5_init_61 iX5_9 ⟨by decide, by decide, rfl⟩ (Or.inr (by rw [rtk_n (by decide)]; exact nz0)) (by decide) (by decide) ?_
        refine s_iload_n (x := y) dX5_init_64 rfl ?_
        refine s_bipush dX5_init_65 (by decide) ?_
        refine s_imul dX5_init_67 ?_
        refine s_iload_n (x := x) dX5_init_68 rfl ?_
        refine s_iadd dX5_init_69 ?_
        refine s_iload_n (x := r2) dX5_init_70 rfl ?_
        refine s_iast (N := 961) (c := 93) (i := y * 31 + x) dX5_init_71 ⟨by decide, by decide, rfl⟩ (by omega) (by omega) ?_
        refine s_iinc (x := x) dX5_init_72 rfl rfl (by decide) ?_
        refine s_goto (tgt := 34) dX5_init_75 (by decide) ?_
        have := ihx (x + 1) r2 (by omega) (by omega) (Or.inr ⟨by omega, by rw [e2, show x + 1 - 1 = x by omega]⟩)
        rw [rtk_s (by omega) (by rw [e2, show (y * 31 + x) % 31 = x by omega, show (y * 31 + x) / 31 = y by omega]), show y * 31 + x + 1 = y * 31 + (x + 1) by omega]
        exact this
      refine s_icmp_gt (tgt := 60) dX5_init_54 (by decide) ⟨by omega, by omega⟩ ⟨by omega, by omega⟩ (fun q => fin r (s1 q)) (fun q => ?_)
      refine s_iinc (x := r) dX5_init_57 rfl rfl (by decide) ?_
      exact fin (r + 1) (s2 q)

def hX1_init_95 (h : AH) : AH := (up (up h 95 0 1) 95 1 1)
theorem n_X1_init_95 {fr : Nat} {h : AH} (hf : 1 ≤ fr) (fz : frz 95 h) : Sp mX1_init false fr 2 34 [zR 95] 95 h (rF 97 (fun h9 => h9 = hX1_init_95 h)) := by
  refine Sp.mkF yX1_init_ok rfl rfl ?_
  show Wp _ _ _ _ 0 [zR 95] [] 95 _
  refine s_aload_n (x := 95) dX1_init_0 rfl ?_
  refine s_objInit dX1_init_1 we511 we33 we34 (by decide) (show 1 ≤ fr by omega) (Nat.le_of_ble_eq_true rfl) ?_
  refine s_aload_n (x := 95) dX1_init_4 rfl ?_
  refine s_bipush dX1_init_5 (by decide) ?_
  refine f_newarr (N := 16) (K := 100) dX1_init_7 we175 (Or.inl ⟨rfl, rfl⟩) rfl rfl rfl (by decide) (by decide) fz (fun fz => ?_)
  show Wp _ _ _ (1, 18) _ _ [zR 96, zR 95] 96 _
  refine f_putF (c := 95) (kz := 0) rfl dX1_init_9 iX1_9 ⟨by decide, by decide, rfl⟩ rfl (by decide) (by decide) (fun T C N e => by rw [tc_X1 e]; rfl) (by decide) fz (fun fz => ?_)
  refine s_aload_n (x := 95) dX1_init_12 rfl ?_
  refine s_bipush dX1_init_13 (by decide) ?_
  refine f_newarr (N := 18) (K := 100) dX1_init_15 we175 (Or.inl ⟨rfl, rfl⟩) rfl rfl rfl (by decide) (by decide) fz (fun fz => ?_)
  show Wp _ _ _ (0, 0) _ _ [zR 97, zR 95] 97 _
  refine f_putF (c := 95) (kz := 1) rfl dX1_init_17 iX1_15 ⟨by decide, by decide, rfl⟩ rfl (by decide) (by decide) (fun T C N e => by rw [tc_X1 e]; rfl) (by decide) fz (fun fz => ?_)
  exact s_return dX1_init_20 rfl ⟨rfl, rfl, fz, rfl⟩ (fun _ => by decide)
def hX11_init_1 (h : AH) : AH := (up (hX1_init_95 (up (hX5_init_92 (up (hX9_init_88 (up (hX3_init_82 (up (hX0_init_80 (up (hX10_init_55 (up (hX4_init_51 (up (hX7_init_47 (up (hX6_init_46 (up (up (hX8_init_40 (up (hX8_init_34 (up (hX2_init_19 (up (hX2_init_4 (up (up (up (up h 1 0 1) 1 1 0) 1 2 (-1)) 1 3 1)) 1 4 4)) 1 5 19)) 1 6 1)) 1 7 1) 1 8 0)) 1 9 1)) 1 10 1)) 1 11 1)) 1 12 1)) 1 13 1)) 1 14 1)) 1 15 1)) 1 16 1)) 1 17 1)
theorem n_X11_init_1 {fr : Nat} {h : AH} (hf : 5 ≤ fr) (fz : frz 1 h) : Sp mX11_init false fr 96 7672 [zR 1] 1 h (rF 97 (fun h9 => h9 = hX11_init_1 h)) := by
  refine Sp.mkF yX11_init_ok rfl rfl ?_
  show Wp _ _ _ _ 0 [zR 1] [] 1 _
  refine s_aload_n (x := 1) dX11_init_0 rfl ?_
  refine s_objInit dX11_init_1 we32 we33 we34 (by decide) (show 1 ≤ fr by omega) (Nat.le_of_ble_eq_true rfl) ?_
  refine s_aload_n (x := 1) dX11_init_4 rfl ?_
  refine s_sipush dX11_init_5 (by decide) ?_
  refine f_newarr (N := 700) (K := 101) dX11_init_8 we174 (Or.inr (Or.inl ⟨rfl, rfl⟩)) rfl rfl rfl (by decide) (by decide) fz (fun fz => ?_)
  show Wp _ _ _ (95, 6972) _ _ [zR 2, zR 1] 2 _
  refine f_putF (c := 1) (kz := 0) rfl dX11_init_10 iX11_9 ⟨by decide, by decide, rfl⟩ rfl (by decide) (by decide) (fun T C N e => by rw [tc_X11 e]; rfl) (by decide) fz (fun fz => ?_)
  refine s_aload_n (x := 1) dX11_init_13 rfl ?_
  refine s_iconst dX11_init_14 ?_
  refine f_put (c := 1) (kz := 1) rfl dX11_init_15 iX11_13 ⟨by decide, by decide, rfl⟩ (by decide) fz (fun fz => ?_)
  refine s_aload_n (x := 1) dX11_init_18 rfl ?_
  refine s_iconst dX11_init_19 ?_
  refine f_put (c := 1) (kz := 2) rfl dX11_init_20 iX11_17 ⟨by decide, by decide, rfl⟩ (by decide) fz (fun fz => ?_)
  refine s_aload_n (x := 1) dX11_init_23 rfl ?_
  refine s_iconst dX11_init_24 ?_
  refine f_newarr (N := 3) (K := 100) dX11_init_25 we175 (Or.inl ⟨rfl, rfl⟩) rfl rfl rfl (by decide) (by decide) fz (fun fz => ?_)
  show Wp _ _ _ (94, 6969) _ _ [zR 3, zR 1] 3 _
  refine f_putF (c := 1) (kz := 3) rfl dX11_init_27 iX11_20 ⟨by decide, by decide, rfl⟩ rfl (by decide) (by decide) (fun T C N e => by rw [tc_X11 e]; rfl) (by decide) fz (fun fz => ?_)
  refine s_aload_n (x := 1) dX11_init_30 rfl ?_
  refine f_new dX11_init_31 jX11_24 rfl rfl (by decide) (by decide) fz (fun fz => ?_)
  show Wp _ _ _ (93, 6948) _ _ [zR 4, zR 1] 4 _
  refine s_dup dX11_init_34 rfl ?_
  refine s_callI (as := []) (st := [zR 4, zR 1]) (o := 4) dX11_init_35 gX11_26 rfl we38 rfl rfl (by decide) rfl rfl (Nat.le_of_ble_eq_true rfl) (n_X2_init_4 (fr := fr - 1) (by omega) fz) rF_nt (show fr - 1 + 1 ≤ fr by omega) (by decide) (by decide) (fun v n9 h9 hP _ => ?_)
  obtain ⟨z1, z2, fz, z3⟩ := hP
  cases z1; subst z2; subst z3
  show Wp _ _ _ (79, 6789) _ _ [zR 4, zR 1] 18 _
  refine f_putR (c := 1) (kz := 4) rfl dX11_init_38 iX11_27 ⟨by decide, by decide, rfl⟩ (by decide) fz (fun fz => ?_)
  refine s_aload_n (x := 1) dX11_init_41 rfl ?_
  refine f_new dX11_init_42 jX11_24 rfl rfl (by decide) (by decide) fz (fun fz => ?_)
  show Wp _ _ _ (78, 6768) _ _ [zR 19, zR 1] 19 _
  refine s_dup dX11_init_45 rfl ?_
  refine s_callI (as := []) (st := [zR 19, zR 1]) (o := 19) dX11_init_46 gX11_26 rfl we38 rfl rfl (by decide) rfl rfl (Nat.le_of_ble_eq_true rfl) (n_X2_init_19 (fr := fr - 1) (by omega) fz) rF_nt (show fr - 1 + 1 ≤ fr by omega) (by decide) (by decide) (fun v n9 h9 hP _ => ?_)
  obtain ⟨z1, z2, fz, z3⟩ := hP
  cases z1; subst z2; subst z3
  show Wp _ _ _ (64, 6609) _ _ [zR 19, zR 1] 33 _
  refine f_putR (c := 1) (kz := 5) rfl dX11_init_49 iX11_31 ⟨by decide, by decide, rfl⟩ (by decide) fz (fun fz => ?_)
  refine s_aload_n (x := 1) dX11_init_52 rfl ?_
  refine f_new dX11_init_53 jX11_34 rfl rfl (by decide) (by decide) fz (fun fz => ?_)
  show Wp _ _ _ (63, 6601) _ _ [zR 34, zR 1] 34 _
  refine s_dup dX11_init_56 rfl ?_
  refine s_callI (as := []) (st := [zR 34, zR 1]) (o := 34) dX11_init_57 gX11_36 rfl we179 rfl rfl (by decide) rfl rfl (Nat.le_of_ble_eq_true rfl) (n_X8_init_34 (fr := fr - 1) (by omega) fz) rF_nt (show fr - 1 + 1 ≤ fr by omega) (by decide) (by decide) (fun v n9 h9 hP _ => ?_)
  obtain ⟨z1, z2, fz, z3⟩ := hP
  cases z1; subst z2; subst z3
  show Wp _ _ _ (58, 6319) _ _ [zR 34, zR 1] 39 _
  refine f_putF (c := 1) (kz := 6) rfl dX11_init_60 iX11_37 ⟨by decide, by decide, rfl⟩ rfl (by decide) (by decide) (fun T C N e => by rw [tc_X11 e]; rfl) (by decide) fz (fun fz => ?_)
  refine s_aload_n (x := 1) dX11_init_63 rfl ?_
  refine f_new dX11_init_64 jX11_34 rfl rfl (by decide) (by decide) fz (fun fz => ?_)
  show Wp _ _ _ (57, 6311) _ _ [zR 40, zR 1] 40 _
  refine s_dup dX11_init_67 rfl ?_
  refine s_callI (as := []) (st := [zR 40, zR 1]) (o := 40) dX11_init_68 gX11_36 rfl we179 rfl rfl (by decide) rfl rfl (Nat.le_of_ble_eq_true rfl) (n_X8_init_40 (fr := fr - 1) (by omega) fz) rF_nt (show fr - 1 + 1 ≤ fr by omega) (by decide) (by decide) (fun v n9 h9 hP _ => ?_)
  obtain ⟨z1, z2, fz, z3⟩ := hP
  cases z1; subst z2; subst z3
  show Wp _ _ _ (52, 6029) _ _ [zR 40, zR 1] 45 _
  refine f_putF (c := 1) (kz := 7) rfl dX11_init_71 iX11_41 ⟨by decide, by decide, rfl⟩ rfl (by decide) (by decide) (fun T C N e => by rw [tc_X11 e]; rfl) (by decide) fz (fun fz => ?_)
  refine s_aload_n (x := 1) dX11_init_74 rfl ?_
  refine s_iconst dX11_init_75 ?_
  refine f_putZ (c := 1) (kz := 8) rfl dX11_init_76 iX11_44 ⟨by decide, by decide, rfl⟩ (by decide) (by decide) fz (fun fz => ?_)
  refine s_aload_n (x := 1) dX11_init_79 rfl ?_
  refine f_new dX11_init_80 jX11_48 rfl rfl (by decide) (by decide) fz (fun fz => ?_)
  show Wp _ _ _ (51, 6017) _ _ [zR 46, zR 1] 46 _
  refine s_dup dX11_init_83 rfl ?_
  refine s_callIN (host := "EchoGorge") (as := []) (st := [zR 46, zR 1]) (o := 46) dX11_init_84 (by decide +kernel) gX11_50 rfl we238 rfl rfl (by decide) rfl rfl (Nat.le_of_ble_eq_true rfl) (n_X6_init_46 (fr := fr - 1) (by omega) fz) rF_nt (show fr - 1 + 1 ≤ fr by omega) (by decide) (by decide) (fun v n9 h9 hP _ => ?_)
  obtain ⟨z1, z2, fz, z3⟩ := hP
  cases z1; subst z2; subst z3
  show Wp _ _ _ (51, 6017) _ _ [zR 46, zR 1] 46 _
  refine f_putF (c := 1) (kz := 9) rfl dX11_init_87 iX11_51 ⟨by decide, by decide, rfl⟩ rfl (by decide) (by decide) (fun T C N e => by rw [tc_X11 e]; rfl) (by decide) fz (fun fz => ?_)
  refine s_aload_n (x := 1) dX11_init_90 rfl ?_
  refine f_new dX11_init_91 jX11_55 rfl rfl (by decide) (by decide) fz (fun fz => ?_)
  show Wp _ _ _ (50, 6008) _ _ [zR 47, zR 1] 47 _
  refine s_dup dX11_init_94 rfl ?_
  refine s_callIN (host := "EchoGorge") (as := []) (st := [zR 47, zR 1]) (o := 47) dX11_init_95 (by decide +kernel) gX11_57 rfl we282 rfl rfl (by decide) rfl rfl (Nat.le_of_ble_eq_true rfl) (n_X7_init_47 (fr := fr - 1) (by omega) fz) rF_nt (show fr - 1 + 1 ≤ fr by omega) (by decide) (by decide) (fun v n9 h9 hP _ => ?_)
  obtain ⟨z1, z2, fz, z3⟩ := hP
  cases z1; subst z2; subst z3
  show Wp _ _ _ (47, 5829) _ _ [zR 47, zR 1] 50 _
  refine f_putF (c := 1) (kz := 10) rfl dX11_init_98 iX11_58 ⟨by decide, by decide, rfl⟩ rfl (by decide) (by decide) (fun T C N e => by rw [tc_X11 e]; rfl) (by decide) fz (fun fz => ?_)
  refine s_aload_n (x := 1) dX11_init_101 rfl ?_
  refine f_new dX11_init_102 jX11_62 rfl rfl (by decide) (by decide) fz (fun fz => ?_)
  show Wp _ _ _ (46, 5820) _ _ [zR 51, zR 1] 51 _
  refine s_dup dX11_init_105 rfl ?_
  refine s_callIN (host := "EchoGorge") (as := []) (st := [zR 51, zR 1]) (o := 51) dX11_init_106 (by decide +kernel) gX11_64 rfl we323 rfl rfl (by decide) rfl rfl (Nat.le_of_ble_eq_true rfl) (n_X4_init_51 (fr := fr - 1) (by omega) fz) rF_nt (show fr - 1 + 1 ≤ fr by omega) (by decide) (by decide) (fun v n9 h9 hP _ => ?_)
  obtain ⟨z1, z2, fz, z3⟩ := hP
  cases z1; subst z2; subst z3
  show Wp _ _ _ (43, 5012) _ _ [zR 51, zR 1] 54 _
  refine f_putF (c := 1) (kz := 11) rfl dX11_init_109 iX11_65 ⟨by decide, by decide, rfl⟩ rfl (by decide) (by decide) (fun T C N e => by rw [tc_X11 e]; rfl) (by decide) fz (fun fz => ?_)
  refine s_aload_n (x := 1) dX11_init_112 rfl ?_
  refine f_new dX11_init_113 jX11_69 rfl rfl (by decide) (by decide) fz (fun fz => ?_)
  show Wp _ _ _ (42, 4996) _ _ [zR 55, zR 1] 55 _
  refine s_dup dX11_init_116 rfl ?_
  refine s_callI (as := []) (st := [zR 55, zR 1]) (o := 55) dX11_init_117 gX11_71 rfl we357 rfl rfl (by decide) rfl rfl (Nat.le_of_ble_eq_true rfl) (n_X10_init_55 (fr := fr - 1) (by omega) fz) rF_nt (show fr - 1 + 1 ≤ fr by omega) (by decide) (by decide) (fun v n9 h9 hP _ => ?_)
  obtain ⟨z1, z2, fz, z3⟩ := hP
  cases z1; subst z2; subst z3
  show Wp _ _ _ (18, 2291) _ _ [zR 55, zR 1] 79 _
  refine f_putF (c := 1) (kz := 12) rfl dX11_init_120 iX11_72 ⟨by decide, by decide, rfl⟩ rfl (by decide) (by decide) (fun T C N e => by rw [tc_X11 e]; rfl) (by decide) fz (fun fz => ?_)
  refine s_aload_n (x := 1) dX11_init_123 rfl ?_
  refine f_new dX11_init_124 jX11_76 rfl rfl (by decide) (by decide) fz (fun fz => ?_)
  show Wp _ _ _ (17, 2290) _ _ [zR 80, zR 1] 80 _
  refine s_dup dX11_init_127 rfl ?_
  refine s_callIN (host := "EchoGorge") (as := []) (st := [zR 80, zR 1]) (o := 80) dX11_init_128 (by decide +kernel) gX11_78 rfl we417 rfl rfl (by decide) rfl rfl (Nat.le_of_ble_eq_true rfl) (n_X0_init_80 (fr := fr - 1) (by omega) fz) rF_nt (show fr - 1 + 1 ≤ fr by omega) (by decide) (by decide) (fun v n9 h9 hP _ => ?_)
  obtain ⟨z1, z2, fz, z3⟩ := hP
  cases z1; subst z2; subst z3
  show Wp _ _ _ (16, 2282) _ _ [zR 80, zR 1] 81 _
  refine f_putF (c := 1) (kz := 13) rfl dX11_init_131 iX11_79 ⟨by decide, by decide, rfl⟩ rfl (by decide) (by decide) (fun T C N e => by rw [tc_X11 e]; rfl) (by decide) fz (fun fz => ?_)
  refine s_aload_n (x := 1) dX11_init_134 rfl ?_
  refine f_new dX11_init_135 jX11_83 rfl rfl (by decide) (by decide) fz (fun fz => ?_)
  show Wp _ _ _ (15, 2274) _ _ [zR 82, zR 1] 82 _
  refine s_dup dX11_init_138 rfl ?_
  refine s_callIN (host := "EchoGorge") (as := []) (st := [zR 82, zR 1]) (o := 82) dX11_init_139 (by decide +kernel) gX11_85 rfl we427 rfl rfl (by decide) rfl rfl (Nat.le_of_ble_eq_true rfl) (n_X3_init_82 (fr := fr - 1) (by omega) fz) rF_nt (show fr - 1 + 1 ≤ fr by omega) (by decide) (by decide) (fun v n9 h9 hP _ => ?_)
  obtain ⟨z1, z2, fz, z3⟩ := hP
  cases z1; subst z2; subst z3
  show Wp _ _ _ (10, 2080) _ _ [zR 82, zR 1] 87 _
  refine f_putF (c := 1) (kz := 14) rfl dX11_init_142 iX11_86 ⟨by decide, by decide, rfl⟩ rfl (by decide) (by decide) (fun T C N e => by rw [tc_X11 e]; rfl) (by decide) fz (fun fz => ?_)
  refine s_aload_n (x := 1) dX11_init_145 rfl ?_
  refine f_new dX11_init_146 jX11_90 rfl rfl (by decide) (by decide) fz (fun fz => ?_)
  show Wp _ _ _ (9, 2071) _ _ [zR 88, zR 1] 88 _
  refine s_dup dX11_init_149 rfl ?_
  refine s_callIN (host := "EchoGorge") (as := []) (st := [zR 88, zR 1]) (o := 88) dX11_init_150 (by decide +kernel) gX11_92 rfl we461 rfl rfl (by decide) rfl rfl (Nat.le_of_ble_eq_true rfl) (n_X9_init_88 (fr := fr - 1) (by omega) fz) rF_nt (show fr - 1 + 1 ≤ fr by omega) (by decide) (by decide) (fun v n9 h9 hP _ => ?_)
  obtain ⟨z1, z2, fz, z3⟩ := hP
  cases z1; subst z2; subst z3
  show Wp _ _ _ (6, 1994) _ _ [zR 88, zR 1] 91 _
  refine f_putF (c := 1) (kz := 15) rfl dX11_init_153 iX11_93 ⟨by decide, by decide, rfl⟩ rfl (by decide) (by decide) (fun T C N e => by rw [tc_X11 e]; rfl) (by decide) fz (fun fz => ?_)
  refine s_aload_n (x := 1) dX11_init_156 rfl ?_
  refine f_new dX11_init_157 jX11_97 rfl rfl (by decide) (by decide) fz (fun fz => ?_)
  show Wp _ _ _ (5, 1992) _ _ [zR 92, zR 1] 92 _
  refine s_dup dX11_init_160 rfl ?_
  refine s_callI (as := []) (st := [zR 92, zR 1]) (o := 92) dX11_init_161 gX11_99 rfl we496 rfl rfl (by decide) rfl rfl (Nat.le_of_ble_eq_true rfl) (n_X5_init_92 (fr := fr - 1) (by omega) fz) rF_nt (show fr - 1 + 1 ≤ fr by omega) (by decide) (by decide) (fun v n9 h9 hP _ => ?_)
  obtain ⟨z1, z2, fz, z3⟩ := hP
  cases z1; subst z2; subst z3
  show Wp _ _ _ (3, 39) _ _ [zR 92, zR 1] 94 _
  refine f_putF (c := 1) (kz := 16) rfl dX11_init_164 iX11_100 ⟨by decide, by decide, rfl⟩ rfl (by decide) (by decide) (fun T C N e => by rw [tc_X11 e]; rfl) (by decide) fz (fun fz => ?_)
  refine s_aload_n (x := 1) dX11_init_167 rfl ?_
  refine f_new dX11_init_168 jX11_104 rfl rfl (by decide) (by decide) fz (fun fz => ?_)
  show Wp _ _ _ (2, 34) _ _ [zR 95, zR 1] 95 _
  refine s_dup dX11_init_171 rfl ?_
  refine s_callIN (host := "EchoGorge") (as := []) (st := [zR 95, zR 1]) (o := 95) dX11_init_172 (by decide +kernel) gX11_106 rfl we509 rfl rfl (by decide) rfl rfl (Nat.le_of_ble_eq_true rfl) (n_X1_init_95 (fr := fr - 1) (by omega) fz) rF_nt (show fr - 1 + 1 ≤ fr by omega) (by decide) (by decide) (fun v n9 h9 hP _ => ?_)
  obtain ⟨z1, z2, fz, z3⟩ := hP
  cases z1; subst z2; subst z3
  show Wp _ _ _ (0, 0) _ _ [zR 95, zR 1] 97 _
  refine f_putF (c := 1) (kz := 17) rfl dX11_init_175 iX11_107 ⟨by decide, by decide, rfl⟩ rfl (by decide) (by decide) (fun T C N e => by rw [tc_X11 e]; rfl) (by decide) fz (fun fz => ?_)
  exact s_return dX11_init_178 rfl ⟨rfl, rfl, fz, rfl⟩ (fun _ => by decide)
