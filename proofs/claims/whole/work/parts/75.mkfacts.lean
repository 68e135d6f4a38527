/-! ===== making: what the tables say ===== -/
theorem dX0_init_0 : decode cX0_init 0 = .ok (.aload_n 0, 1) := by decide +kernel
theorem dX0_init_1 : decode cX0_init 1 = .ok (.invokespecial 3, 3) := by decide +kernel
theorem dX0_init_4 : decode cX0_init 4 = .ok (.aload_n 0, 1) := by decide +kernel
theorem dX0_init_5 : decode cX0_init 5 = .ok (.bipush 14, 2) := by decide +kernel
theorem dX0_init_7 : decode cX0_init 7 = .ok (.newarray .int, 2) := by decide +kernel
theorem dX0_init_9 : decode cX0_init 9 = .ok (.putfield 9, 3) := by decide +kernel
theorem dX0_init_12 : decode cX0_init 12 = .ok (.aload_n 0, 1) := by decide +kernel
theorem dX0_init_13 : decode cX0_init 13 = .ok (.bipush 14, 2) := by decide +kernel
theorem dX0_init_15 : decode cX0_init 15 = .ok (.newarray .int, 2) := by decide +kernel
theorem dX0_init_17 : decode cX0_init 17 = .ok (.putfield 15, 3) := by decide +kernel
theorem dX0_init_20 : decode cX0_init 20 = .ok (.aload_n 0, 1) := by decide +kernel
theorem dX0_init_21 : decode cX0_init 21 = .ok (.bipush 14, 2) := by decide +kernel
theorem dX0_init_23 : decode cX0_init 23 = .ok (.newarray .int, 2) := by decide +kernel
theorem dX0_init_25 : decode cX0_init 25 = .ok (.putfield 18, 3) := by decide +kernel
theorem dX0_init_28 : decode cX0_init 28 = .ok (.aload_n 0, 1) := by decide +kernel
theorem dX0_init_29 : decode cX0_init 29 = .ok (.bipush 14, 2) := by decide +kernel
theorem dX0_init_31 : decode cX0_init 31 = .ok (.bipush 96, 2) := by decide +kernel
theorem dX0_init_33 : decode cX0_init 33 = .ok (.multianewarray 21 2, 4) := by decide +kernel
theorem dX0_init_37 : decode cX0_init 37 = .ok (.putfield 23, 3) := by decide +kernel
theorem dX0_init_40 : decode cX0_init 40 = .ok (.aload_n 0, 1) := by decide +kernel
theorem dX0_init_41 : decode cX0_init 41 = .ok (.bipush 96, 2) := by decide +kernel
theorem dX0_init_43 : decode cX0_init 43 = .ok (.newarray .int, 2) := by decide +kernel
theorem dX0_init_45 : decode cX0_init 45 = .ok (.putfield 26, 3) := by decide +kernel
theorem dX0_init_48 : decode cX0_init 48 = .ok (.return_, 1) := by decide +kernel
theorem dX1_init_0 : decode cX1_init 0 = .ok (.aload_n 0, 1) := by decide +kernel
theorem dX1_init_1 : decode cX1_init 1 = .ok (.invokespecial 3, 3) := by decide +kernel
theorem dX1_init_4 : decode cX1_init 4 = .ok (.aload_n 0, 1) := by decide +kernel
theorem dX1_init_5 : decode cX1_init 5 = .ok (.bipush 96, 2) := by decide +kernel
theorem dX1_init_7 : decode cX1_init 7 = .ok (.newarray .int, 2) := by decide +kernel
theorem dX1_init_9 : decode cX1_init 9 = .ok (.putfield 9, 3) := by decide +kernel
theorem dX1_init_12 : decode cX1_init 12 = .ok (.aload_n 0, 1) := by decide +kernel
theorem dX1_init_13 : decode cX1_init 13 = .ok (.aload_n 1, 1) := by decide +kernel
theorem dX1_init_14 : decode cX1_init 14 = .ok (.putfield 15, 3) := by decide +kernel
theorem dX1_init_17 : decode cX1_init 17 = .ok (.return_, 1) := by decide +kernel
theorem dX2_init_0 : decode cX2_init 0 = .ok (.aload_n 0, 1) := by decide +kernel
theorem dX2_init_1 : decode cX2_init 1 = .ok (.invokespecial 3, 3) := by decide +kernel
theorem dX2_init_4 : decode cX2_init 4 = .ok (.return_, 1) := by decide +kernel
theorem dX3_init_0 : decode cX3_init 0 = .ok (.aload_n 0, 1) := by decide +kernel
theorem dX3_init_1 : decode cX3_init 1 = .ok (.invokespecial 3, 3) := by decide +kernel
theorem dX3_init_4 : decode cX3_init 4 = .ok (.aload_n 0, 1) := by decide +kernel
theorem dX3_init_5 : decode cX3_init 5 = .ok (.iconst (-1), 1) := by decide +kernel
theorem dX3_init_6 : decode cX3_init 6 = .ok (.putfield 9, 3) := by decide +kernel
theorem dX3_init_9 : decode cX3_init 9 = .ok (.aload_n 0, 1) := by decide +kernel
theorem dX3_init_10 : decode cX3_init 10 = .ok (.iconst 0, 1) := by decide +kernel
theorem dX3_init_11 : decode cX3_init 11 = .ok (.putfield 15, 3) := by decide +kernel
theorem dX3_init_14 : decode cX3_init 14 = .ok (.aload_n 0, 1) := by decide +kernel
theorem dX3_init_15 : decode cX3_init 15 = .ok (.bipush 24, 2) := by decide +kernel
theorem dX3_init_17 : decode cX3_init 17 = .ok (.newarray .int, 2) := by decide +kernel
theorem dX3_init_19 : decode cX3_init 19 = .ok (.putfield 18, 3) := by decide +kernel
theorem dX3_init_22 : decode cX3_init 22 = .ok (.return_, 1) := by decide +kernel
theorem dX4_init_0 : decode cX4_init 0 = .ok (.aload_n 0, 1) := by decide +kernel
theorem dX4_init_1 : decode cX4_init 1 = .ok (.invokespecial 3, 3) := by decide +kernel
theorem dX4_init_4 : decode cX4_init 4 = .ok (.aload_n 0, 1) := by decide +kernel
theorem dX4_init_5 : decode cX4_init 5 = .ok (.iconst 0, 1) := by decide +kernel
theorem dX4_init_6 : decode cX4_init 6 = .ok (.putfield 9, 3) := by decide +kernel
theorem dX4_init_9 : decode cX4_init 9 = .ok (.aload_n 0, 1) := by decide +kernel
theorem dX4_init_10 : decode cX4_init 10 = .ok (.iconst 0, 1) := by decide +kernel
theorem dX4_init_11 : decode cX4_init 11 = .ok (.putfield 15, 3) := by decide +kernel
theorem dX4_init_14 : decode cX4_init 14 = .ok (.aload_n 0, 1) := by decide +kernel
theorem dX4_init_15 : decode cX4_init 15 = .ok (.new 18, 3) := by decide +kernel
theorem dX4_init_18 : decode cX4_init 18 = .ok (.dup, 1) := by decide +kernel
theorem dX4_init_19 : decode cX4_init 19 = .ok (.invokespecial 20, 3) := by decide +kernel
theorem dX4_init_22 : decode cX4_init 22 = .ok (.putfield 21, 3) := by decide +kernel
theorem dX4_init_25 : decode cX4_init 25 = .ok (.aload_n 0, 1) := by decide +kernel
theorem dX4_init_26 : decode cX4_init 26 = .ok (.new 25, 3) := by decide +kernel
theorem dX4_init_29 : decode cX4_init 29 = .ok (.dup, 1) := by decide +kernel
theorem dX4_init_30 : decode cX4_init 30 = .ok (.invokespecial 27, 3) := by decide +kernel
theorem dX4_init_33 : decode cX4_init 33 = .ok (.putfield 28, 3) := by decide +kernel
theorem dX4_init_36 : decode cX4_init 36 = .ok (.return_, 1) := by decide +kernel
theorem dX5_init_0 : decode cX5_init 0 = .ok (.aload_n 0, 1) := by decide +kernel
theorem dX5_init_1 : decode cX5_init 1 = .ok (.invokespecial 3, 3) := by decide +kernel
theorem dX5_init_4 : decode cX5_init 4 = .ok (.aload_n 0, 1) := by decide +kernel
theorem dX5_init_5 : decode cX5_init 5 = .ok (.bipush 8, 2) := by decide +kernel
theorem dX5_init_7 : decode cX5_init 7 = .ok (.anewarray 9, 3) := by decide +kernel
theorem dX5_init_10 : decode cX5_init 10 = .ok (.putfield 11, 3) := by decide +kernel
theorem dX5_init_13 : decode cX5_init 13 = .ok (.aload_n 0, 1) := by decide +kernel
theorem dX5_init_14 : decode cX5_init 14 = .ok (.bipush 24, 2) := by decide +kernel
theorem dX5_init_16 : decode cX5_init 16 = .ok (.newarray .int, 2) := by decide +kernel
theorem dX5_init_18 : decode cX5_init 18 = .ok (.putfield 17, 3) := by decide +kernel
theorem dX5_init_21 : decode cX5_init 21 = .ok (.aload_n 0, 1) := by decide +kernel
theorem dX5_init_22 : decode cX5_init 22 = .ok (.bipush 24, 2) := by decide +kernel
theorem dX5_init_24 : decode cX5_init 24 = .ok (.newarray .int, 2) := by decide +kernel
theorem dX5_init_26 : decode cX5_init 26 = .ok (.putfield 21, 3) := by decide +kernel
theorem dX5_init_29 : decode cX5_init 29 = .ok (.aload_n 0, 1) := by decide +kernel
theorem dX5_init_30 : decode cX5_init 30 = .ok (.iconst 3, 1) := by decide +kernel
theorem dX5_init_31 : decode cX5_init 31 = .ok (.newarray .int, 2) := by decide +kernel
theorem dX5_init_33 : decode cX5_init 33 = .ok (.dup, 1) := by decide +kernel
theorem dX5_init_34 : decode cX5_init 34 = .ok (.iconst 0, 1) := by decide +kernel
theorem dX5_init_35 : decode cX5_init 35 = .ok (.ldc 24, 2) := by decide +kernel
theorem dX5_init_37 : decode cX5_init 37 = .ok (.iastore, 1) := by decide +kernel
theorem dX5_init_38 : decode cX5_init 38 = .ok (.dup, 1) := by decide +kernel
theorem dX5_init_39 : decode cX5_init 39 = .ok (.iconst 1, 1) := by decide +kernel
theorem dX5_init_40 : decode cX5_init 40 = .ok (.ldc 24, 2) := by decide +kernel
theorem dX5_init_42 : decode cX5_init 42 = .ok (.iastore, 1) := by decide +kernel
theorem dX5_init_43 : decode cX5_init 43 = .ok (.dup, 1) := by decide +kernel
theorem dX5_init_44 : decode cX5_init 44 = .ok (.iconst 2, 1) := by decide +kernel
theorem dX5_init_45 : decode cX5_init 45 = .ok (.ldc 24, 2) := by decide +kernel
theorem dX5_init_47 : decode cX5_init 47 = .ok (.iastore, 1) := by decide +kernel
theorem dX5_init_48 : decode cX5_init 48 = .ok (.putfield 25, 3) := by decide +kernel
theorem dX5_init_51 : decode cX5_init 51 = .ok (.aload_n 0, 1) := by decide +kernel
theorem dX5_init_52 : decode cX5_init 52 = .ok (.iconst 0, 1) := by decide +kernel
theorem dX5_init_53 : decode cX5_init 53 = .ok (.putfield 28, 3) := by decide +kernel
theorem dX5_init_56 : decode cX5_init 56 = .ok (.aload_n 0, 1) := by decide +kernel
theorem dX5_init_57 : decode cX5_init 57 = .ok (.iconst 0, 1) := by decide +kernel
theorem dX5_init_58 : decode cX5_init 58 = .ok (.putfield 32, 3) := by decide +kernel
theorem dX5_init_61 : decode cX5_init 61 = .ok (.aload_n 0, 1) := by decide +kernel
theorem dX5_init_62 : decode cX5_init 62 = .ok (.bipush 18, 2) := by decide +kernel
theorem dX5_init_64 : decode cX5_init 64 = .ok (.putfield 35, 3) := by decide +kernel
theorem dX5_init_67 : decode cX5_init 67 = .ok (.aload_n 0, 1) := by decide +kernel
theorem dX5_init_68 : decode cX5_init 68 = .ok (.iconst 0, 1) := by decide +kernel
theorem dX5_init_69 : decode cX5_init 69 = .ok (.putfield 38, 3) := by decide +kernel
theorem dX5_init_72 : decode cX5_init 72 = .ok (.aload_n 0, 1) := by decide +kernel
theorem dX5_init_73 : decode cX5_init 73 = .ok (.iconst 1, 1) := by decide +kernel
theorem dX5_init_74 : decode cX5_init 74 = .ok (.putfield 41, 3) := by decide +kernel
theorem dX5_init_77 : decode cX5_init 77 = .ok (.aload_n 0, 1) := by decide +kernel
theorem dX5_init_78 : decode cX5_init 78 = .ok (.iconst 0, 1) := by decide +kernel
theorem dX5_init_79 : decode cX5_init 79 = .ok (.putfield 44, 3) := by decide +kernel
theorem dX5_init_82 : decode cX5_init 82 = .ok (.aload_n 0, 1) := by decide +kernel
theorem dX5_init_83 : decode cX5_init 83 = .ok (.iconst 0, 1) := by decide +kernel
theorem dX5_init_84 : decode cX5_init 84 = .ok (.putfield 47, 3) := by decide +kernel
theorem dX5_init_87 : decode cX5_init 87 = .ok (.aload_n 0, 1) := by decide +kernel
theorem dX5_init_88 : decode cX5_init 88 = .ok (.iconst 0, 1) := by decide +kernel
theorem dX5_init_89 : decode cX5_init 89 = .ok (.putfield 50, 3) := by decide +kernel
theorem dX5_init_92 : decode cX5_init 92 = .ok (.aload_n 0, 1) := by decide +kernel
theorem dX5_init_93 : decode cX5_init 93 = .ok (.iconst 0, 1) := by decide +kernel
theorem dX5_init_94 : decode cX5_init 94 = .ok (.putfield 53, 3) := by decide +kernel
theorem dX5_init_97 : decode cX5_init 97 = .ok (.aload_n 0, 1) := by decide +kernel
theorem dX5_init_98 : decode cX5_init 98 = .ok (.iconst 0, 1) := by decide +kernel
theorem dX5_init_99 : decode cX5_init 99 = .ok (.putfield 56, 3) := by decide +kernel
theorem dX5_init_102 : decode cX5_init 102 = .ok (.aload_n 0, 1) := by decide +kernel
theorem dX5_init_103 : decode cX5_init 103 = .ok (.iconst 0, 1) := by decide +kernel
theorem dX5_init_104 : decode cX5_init 104 = .ok (.putfield 59, 3) := by decide +kernel
theorem dX5_init_107 : decode cX5_init 107 = .ok (.aload_n 0, 1) := by decide +kernel
theorem dX5_init_108 : decode cX5_init 108 = .ok (.aload_n 1, 1) := by decide +kernel
theorem dX5_init_109 : decode cX5_init 109 = .ok (.putfield 62, 3) := by decide +kernel
theorem dX5_init_112 : decode cX5_init 112 = .ok (.iconst 0, 1) := by decide +kernel
theorem dX5_init_113 : decode cX5_init 113 = .ok (.istore_n 2, 1) := by decide +kernel
theorem dX5_init_114 : decode cX5_init 114 = .ok (.iload_n 2, 1) := by decide +kernel
theorem dX5_init_115 : decode cX5_init 115 = .ok (.bipush 8, 2) := by decide +kernel
theorem dX5_init_117 : decode cX5_init 117 = .ok (.if_icmp .ge 22, 3) := by decide +kernel
theorem dX5_init_120 : decode cX5_init 120 = .ok (.aload_n 0, 1) := by decide +kernel
theorem dX5_init_121 : decode cX5_init 121 = .ok (.getfield 11, 3) := by decide +kernel
theorem dX5_init_124 : decode cX5_init 124 = .ok (.iload_n 2, 1) := by decide +kernel
theorem dX5_init_125 : decode cX5_init 125 = .ok (.new 9, 3) := by decide +kernel
theorem dX5_init_128 : decode cX5_init 128 = .ok (.dup, 1) := by decide +kernel
theorem dX5_init_129 : decode cX5_init 129 = .ok (.invokespecial 66, 3) := by decide +kernel
theorem dX5_init_132 : decode cX5_init 132 = .ok (.aastore, 1) := by decide +kernel
theorem dX5_init_133 : decode cX5_init 133 = .ok (.iinc 2 1, 3) := by decide +kernel
theorem dX5_init_136 : decode cX5_init 136 = .ok (.goto (-22), 3) := by decide +kernel
theorem dX5_init_139 : decode cX5_init 139 = .ok (.return_, 1) := by decide +kernel
theorem dX6_init_0 : decode cX6_init 0 = .ok (.aload_n 0, 1) := by decide +kernel
theorem dX6_init_1 : decode cX6_init 1 = .ok (.invokespecial 1, 3) := by decide +kernel
theorem dX6_init_4 : decode cX6_init 4 = .ok (.aload_n 0, 1) := by decide +kernel
theorem dX6_init_5 : decode cX6_init 5 = .ok (.new 7, 3) := by decide +kernel
theorem dX6_init_8 : decode cX6_init 8 = .ok (.dup, 1) := by decide +kernel
theorem dX6_init_9 : decode cX6_init 9 = .ok (.invokespecial 9, 3) := by decide +kernel
theorem dX6_init_12 : decode cX6_init 12 = .ok (.putfield 10, 3) := by decide +kernel
theorem dX6_init_15 : decode cX6_init 15 = .ok (.aload_n 0, 1) := by decide +kernel
theorem dX6_init_16 : decode cX6_init 16 = .ok (.new 16, 3) := by decide +kernel
theorem dX6_init_19 : decode cX6_init 19 = .ok (.dup, 1) := by decide +kernel
theorem dX6_init_20 : decode cX6_init 20 = .ok (.aload_n 0, 1) := by decide +kernel
theorem dX6_init_21 : decode cX6_init 21 = .ok (.getfield 10, 3) := by decide +kernel
theorem dX6_init_24 : decode cX6_init 24 = .ok (.invokespecial 18, 3) := by decide +kernel
theorem dX6_init_27 : decode cX6_init 27 = .ok (.putfield 21, 3) := by decide +kernel
theorem dX6_init_30 : decode cX6_init 30 = .ok (.aload_n 0, 1) := by decide +kernel
theorem dX6_init_31 : decode cX6_init 31 = .ok (.new 16, 3) := by decide +kernel
theorem dX6_init_34 : decode cX6_init 34 = .ok (.dup, 1) := by decide +kernel
theorem dX6_init_35 : decode cX6_init 35 = .ok (.aload_n 0, 1) := by decide +kernel
theorem dX6_init_36 : decode cX6_init 36 = .ok (.getfield 10, 3) := by decide +kernel
theorem dX6_init_39 : decode cX6_init 39 = .ok (.invokespecial 18, 3) := by decide +kernel
theorem dX6_init_42 : decode cX6_init 42 = .ok (.putfield 25, 3) := by decide +kernel
theorem dX6_init_45 : decode cX6_init 45 = .ok (.aload_n 0, 1) := by decide +kernel
theorem dX6_init_46 : decode cX6_init 46 = .ok (.new 16, 3) := by decide +kernel
theorem dX6_init_49 : decode cX6_init 49 = .ok (.dup, 1) := by decide +kernel
theorem dX6_init_50 : decode cX6_init 50 = .ok (.aload_n 0, 1) := by decide +kernel
theorem dX6_init_51 : decode cX6_init 51 = .ok (.getfield 10, 3) := by decide +kernel
theorem dX6_init_54 : decode cX6_init 54 = .ok (.invokespecial 18, 3) := by decide +kernel
theorem dX6_init_57 : decode cX6_init 57 = .ok (.putfield 28, 3) := by decide +kernel
theorem dX6_init_60 : decode cX6_init 60 = .ok (.aload_n 0, 1) := by decide +kernel
theorem dX6_init_61 : decode cX6_init 61 = .ok (.iconst 0, 1) := by decide +kernel
theorem dX6_init_62 : decode cX6_init 62 = .ok (.putfield 31, 3) := by decide +kernel
theorem dX6_init_65 : decode cX6_init 65 = .ok (.aload_n 0, 1) := by decide +kernel
theorem dX6_init_66 : decode cX6_init 66 = .ok (.bipush 96, 2) := by decide +kernel
theorem dX6_init_68 : decode cX6_init 68 = .ok (.newarray .int, 2) := by decide +kernel
theorem dX6_init_70 : decode cX6_init 70 = .ok (.putfield 35, 3) := by decide +kernel
theorem dX6_init_73 : decode cX6_init 73 = .ok (.aload_n 0, 1) := by decide +kernel
theorem dX6_init_74 : decode cX6_init 74 = .ok (.iconst 0, 1) := by decide +kernel
theorem dX6_init_75 : decode cX6_init 75 = .ok (.putfield 39, 3) := by decide +kernel
theorem dX6_init_78 : decode cX6_init 78 = .ok (.aload_n 0, 1) := by decide +kernel
theorem dX6_init_79 : decode cX6_init 79 = .ok (.new 43, 3) := by decide +kernel
theorem dX6_init_82 : decode cX6_init 82 = .ok (.dup, 1) := by decide +kernel
theorem dX6_init_83 : decode cX6_init 83 = .ok (.aload_n 0, 1) := by decide +kernel
theorem dX6_init_84 : decode cX6_init 84 = .ok (.getfield 35, 3) := by decide +kernel
theorem dX6_init_87 : decode cX6_init 87 = .ok (.invokespecial 45, 3) := by decide +kernel
theorem dX6_init_90 : decode cX6_init 90 = .ok (.putfield 48, 3) := by decide +kernel
theorem dX6_init_93 : decode cX6_init 93 = .ok (.aload_n 0, 1) := by decide +kernel
theorem dX6_init_94 : decode cX6_init 94 = .ok (.iconst 4, 1) := by decide +kernel
theorem dX6_init_95 : decode cX6_init 95 = .ok (.anewarray 52, 3) := by decide +kernel
theorem dX6_init_98 : decode cX6_init 98 = .ok (.putfield 54, 3) := by decide +kernel
theorem dX6_init_101 : decode cX6_init 101 = .ok (.aload_n 0, 1) := by decide +kernel
theorem dX6_init_102 : decode cX6_init 102 = .ok (.iconst 5, 1) := by decide +kernel
theorem dX6_init_103 : decode cX6_init 103 = .ok (.anewarray 58, 3) := by decide +kernel
theorem dX6_init_106 : decode cX6_init 106 = .ok (.putfield 60, 3) := by decide +kernel
theorem dX6_init_109 : decode cX6_init 109 = .ok (.aload_n 0, 1) := by decide +kernel
theorem dX6_init_110 : decode cX6_init 110 = .ok (.bipush 60, 2) := by decide +kernel
theorem dX6_init_112 : decode cX6_init 112 = .ok (.newarray .int, 2) := by decide +kernel
theorem dX6_init_114 : decode cX6_init 114 = .ok (.putfield 64, 3) := by decide +kernel
theorem dX6_init_117 : decode cX6_init 117 = .ok (.aload_n 0, 1) := by decide +kernel
theorem dX6_init_118 : decode cX6_init 118 = .ok (.iconst 0, 1) := by decide +kernel
theorem dX6_init_119 : decode cX6_init 119 = .ok (.putfield 67, 3) := by decide +kernel
theorem dX6_init_122 : decode cX6_init 122 = .ok (.aload_n 0, 1) := by decide +kernel
theorem dX6_init_123 : decode cX6_init 123 = .ok (.bipush 8, 2) := by decide +kernel
theorem dX6_init_125 : decode cX6_init 125 = .ok (.newarray .int, 2) := by decide +kernel
theorem dX6_init_127 : decode cX6_init 127 = .ok (.putfield 70, 3) := by decide +kernel
theorem dX6_init_130 : decode cX6_init 130 = .ok (.iconst 0, 1) := by decide +kernel
theorem dX6_init_131 : decode cX6_init 131 = .ok (.istore_n 1, 1) := by decide +kernel
theorem dX6_init_132 : decode cX6_init 132 = .ok (.iload_n 1, 1) := by decide +kernel
theorem dX6_init_133 : decode cX6_init 133 = .ok (.iconst 4, 1) := by decide +kernel
theorem dX6_init_134 : decode cX6_init 134 = .ok (.if_icmp .ge 22, 3) := by decide +kernel
theorem dX6_init_137 : decode cX6_init 137 = .ok (.aload_n 0, 1) := by decide +kernel
theorem dX6_init_138 : decode cX6_init 138 = .ok (.getfield 54, 3) := by decide +kernel
theorem dX6_init_141 : decode cX6_init 141 = .ok (.iload_n 1, 1) := by decide +kernel
theorem dX6_init_142 : decode cX6_init 142 = .ok (.new 52, 3) := by decide +kernel
theorem dX6_init_145 : decode cX6_init 145 = .ok (.dup, 1) := by decide +kernel
theorem dX6_init_146 : decode cX6_init 146 = .ok (.invokespecial 73, 3) := by decide +kernel
theorem dX6_init_149 : decode cX6_init 149 = .ok (.aastore, 1) := by decide +kernel
theorem dX6_init_150 : decode cX6_init 150 = .ok (.iinc 1 1, 3) := by decide +kernel
theorem dX6_init_153 : decode cX6_init 153 = .ok (.goto (-21), 3) := by decide +kernel
theorem dX6_init_156 : decode cX6_init 156 = .ok (.iconst 0, 1) := by decide +kernel
theorem dX6_init_157 : decode cX6_init 157 = .ok (.istore_n 1, 1) := by decide +kernel
theorem dX6_init_158 : decode cX6_init 158 = .ok (.iload_n 1, 1) := by decide +kernel
theorem dX6_init_159 : decode cX6_init 159 = .ok (.iconst 5, 1) := by decide +kernel
theorem dX6_init_160 : decode cX6_init 160 = .ok (.if_icmp .ge 22, 3) := by decide +kernel
theorem dX6_init_163 : decode cX6_init 163 = .ok (.aload_n 0, 1) := by decide +kernel
theorem dX6_init_164 : decode cX6_init 164 = .ok (.getfield 60, 3) := by decide +kernel
theorem dX6_init_167 : decode cX6_init 167 = .ok (.iload_n 1, 1) := by decide +kernel
theorem dX6_init_168 : decode cX6_init 168 = .ok (.new 58, 3) := by decide +kernel
theorem dX6_init_171 : decode cX6_init 171 = .ok (.dup, 1) := by decide +kernel
theorem dX6_init_172 : decode cX6_init 172 = .ok (.invokespecial 74, 3) := by decide +kernel
theorem dX6_init_175 : decode cX6_init 175 = .ok (.aastore, 1) := by decide +kernel
theorem dX6_init_176 : decode cX6_init 176 = .ok (.iinc 1 1, 3) := by decide +kernel
theorem dX6_init_179 : decode cX6_init 179 = .ok (.goto (-21), 3) := by decide +kernel
theorem dX6_init_182 : decode cX6_init 182 = .ok (.return_, 1) := by decide +kernel
theorem dX7_init_0 : decode cX7_init 0 = .ok (.aload_n 0, 1) := by decide +kernel
theorem dX7_init_1 : decode cX7_init 1 = .ok (.invokespecial 1, 3) := by decide +kernel
theorem dX7_init_4 : decode cX7_init 4 = .ok (.aload_n 0, 1) := by decide +kernel
theorem dX7_init_5 : decode cX7_init 5 = .ok (.sipush 1479, 3) := by decide +kernel
theorem dX7_init_8 : decode cX7_init 8 = .ok (.newarray .int, 2) := by decide +kernel
theorem dX7_init_10 : decode cX7_init 10 = .ok (.putfield 9, 3) := by decide +kernel
theorem dX7_init_13 : decode cX7_init 13 = .ok (.aload_n 0, 1) := by decide +kernel
theorem dX7_init_14 : decode cX7_init 14 = .ok (.sipush 1479, 3) := by decide +kernel
theorem dX7_init_17 : decode cX7_init 17 = .ok (.newarray .int, 2) := by decide +kernel
theorem dX7_init_19 : decode cX7_init 19 = .ok (.putfield 13, 3) := by decide +kernel
theorem dX7_init_22 : decode cX7_init 22 = .ok (.aload_n 0, 1) := by decide +kernel
theorem dX7_init_23 : decode cX7_init 23 = .ok (.sipush 1479, 3) := by decide +kernel
theorem dX7_init_26 : decode cX7_init 26 = .ok (.newarray .int, 2) := by decide +kernel
theorem dX7_init_28 : decode cX7_init 28 = .ok (.putfield 16, 3) := by decide +kernel
theorem dX7_init_31 : decode cX7_init 31 = .ok (.aload_n 0, 1) := by decide +kernel
theorem dX7_init_32 : decode cX7_init 32 = .ok (.bipush 107, 2) := by decide +kernel
theorem dX7_init_34 : decode cX7_init 34 = .ok (.newarray .int, 2) := by decide +kernel
theorem dX7_init_36 : decode cX7_init 36 = .ok (.putfield 19, 3) := by decide +kernel
theorem dX7_init_39 : decode cX7_init 39 = .ok (.aload_n 0, 1) := by decide +kernel
theorem dX7_init_40 : decode cX7_init 40 = .ok (.bipush 96, 2) := by decide +kernel
theorem dX7_init_42 : decode cX7_init 42 = .ok (.newarray .int, 2) := by decide +kernel
theorem dX7_init_44 : decode cX7_init 44 = .ok (.putfield 22, 3) := by decide +kernel
theorem dX7_init_47 : decode cX7_init 47 = .ok (.aload_n 0, 1) := by decide +kernel
theorem dX7_init_48 : decode cX7_init 48 = .ok (.bipush 13, 2) := by decide +kernel
theorem dX7_init_50 : decode cX7_init 50 = .ok (.newarray .char, 2) := by decide +kernel
theorem dX7_init_52 : decode cX7_init 52 = .ok (.dup, 1) := by decide +kernel
theorem dX7_init_53 : decode cX7_init 53 = .ok (.iconst 0, 1) := by decide +kernel
theorem dX7_init_54 : decode cX7_init 54 = .ok (.bipush 109, 2) := by decide +kernel
theorem dX7_init_56 : decode cX7_init 56 = .ok (.castore, 1) := by decide +kernel
theorem dX7_init_57 : decode cX7_init 57 = .ok (.dup, 1) := by decide +kernel
theorem dX7_init_58 : decode cX7_init 58 = .ok (.iconst 1, 1) := by decide +kernel
theorem dX7_init_59 : decode cX7_init 59 = .ok (.bipush 101, 2) := by decide +kernel
theorem dX7_init_61 : decode cX7_init 61 = .ok (.castore, 1) := by decide +kernel
theorem dX7_init_62 : decode cX7_init 62 = .ok (.dup, 1) := by decide +kernel
theorem dX7_init_63 : decode cX7_init 63 = .ok (.iconst 2, 1) := by decide +kernel
theorem dX7_init_64 : decode cX7_init 64 = .ok (.bipush 108, 2) := by decide +kernel
theorem dX7_init_66 : decode cX7_init 66 = .ok (.castore, 1) := by decide +kernel
theorem dX7_init_67 : decode cX7_init 67 = .ok (.dup, 1) := by decide +kernel
theorem dX7_init_68 : decode cX7_init 68 = .ok (.iconst 3, 1) := by decide +kernel
theorem dX7_init_69 : decode cX7_init 69 = .ok (.bipush 116, 2) := by decide +kernel
theorem dX7_init_71 : decode cX7_init 71 = .ok (.castore, 1) := by decide +kernel
theorem dX7_init_72 : decode cX7_init 72 = .ok (.dup, 1) := by decide +kernel
theorem dX7_init_73 : decode cX7_init 73 = .ok (.iconst 4, 1) := by decide +kernel
theorem dX7_init_74 : decode cX7_init 74 = .ok (.bipush 111, 2) := by decide +kernel
theorem dX7_init_76 : decode cX7_init 76 = .ok (.castore, 1) := by decide +kernel
theorem dX7_init_77 : decode cX7_init 77 = .ok (.dup, 1) := by decide +kernel
theorem dX7_init_78 : decode cX7_init 78 = .ok (.iconst 5, 1) := by decide +kernel
theorem dX7_init_79 : decode cX7_init 79 = .ok (.bipush 119, 2) := by decide +kernel
theorem dX7_init_81 : decode cX7_init 81 = .ok (.castore, 1) := by decide +kernel
theorem dX7_init_82 : decode cX7_init 82 = .ok (.dup, 1) := by decide +kernel
theorem dX7_init_83 : decode cX7_init 83 = .ok (.bipush 6, 2) := by decide +kernel
theorem dX7_init_85 : decode cX7_init 85 = .ok (.bipush 110, 2) := by decide +kernel
theorem dX7_init_87 : decode cX7_init 87 = .ok (.castore, 1) := by decide +kernel
theorem dX7_init_88 : decode cX7_init 88 = .ok (.dup, 1) := by decide +kernel
theorem dX7_init_89 : decode cX7_init 89 = .ok (.bipush 7, 2) := by decide +kernel
theorem dX7_init_91 : decode cX7_init 91 = .ok (.bipush 101, 2) := by decide +kernel
theorem dX7_init_93 : decode cX7_init 93 = .ok (.castore, 1) := by decide +kernel
theorem dX7_init_94 : decode cX7_init 94 = .ok (.dup, 1) := by decide +kernel
theorem dX7_init_95 : decode cX7_init 95 = .ok (.bipush 8, 2) := by decide +kernel
theorem dX7_init_97 : decode cX7_init 97 = .ok (.bipush 114, 2) := by decide +kernel
theorem dX7_init_99 : decode cX7_init 99 = .ok (.castore, 1) := by decide +kernel
theorem dX7_init_100 : decode cX7_init 100 = .ok (.dup, 1) := by decide +kernel
theorem dX7_init_101 : decode cX7_init 101 = .ok (.bipush 9, 2) := by decide +kernel
theorem dX7_init_103 : decode cX7_init 103 = .ok (.bipush 102, 2) := by decide +kernel
theorem dX7_init_105 : decode cX7_init 105 = .ok (.castore, 1) := by decide +kernel
theorem dX7_init_106 : decode cX7_init 106 = .ok (.dup, 1) := by decide +kernel
theorem dX7_init_107 : decode cX7_init 107 = .ok (.bipush 10, 2) := by decide +kernel
theorem dX7_init_109 : decode cX7_init 109 = .ok (.bipush 105, 2) := by decide +kernel
theorem dX7_init_111 : decode cX7_init 111 = .ok (.castore, 1) := by decide +kernel
theorem dX7_init_112 : decode cX7_init 112 = .ok (.dup, 1) := by decide +kernel
theorem dX7_init_113 : decode cX7_init 113 = .ok (.bipush 11, 2) := by decide +kernel
theorem dX7_init_115 : decode cX7_init 115 = .ok (.bipush 110, 2) := by decide +kernel
theorem dX7_init_117 : decode cX7_init 117 = .ok (.castore, 1) := by decide +kernel
theorem dX7_init_118 : decode cX7_init 118 = .ok (.dup, 1) := by decide +kernel
theorem dX7_init_119 : decode cX7_init 119 = .ok (.bipush 12, 2) := by decide +kernel
theorem dX7_init_121 : decode cX7_init 121 = .ok (.bipush 101, 2) := by decide +kernel
theorem dX7_init_123 : decode cX7_init 123 = .ok (.castore, 1) := by decide +kernel
theorem dX7_init_124 : decode cX7_init 124 = .ok (.putfield 25, 3) := by decide +kernel
theorem dX7_init_127 : decode cX7_init 127 = .ok (.aload_n 0, 1) := by decide +kernel
theorem dX7_init_128 : decode cX7_init 128 = .ok (.iconst 4, 1) := by decide +kernel
theorem dX7_init_129 : decode cX7_init 129 = .ok (.newarray .int, 2) := by decide +kernel
theorem dX7_init_131 : decode cX7_init 131 = .ok (.dup, 1) := by decide +kernel
theorem dX7_init_132 : decode cX7_init 132 = .ok (.iconst 0, 1) := by decide +kernel
theorem dX7_init_133 : decode cX7_init 133 = .ok (.iconst 0, 1) := by decide +kernel
theorem dX7_init_134 : decode cX7_init 134 = .ok (.iastore, 1) := by decide +kernel
theorem dX7_init_135 : decode cX7_init 135 = .ok (.dup, 1) := by decide +kernel
theorem dX7_init_136 : decode cX7_init 136 = .ok (.iconst 1, 1) := by decide +kernel
theorem dX7_init_137 : decode cX7_init 137 = .ok (.iconst 4, 1) := by decide +kernel
theorem dX7_init_138 : decode cX7_init 138 = .ok (.iastore, 1) := by decide +kernel
theorem dX7_init_139 : decode cX7_init 139 = .ok (.dup, 1) := by decide +kernel
theorem dX7_init_140 : decode cX7_init 140 = .ok (.iconst 2, 1) := by decide +kernel
theorem dX7_init_141 : decode cX7_init 141 = .ok (.bipush 9, 2) := by decide +kernel
theorem dX7_init_143 : decode cX7_init 143 = .ok (.iastore, 1) := by decide +kernel
theorem dX7_init_144 : decode cX7_init 144 = .ok (.dup, 1) := by decide +kernel
theorem dX7_init_145 : decode cX7_init 145 = .ok (.iconst 3, 1) := by decide +kernel
theorem dX7_init_146 : decode cX7_init 146 = .ok (.bipush 13, 2) := by decide +kernel
theorem dX7_init_148 : decode cX7_init 148 = .ok (.iastore, 1) := by decide +kernel
theorem dX7_init_149 : decode cX7_init 149 = .ok (.putfield 29, 3) := by decide +kernel
theorem dX7_init_152 : decode cX7_init 152 = .ok (.aload_n 0, 1) := by decide +kernel
theorem dX7_init_153 : decode cX7_init 153 = .ok (.bipush 96, 2) := by decide +kernel
theorem dX7_init_155 : decode cX7_init 155 = .ok (.newarray .int, 2) := by decide +kernel
theorem dX7_init_157 : decode cX7_init 157 = .ok (.putfield 32, 3) := by decide +kernel
theorem dX7_init_160 : decode cX7_init 160 = .ok (.aload_n 0, 1) := by decide +kernel
theorem dX7_init_161 : decode cX7_init 161 = .ok (.bipush 96, 2) := by decide +kernel
theorem dX7_init_163 : decode cX7_init 163 = .ok (.newarray .int, 2) := by decide +kernel
theorem dX7_init_165 : decode cX7_init 165 = .ok (.putfield 35, 3) := by decide +kernel
theorem dX7_init_168 : decode cX7_init 168 = .ok (.aload_n 0, 1) := by decide +kernel
theorem dX7_init_169 : decode cX7_init 169 = .ok (.bipush 10, 2) := by decide +kernel
theorem dX7_init_171 : decode cX7_init 171 = .ok (.newarray .boolean, 2) := by decide +kernel
theorem dX7_init_173 : decode cX7_init 173 = .ok (.putfield 38, 3) := by decide +kernel
theorem dX7_init_176 : decode cX7_init 176 = .ok (.aload_n 0, 1) := by decide +kernel
theorem dX7_init_177 : decode cX7_init 177 = .ok (.bipush 96, 2) := by decide +kernel
theorem dX7_init_179 : decode cX7_init 179 = .ok (.newarray .int, 2) := by decide +kernel
theorem dX7_init_181 : decode cX7_init 181 = .ok (.putfield 42, 3) := by decide +kernel
theorem dX7_init_184 : decode cX7_init 184 = .ok (.aload_n 0, 1) := by decide +kernel
theorem dX7_init_185 : decode cX7_init 185 = .ok (.iconst 4, 1) := by decide +kernel
theorem dX7_init_186 : decode cX7_init 186 = .ok (.newarray .int, 2) := by decide +kernel
theorem dX7_init_188 : decode cX7_init 188 = .ok (.putfield 45, 3) := by decide +kernel
theorem dX7_init_191 : decode cX7_init 191 = .ok (.aload_n 0, 1) := by decide +kernel
theorem dX7_init_192 : decode cX7_init 192 = .ok (.iconst 4, 1) := by decide +kernel
theorem dX7_init_193 : decode cX7_init 193 = .ok (.newarray .int, 2) := by decide +kernel
theorem dX7_init_195 : decode cX7_init 195 = .ok (.dup, 1) := by decide +kernel
theorem dX7_init_196 : decode cX7_init 196 = .ok (.iconst 0, 1) := by decide +kernel
theorem dX7_init_197 : decode cX7_init 197 = .ok (.iconst (-1), 1) := by decide +kernel
theorem dX7_init_198 : decode cX7_init 198 = .ok (.iastore, 1) := by decide +kernel
theorem dX7_init_199 : decode cX7_init 199 = .ok (.dup, 1) := by decide +kernel
theorem dX7_init_200 : decode cX7_init 200 = .ok (.iconst 1, 1) := by decide +kernel
theorem dX7_init_201 : decode cX7_init 201 = .ok (.iconst (-1), 1) := by decide +kernel
theorem dX7_init_202 : decode cX7_init 202 = .ok (.iastore, 1) := by decide +kernel
theorem dX7_init_203 : decode cX7_init 203 = .ok (.dup, 1) := by decide +kernel
theorem dX7_init_204 : decode cX7_init 204 = .ok (.iconst 2, 1) := by decide +kernel
theorem dX7_init_205 : decode cX7_init 205 = .ok (.iconst (-1), 1) := by decide +kernel
theorem dX7_init_206 : decode cX7_init 206 = .ok (.iastore, 1) := by decide +kernel
theorem dX7_init_207 : decode cX7_init 207 = .ok (.dup, 1) := by decide +kernel
theorem dX7_init_208 : decode cX7_init 208 = .ok (.iconst 3, 1) := by decide +kernel
theorem dX7_init_209 : decode cX7_init 209 = .ok (.iconst (-1), 1) := by decide +kernel
theorem dX7_init_210 : decode cX7_init 210 = .ok (.iastore, 1) := by decide +kernel
theorem dX7_init_211 : decode cX7_init 211 = .ok (.putfield 48, 3) := by decide +kernel
theorem dX7_init_214 : decode cX7_init 214 = .ok (.aload_n 0, 1) := by decide +kernel
theorem dX7_init_215 : decode cX7_init 215 = .ok (.iconst 4, 1) := by decide +kernel
theorem dX7_init_216 : decode cX7_init 216 = .ok (.newarray .int, 2) := by decide +kernel
theorem dX7_init_218 : decode cX7_init 218 = .ok (.putfield 51, 3) := by decide +kernel
theorem dX7_init_221 : decode cX7_init 221 = .ok (.aload_n 0, 1) := by decide +kernel
theorem dX7_init_222 : decode cX7_init 222 = .ok (.bipush 96, 2) := by decide +kernel
theorem dX7_init_224 : decode cX7_init 224 = .ok (.newarray .int, 2) := by decide +kernel
theorem dX7_init_226 : decode cX7_init 226 = .ok (.putfield 54, 3) := by decide +kernel
theorem dX7_init_229 : decode cX7_init 229 = .ok (.aload_n 0, 1) := by decide +kernel
theorem dX7_init_230 : decode cX7_init 230 = .ok (.iconst 5, 1) := by decide +kernel
theorem dX7_init_231 : decode cX7_init 231 = .ok (.newarray .int, 2) := by decide +kernel
theorem dX7_init_233 : decode cX7_init 233 = .ok (.putfield 57, 3) := by decide +kernel
theorem dX7_init_236 : decode cX7_init 236 = .ok (.aload_n 0, 1) := by decide +kernel
theorem dX7_init_237 : decode cX7_init 237 = .ok (.iconst 5, 1) := by decide +kernel
theorem dX7_init_238 : decode cX7_init 238 = .ok (.newarray .int, 2) := by decide +kernel
theorem dX7_init_240 : decode cX7_init 240 = .ok (.putfield 60, 3) := by decide +kernel
theorem dX7_init_243 : decode cX7_init 243 = .ok (.aload_n 0, 1) := by decide +kernel
theorem dX7_init_244 : decode cX7_init 244 = .ok (.iconst 5, 1) := by decide +kernel
theorem dX7_init_245 : decode cX7_init 245 = .ok (.newarray .int, 2) := by decide +kernel
theorem dX7_init_247 : decode cX7_init 247 = .ok (.putfield 63, 3) := by decide +kernel
theorem dX7_init_250 : decode cX7_init 250 = .ok (.aload_n 0, 1) := by decide +kernel
theorem dX7_init_251 : decode cX7_init 251 = .ok (.bipush 120, 2) := by decide +kernel
theorem dX7_init_253 : decode cX7_init 253 = .ok (.newarray .int, 2) := by decide +kernel
theorem dX7_init_255 : decode cX7_init 255 = .ok (.putfield 66, 3) := by decide +kernel
theorem dX7_init_258 : decode cX7_init 258 = .ok (.aload_n 0, 1) := by decide +kernel
theorem dX7_init_259 : decode cX7_init 259 = .ok (.bipush 24, 2) := by decide +kernel
theorem dX7_init_261 : decode cX7_init 261 = .ok (.newarray .int, 2) := by decide +kernel
theorem dX7_init_263 : decode cX7_init 263 = .ok (.putfield 69, 3) := by decide +kernel
theorem dX7_init_266 : decode cX7_init 266 = .ok (.aload_n 0, 1) := by decide +kernel
theorem dX7_init_267 : decode cX7_init 267 = .ok (.bipush 60, 2) := by decide +kernel
theorem dX7_init_269 : decode cX7_init 269 = .ok (.newarray .int, 2) := by decide +kernel
theorem dX7_init_271 : decode cX7_init 271 = .ok (.putfield 72, 3) := by decide +kernel
theorem dX7_init_274 : decode cX7_init 274 = .ok (.aload_n 0, 1) := by decide +kernel
theorem dX7_init_275 : decode cX7_init 275 = .ok (.getfield 9, 3) := by decide +kernel
theorem dX7_init_278 : decode cX7_init 278 = .ok (.iconst 0, 1) := by decide +kernel
theorem dX7_init_279 : decode cX7_init 279 = .ok (.iconst 1, 1) := by decide +kernel
theorem dX7_init_280 : decode cX7_init 280 = .ok (.iastore, 1) := by decide +kernel
theorem dX7_init_281 : decode cX7_init 281 = .ok (.aload_n 0, 1) := by decide +kernel
theorem dX7_init_282 : decode cX7_init 282 = .ok (.getfield 9, 3) := by decide +kernel
theorem dX7_init_285 : decode cX7_init 285 = .ok (.iconst 3, 1) := by decide +kernel
theorem dX7_init_286 : decode cX7_init 286 = .ok (.bipush 18, 2) := by decide +kernel
theorem dX7_init_288 : decode cX7_init 288 = .ok (.iastore, 1) := by decide +kernel
theorem dX7_init_289 : decode cX7_init 289 = .ok (.return_, 1) := by decide +kernel
theorem oi_X0 : Cond.methodLink RX0 3 Lib.objectInit ∈ WSU := wsu_of 87 (by decide +kernel) rfl
theorem oi_X1 : Cond.methodLink RX1 3 Lib.objectInit ∈ WSU := wsu_of 222 (by decide +kernel) rfl
theorem oi_X2 : Cond.methodLink RX2 3 Lib.objectInit ∈ WSU := wsu_of 122 (by decide +kernel) rfl
theorem oi_X3 : Cond.methodLink RX3 3 Lib.objectInit ∈ WSU := wsu_of 265 (by decide +kernel) rfl
theorem oi_X4 : Cond.methodLink RX4 3 Lib.objectInit ∈ WSU := wsu_of 283 (by decide +kernel) rfl
theorem oi_X5 : Cond.methodLink RX5 3 Lib.objectInit ∈ WSU := wsu_of 114 (by decide +kernel) rfl
theorem oi_X6 : Cond.methodLink RX6 1 Lib.objectInit ∈ WSU := wsu_of 79 (by decide +kernel) rfl
theorem oi_X7 : Cond.methodLink RX7 1 Lib.objectInit ∈ WSU := wsu_of 922 (by decide +kernel) rfl
theorem oi_1 : Cond.instanceMethod Lib.objectInit ∈ WSU := wsu_of 80 (by decide +kernel) rfl
theorem oi_2 : Cond.code Lib.objectInit ⟨#[0xb1]⟩ 1 none ∈ WSU := wsu_of 81 (by decide +kernel) rfl
theorem ff_X0_9 : FF RX0 9 1 0 7 (fun _ => 0) := ⟨0, 5, RX0, TX0, _, tyX0, (.array .int), rfl, rfl, by decide, rfl, inU0, wsu_of 90 (by decide +kernel) rfl, tyX0_ok, nmX0, rfl, rfl, by decide +kernel, fun a => ⟨rfl, rfl⟩⟩
theorem ff_X0_15 : FF RX0 15 1 1 8 (fun _ => 0) := ⟨0, 5, RX0, TX0, _, tyX0, (.array .int), rfl, rfl, by decide, rfl, inU0, wsu_of 92 (by decide +kernel) rfl, tyX0_ok, nmX0, rfl, rfl, by decide +kernel, fun a => ⟨rfl, rfl⟩⟩
theorem ff_X0_18 : FF RX0 18 1 2 9 (fun _ => 0) := ⟨0, 5, RX0, TX0, _, tyX0, (.array .int), rfl, rfl, by decide, rfl, inU0, wsu_of 94 (by decide +kernel) rfl, tyX0_ok, nmX0, rfl, rfl, by decide +kernel, fun a => ⟨rfl, rfl⟩⟩
theorem ff_X0_23 : FF RX0 23 1 3 10 (fun _ => 0) := ⟨0, 5, RX0, TX0, _, tyX0, (.array (.array .int)), rfl, rfl, by decide, rfl, inU0, wsu_of 95 (by decide +kernel) rfl, tyX0_ok, nmX0, rfl, rfl, by decide +kernel, fun a => ⟨rfl, rfl⟩⟩
theorem ff_X0_26 : FF RX0 26 1 4 12 (fun _ => 0) := ⟨0, 5, RX0, TX0, _, tyX0, (.array .int), rfl, rfl, by decide, rfl, inU0, wsu_of 96 (by decide +kernel) rfl, tyX0_ok, nmX0, rfl, rfl, by decide +kernel, fun a => ⟨rfl, rfl⟩⟩
theorem ff_X1_9 : FF RX1 9 6 1 18 (fun _ => 0) := ⟨1, 9, RX1, TX1, _, tyX1, (.array .int), rfl, rfl, by decide, rfl, inU1, wsu_of 224 (by decide +kernel) rfl, tyX1_ok, nmX1, rfl, rfl, by decide +kernel, fun a => ⟨rfl, rfl⟩⟩
theorem ff_X1_15 : FF RX1 15 6 0 17 (fun _ => 0) := ⟨1, 9, RX1, TX1, _, tyX1, (.array .int), rfl, rfl, by decide, rfl, inU1, wsu_of 223 (by decide +kernel) rfl, tyX1_ok, nmX1, rfl, rfl, by decide +kernel, fun a => ⟨rfl, rfl⟩⟩
theorem ff_X3_18 : FF RX3 18 4 2 23 (fun i => i) := ⟨3, 3, RX3, TX3, _, tyX3, (.array .int), rfl, rfl, by decide, rfl, inU3, wsu_of 270 (by decide +kernel) rfl, tyX3_ok, nmX3, rfl, rfl, by decide +kernel, fun a => ⟨rfl, rfl⟩⟩
theorem ff_X4_21 : FF RX4 21 5 2 3 (fun i => 24 + i) := ⟨4, 4, RX4, TX4, _, tyX4, (.object "RoofSnow$Roof"), rfl, rfl, by decide, rfl, inU4, wsu_of 292 (by decide +kernel) rfl, tyX4_ok, nmX4, rfl, rfl, by decide +kernel, fun a => ⟨rfl, rfl⟩⟩
theorem ff_X4_28 : FF RX4 28 5 3 4 (fun i => 4 + i) := ⟨4, 4, RX4, TX4, _, tyX4, (.object "RoofSnow$Sheet"), rfl, rfl, by decide, rfl, inU4, wsu_of 294 (by decide +kernel) rfl, tyX4_ok, nmX4, rfl, rfl, by decide +kernel, fun a => ⟨rfl, rfl⟩⟩
theorem ff_X5_11 : FF RX5 11 2 1 13 (fun i => i) := ⟨5, 16, RX5, TX5, _, tyX5, (.array (.object "RoofSnow$Roof")), rfl, rfl, by decide, rfl, inU5, wsu_of 154 (by decide +kernel) rfl, tyX5_ok, nmX5, rfl, rfl, by decide +kernel, fun a => ⟨rfl, rfl⟩⟩
theorem ff_X5_17 : FF RX5 17 2 2 14 (fun i => i) := ⟨5, 16, RX5, TX5, _, tyX5, (.array .int), rfl, rfl, by decide, rfl, inU5, wsu_of 156 (by decide +kernel) rfl, tyX5_ok, nmX5, rfl, rfl, by decide +kernel, fun a => ⟨rfl, rfl⟩⟩
theorem ff_X5_21 : FF RX5 21 2 3 15 (fun i => i) := ⟨5, 16, RX5, TX5, _, tyX5, (.array .int), rfl, rfl, by decide, rfl, inU5, wsu_of 158 (by decide +kernel) rfl, tyX5_ok, nmX5, rfl, rfl, by decide +kernel, fun a => ⟨rfl, rfl⟩⟩
theorem ff_X5_25 : FF RX5 25 2 4 16 (fun i => i) := ⟨5, 16, RX5, TX5, _, tyX5, (.array .int), rfl, rfl, by decide, rfl, inU5, wsu_of 160 (by decide +kernel) rfl, tyX5_ok, nmX5, rfl, rfl, by decide +kernel, fun a => ⟨rfl, rfl⟩⟩
theorem ff_X5_62 : FF RX5 62 2 0 1 (fun _ => 0) := ⟨5, 16, RX5, TX5, _, tyX5, (.object "RoofSnow$Laws"), rfl, rfl, by decide, rfl, inU5, wsu_of 153 (by decide +kernel) rfl, tyX5_ok, nmX5, rfl, rfl, by decide +kernel, fun a => ⟨rfl, rfl⟩⟩
theorem ff_X6_10 : FF RX6 10 0 0 1 (fun _ => 0) := ⟨6, 13, RX6, TX6, _, tyX6, (.object "RoofSnow$Laws"), rfl, rfl, by decide, rfl, inU6, wsu_of 305 (by decide +kernel) rfl, tyX6_ok, nmX6, rfl, rfl, by decide +kernel, fun a => ⟨rfl, rfl⟩⟩
theorem ff_X6_21 : FF RX6 21 0 1 2 (fun _ => 0) := ⟨6, 13, RX6, TX6, _, tyX6, (.object "RoofSnow$World"), rfl, rfl, by decide, rfl, inU6, wsu_of 306 (by decide +kernel) rfl, tyX6_ok, nmX6, rfl, rfl, by decide +kernel, fun a => ⟨rfl, rfl⟩⟩
theorem ff_X6_25 : FF RX6 25 0 2 2 (fun _ => 1) := ⟨6, 13, RX6, TX6, _, tyX6, (.object "RoofSnow$World"), rfl, rfl, by decide, rfl, inU6, wsu_of 307 (by decide +kernel) rfl, tyX6_ok, nmX6, rfl, rfl, by decide +kernel, fun a => ⟨rfl, rfl⟩⟩
theorem ff_X6_28 : FF RX6 28 0 3 2 (fun _ => 2) := ⟨6, 13, RX6, TX6, _, tyX6, (.object "RoofSnow$World"), rfl, rfl, by decide, rfl, inU6, wsu_of 308 (by decide +kernel) rfl, tyX6_ok, nmX6, rfl, rfl, by decide +kernel, fun a => ⟨rfl, rfl⟩⟩
theorem ff_X6_35 : FF RX6 35 0 5 17 (fun _ => 0) := ⟨6, 13, RX6, TX6, _, tyX6, (.array .int), rfl, rfl, by decide, rfl, inU6, wsu_of 310 (by decide +kernel) rfl, tyX6_ok, nmX6, rfl, rfl, by decide +kernel, fun a => ⟨rfl, rfl⟩⟩
theorem ff_X6_48 : FF RX6 48 0 7 6 (fun _ => 0) := ⟨6, 13, RX6, TX6, _, tyX6, (.object "RoofSnow$Reader"), rfl, rfl, by decide, rfl, inU6, wsu_of 312 (by decide +kernel) rfl, tyX6_ok, nmX6, rfl, rfl, by decide +kernel, fun a => ⟨rfl, rfl⟩⟩
theorem ff_X6_54 : FF RX6 54 0 8 19 (fun _ => 0) := ⟨6, 13, RX6, TX6, _, tyX6, (.array (.object "RoofSnow$Sheet")), rfl, rfl, by decide, rfl, inU6, wsu_of 313 (by decide +kernel) rfl, tyX6_ok, nmX6, rfl, rfl, by decide +kernel, fun a => ⟨rfl, rfl⟩⟩
theorem ff_X6_60 : FF RX6 60 0 9 20 (fun _ => 0) := ⟨6, 13, RX6, TX6, _, tyX6, (.array (.object "RoofSnow$Slot")), rfl, rfl, by decide, rfl, inU6, wsu_of 314 (by decide +kernel) rfl, tyX6_ok, nmX6, rfl, rfl, by decide +kernel, fun a => ⟨rfl, rfl⟩⟩
theorem ff_X6_64 : FF RX6 64 0 10 21 (fun _ => 0) := ⟨6, 13, RX6, TX6, _, tyX6, (.array .int), rfl, rfl, by decide, rfl, inU6, wsu_of 315 (by decide +kernel) rfl, tyX6_ok, nmX6, rfl, rfl, by decide +kernel, fun a => ⟨rfl, rfl⟩⟩
theorem ff_X6_70 : FF RX6 70 0 12 22 (fun _ => 0) := ⟨6, 13, RX6, TX6, _, tyX6, (.array .int), rfl, rfl, by decide, rfl, inU6, wsu_of 317 (by decide +kernel) rfl, tyX6_ok, nmX6, rfl, rfl, by decide +kernel, fun a => ⟨rfl, rfl⟩⟩
theorem ff_X7_9 : FF RX7 9 24 0 25 (fun _ => 0) := ⟨7, 33, RX7, TX7, _, tyX7, (.array .int), rfl, rfl, by decide, rfl, inU7, wsu_of 923 (by decide +kernel) rfl, tyX7_ok, nmX7, rfl, rfl, by decide +kernel, fun a => ⟨rfl, rfl⟩⟩
theorem ff_X7_13 : FF RX7 13 24 1 26 (fun _ => 0) := ⟨7, 33, RX7, TX7, _, tyX7, (.array .int), rfl, rfl, by decide, rfl, inU7, wsu_of 924 (by decide +kernel) rfl, tyX7_ok, nmX7, rfl, rfl, by decide +kernel, fun a => ⟨rfl, rfl⟩⟩
theorem ff_X7_16 : FF RX7 16 24 2 27 (fun _ => 0) := ⟨7, 33, RX7, TX7, _, tyX7, (.array .int), rfl, rfl, by decide, rfl, inU7, wsu_of 925 (by decide +kernel) rfl, tyX7_ok, nmX7, rfl, rfl, by decide +kernel, fun a => ⟨rfl, rfl⟩⟩
theorem ff_X7_19 : FF RX7 19 24 4 28 (fun _ => 0) := ⟨7, 33, RX7, TX7, _, tyX7, (.array .int), rfl, rfl, by decide, rfl, inU7, wsu_of 927 (by decide +kernel) rfl, tyX7_ok, nmX7, rfl, rfl, by decide +kernel, fun a => ⟨rfl, rfl⟩⟩
theorem ff_X7_22 : FF RX7 22 24 5 29 (fun _ => 0) := ⟨7, 33, RX7, TX7, _, tyX7, (.array .int), rfl, rfl, by decide, rfl, inU7, wsu_of 928 (by decide +kernel) rfl, tyX7_ok, nmX7, rfl, rfl, by decide +kernel, fun a => ⟨rfl, rfl⟩⟩
theorem ff_X7_25 : FF RX7 25 24 13 30 (fun _ => 0) := ⟨7, 33, RX7, TX7, _, tyX7, (.array .char), rfl, rfl, by decide, rfl, inU7, wsu_of 936 (by decide +kernel) rfl, tyX7_ok, nmX7, rfl, rfl, by decide +kernel, fun a => ⟨rfl, rfl⟩⟩
theorem ff_X7_29 : FF RX7 29 24 14 31 (fun _ => 0) := ⟨7, 33, RX7, TX7, _, tyX7, (.array .int), rfl, rfl, by decide, rfl, inU7, wsu_of 937 (by decide +kernel) rfl, tyX7_ok, nmX7, rfl, rfl, by decide +kernel, fun a => ⟨rfl, rfl⟩⟩
theorem ff_X7_32 : FF RX7 32 24 15 32 (fun _ => 0) := ⟨7, 33, RX7, TX7, _, tyX7, (.array .int), rfl, rfl, by decide, rfl, inU7, wsu_of 938 (by decide +kernel) rfl, tyX7_ok, nmX7, rfl, rfl, by decide +kernel, fun a => ⟨rfl, rfl⟩⟩
theorem ff_X7_35 : FF RX7 35 24 18 33 (fun _ => 0) := ⟨7, 33, RX7, TX7, _, tyX7, (.array .int), rfl, rfl, by decide, rfl, inU7, wsu_of 941 (by decide +kernel) rfl, tyX7_ok, nmX7, rfl, rfl, by decide +kernel, fun a => ⟨rfl, rfl⟩⟩
theorem ff_X7_38 : FF RX7 38 24 20 34 (fun _ => 0) := ⟨7, 33, RX7, TX7, _, tyX7, (.array .boolean), rfl, rfl, by decide, rfl, inU7, wsu_of 943 (by decide +kernel) rfl, tyX7_ok, nmX7, rfl, rfl, by decide +kernel, fun a => ⟨rfl, rfl⟩⟩
theorem ff_X7_42 : FF RX7 42 24 21 35 (fun _ => 0) := ⟨7, 33, RX7, TX7, _, tyX7, (.array .int), rfl, rfl, by decide, rfl, inU7, wsu_of 944 (by decide +kernel) rfl, tyX7_ok, nmX7, rfl, rfl, by decide +kernel, fun a => ⟨rfl, rfl⟩⟩
theorem ff_X7_45 : FF RX7 45 24 22 36 (fun _ => 0) := ⟨7, 33, RX7, TX7, _, tyX7, (.array .int), rfl, rfl, by decide, rfl, inU7, wsu_of 945 (by decide +kernel) rfl, tyX7_ok, nmX7, rfl, rfl, by decide +kernel, fun a => ⟨rfl, rfl⟩⟩
theorem ff_X7_48 : FF RX7 48 24 23 37 (fun _ => 0) := ⟨7, 33, RX7, TX7, _, tyX7, (.array .int), rfl, rfl, by decide, rfl, inU7, wsu_of 946 (by decide +kernel) rfl, tyX7_ok, nmX7, rfl, rfl, by decide +kernel, fun a => ⟨rfl, rfl⟩⟩
theorem ff_X7_51 : FF RX7 51 24 24 38 (fun _ => 0) := ⟨7, 33, RX7, TX7, _, tyX7, (.array .int), rfl, rfl, by decide, rfl, inU7, wsu_of 947 (by decide +kernel) rfl, tyX7_ok, nmX7, rfl, rfl, by decide +kernel, fun a => ⟨rfl, rfl⟩⟩
theorem ff_X7_54 : FF RX7 54 24 25 39 (fun _ => 0) := ⟨7, 33, RX7, TX7, _, tyX7, (.array .int), rfl, rfl, by decide, rfl, inU7, wsu_of 948 (by decide +kernel) rfl, tyX7_ok, nmX7, rfl, rfl, by decide +kernel, fun a => ⟨rfl, rfl⟩⟩
theorem ff_X7_57 : FF RX7 57 24 26 40 (fun _ => 0) := ⟨7, 33, RX7, TX7, _, tyX7, (.array .int), rfl, rfl, by decide, rfl, inU7, wsu_of 949 (by decide +kernel) rfl, tyX7_ok, nmX7, rfl, rfl, by decide +kernel, fun a => ⟨rfl, rfl⟩⟩
theorem ff_X7_60 : FF RX7 60 24 27 41 (fun _ => 0) := ⟨7, 33, RX7, TX7, _, tyX7, (.array .int), rfl, rfl, by decide, rfl, inU7, wsu_of 950 (by decide +kernel) rfl, tyX7_ok, nmX7, rfl, rfl, by decide +kernel, fun a => ⟨rfl, rfl⟩⟩
theorem ff_X7_63 : FF RX7 63 24 28 42 (fun _ => 0) := ⟨7, 33, RX7, TX7, _, tyX7, (.array .int), rfl, rfl, by decide, rfl, inU7, wsu_of 951 (by decide +kernel) rfl, tyX7_ok, nmX7, rfl, rfl, by decide +kernel, fun a => ⟨rfl, rfl⟩⟩
theorem ff_X7_66 : FF RX7 66 24 29 43 (fun _ => 0) := ⟨7, 33, RX7, TX7, _, tyX7, (.array .int), rfl, rfl, by decide, rfl, inU7, wsu_of 952 (by decide +kernel) rfl, tyX7_ok, nmX7, rfl, rfl, by decide +kernel, fun a => ⟨rfl, rfl⟩⟩
theorem ff_X7_69 : FF RX7 69 24 30 44 (fun _ => 0) := ⟨7, 33, RX7, TX7, _, tyX7, (.array .int), rfl, rfl, by decide, rfl, inU7, wsu_of 953 (by decide +kernel) rfl, tyX7_ok, nmX7, rfl, rfl, by decide +kernel, fun a => ⟨rfl, rfl⟩⟩
theorem ff_X7_72 : FF RX7 72 24 31 45 (fun _ => 0) := ⟨7, 33, RX7, TX7, _, tyX7, (.array .int), rfl, rfl, by decide, rfl, inU7, wsu_of 954 (by decide +kernel) rfl, tyX7_ok, nmX7, rfl, rfl, by decide +kernel, fun a => ⟨rfl, rfl⟩⟩
theorem vpN {ad : Nat → Nat → Nat} {i j : Nat} {ks : List (Option (Nat × (Nat → Nat)))} {o : Option (Nat × (Nat → Nat))} {v : Value} (h : ks[j]? = some o) (hv : v = fvN ad (fun _ => 0) i j o) : v = vp_V (fvsN ad (fun _ => 0) i ks) j := by
  rw [vp_V, List.getD_eq_getElem?_getD, fvsN_get h]
  exact hv
theorem df_X0 (ad : Nat → Nat → Nat) (i : Nat) (ks : List (Option (Nat × (Nat → Nat)))) (h : sh 1 = .inl (0, ks)) : ∀ j, j < 5 → defaultValue (tyX0 j) = vp_V (fvsN ad (fun _ => 0) i ks) j := by
  cases h
  intro j hj
  match j, hj with
  | 0, _ => exact vpN rfl rfl
  | 1, _ => exact vpN rfl rfl
  | 2, _ => exact vpN rfl rfl
  | 3, _ => exact vpN rfl rfl
  | 4, _ => exact vpN rfl rfl
  | j + 5, h => exact absurd h (by omega)
theorem df_X1 (ad : Nat → Nat → Nat) (i : Nat) (ks : List (Option (Nat × (Nat → Nat)))) (h : sh 6 = .inl (1, ks)) : ∀ j, j < 9 → defaultValue (tyX1 j) = vp_V (fvsN ad (fun _ => 0) i ks) j := by
  cases h
  intro j hj
  match j, hj with
  | 0, _ => exact vpN rfl rfl
  | 1, _ => exact vpN rfl rfl
  | 2, _ => exact vpN rfl rfl
  | 3, _ => exact vpN rfl rfl
  | 4, _ => exact vpN rfl rfl
  | 5, _ => exact vpN rfl rfl
  | 6, _ => exact vpN rfl rfl
  | 7, _ => exact vpN rfl rfl
  | 8, _ => exact vpN rfl rfl
  | j + 9, h => exact absurd h (by omega)
theorem df_X2 (ad : Nat → Nat → Nat) (i : Nat) (ks : List (Option (Nat × (Nat → Nat)))) (h : sh 3 = .inl (2, ks)) : ∀ j, j < 6 → defaultValue (tyX2 j) = vp_V (fvsN ad (fun _ => 0) i ks) j := by
  cases h
  intro j hj
  match j, hj with
  | 0, _ => exact vpN rfl rfl
  | 1, _ => exact vpN rfl rfl
  | 2, _ => exact vpN rfl rfl
  | 3, _ => exact vpN rfl rfl
  | 4, _ => exact vpN rfl rfl
  | 5, _ => exact vpN rfl rfl
  | j + 6, h => exact absurd h (by omega)
theorem df_X3 (ad : Nat → Nat → Nat) (i : Nat) (ks : List (Option (Nat × (Nat → Nat)))) (h : sh 4 = .inl (3, ks)) : ∀ j, j < 3 → defaultValue (tyX3 j) = vp_V (fvsN ad (fun _ => 0) i ks) j := by
  cases h
  intro j hj
  match j, hj with
  | 0, _ => exact vpN rfl rfl
  | 1, _ => exact vpN rfl rfl
  | 2, _ => exact vpN rfl rfl
  | j + 3, h => exact absurd h (by omega)
theorem df_X4 (ad : Nat → Nat → Nat) (i : Nat) (ks : List (Option (Nat × (Nat → Nat)))) (h : sh 5 = .inl (4, ks)) : ∀ j, j < 4 → defaultValue (tyX4 j) = vp_V (fvsN ad (fun _ => 0) i ks) j := by
  cases h
  intro j hj
  match j, hj with
  | 0, _ => exact vpN rfl rfl
  | 1, _ => exact vpN rfl rfl
  | 2, _ => exact vpN rfl rfl
  | 3, _ => exact vpN rfl rfl
  | j + 4, h => exact absurd h (by omega)
theorem df_X5 (ad : Nat → Nat → Nat) (i : Nat) (ks : List (Option (Nat × (Nat → Nat)))) (h : sh 2 = .inl (5, ks)) : ∀ j, j < 16 → defaultValue (tyX5 j) = vp_V (fvsN ad (fun _ => 0) i ks) j := by
  cases h
  intro j hj
  match j, hj with
  | 0, _ => exact vpN rfl rfl
  | 1, _ => exact vpN rfl rfl
  | 2, _ => exact vpN rfl rfl
  | 3, _ => exact vpN rfl rfl
  | 4, _ => exact vpN rfl rfl
  | 5, _ => exact vpN rfl rfl
  | 6, _ => exact vpN rfl rfl
  | 7, _ => exact vpN rfl rfl
  | 8, _ => exact vpN rfl rfl
  | 9, _ => exact vpN rfl rfl
  | 10, _ => exact vpN rfl rfl
  | 11, _ => exact vpN rfl rfl
  | 12, _ => exact vpN rfl rfl
  | 13, _ => exact vpN rfl rfl
  | 14, _ => exact vpN rfl rfl
  | 15, _ => exact vpN rfl rfl
  | j + 16, h => exact absurd h (by omega)
theorem df_X6 (ad : Nat → Nat → Nat) (i : Nat) (ks : List (Option (Nat × (Nat → Nat)))) (h : sh 0 = .inl (6, ks)) : ∀ j, j < 13 → defaultValue (tyX6 j) = vp_V (fvsN ad (fun _ => 0) i ks) j := by
  cases h
  intro j hj
  match j, hj with
  | 0, _ => exact vpN rfl rfl
  | 1, _ => exact vpN rfl rfl
  | 2, _ => exact vpN rfl rfl
  | 3, _ => exact vpN rfl rfl
  | 4, _ => exact vpN rfl rfl
  | 5, _ => exact vpN rfl rfl
  | 6, _ => exact vpN rfl rfl
  | 7, _ => exact vpN rfl rfl
  | 8, _ => exact vpN rfl rfl
  | 9, _ => exact vpN rfl rfl
  | 10, _ => exact vpN rfl rfl
  | 11, _ => exact vpN rfl rfl
  | 12, _ => exact vpN rfl rfl
  | j + 13, h => exact absurd h (by omega)
theorem df_X7 (ad : Nat → Nat → Nat) (i : Nat) (ks : List (Option (Nat × (Nat → Nat)))) (h : sh 24 = .inl (7, ks)) : ∀ j, j < 33 → defaultValue (tyX7 j) = vp_V (fvsN ad (fun _ => 0) i ks) j := by
  cases h
  intro j hj
  match j, hj with
  | 0, _ => exact vpN rfl rfl
  | 1, _ => exact vpN rfl rfl
  | 2, _ => exact vpN rfl rfl
  | 3, _ => exact vpN rfl rfl
  | 4, _ => exact vpN rfl rfl
  | 5, _ => exact vpN rfl rfl
  | 6, _ => exact vpN rfl rfl
  | 7, _ => exact vpN rfl rfl
  | 8, _ => exact vpN rfl rfl
  | 9, _ => exact vpN rfl rfl
  | 10, _ => exact vpN rfl rfl
  | 11, _ => exact vpN rfl rfl
  | 12, _ => exact vpN rfl rfl
  | 13, _ => exact vpN rfl rfl
  | 14, _ => exact vpN rfl rfl
  | 15, _ => exact vpN rfl rfl
  | 16, _ => exact vpN rfl rfl
  | 17, _ => exact vpN rfl rfl
  | 18, _ => exact vpN rfl rfl
  | 19, _ => exact vpN rfl rfl
  | 20, _ => exact vpN rfl rfl
  | 21, _ => exact vpN rfl rfl
  | 22, _ => exact vpN rfl rfl
  | 23, _ => exact vpN rfl rfl
  | 24, _ => exact vpN rfl rfl
  | 25, _ => exact vpN rfl rfl
  | 26, _ => exact vpN rfl rfl
  | 27, _ => exact vpN rfl rfl
  | 28, _ => exact vpN rfl rfl
  | 29, _ => exact vpN rfl rfl
  | 30, _ => exact vpN rfl rfl
  | 31, _ => exact vpN rfl rfl
  | 32, _ => exact vpN rfl rfl
  | j + 33, h => exact absurd h (by omega)
theorem nc_L_7 : NWC RL 7 0 := ⟨6, 13, RX6, TX6, _, tyX6, rfl, rfl, rfl, inU6, tyX6_ok, wsu_of 74 (by decide +kernel) rfl, wsu_of 75 (by decide +kernel) rfl, wsu_of 59 (by decide +kernel) rfl, fun ad i => df_X6 ad i _ rfl⟩
theorem cl_L_7 : Cond.classLink RL 7 "RoofSnow" ∈ WSU := wsu_of 74 (by decide +kernel) rfl
theorem nc_X6_7 : NWC RX6 7 1 := ⟨0, 5, RX0, TX0, _, tyX0, rfl, rfl, rfl, inU0, tyX0_ok, wsu_of 82 (by decide +kernel) rfl, wsu_of 83 (by decide +kernel) rfl, wsu_of 60 (by decide +kernel) rfl, fun ad i => df_X0 ad i _ rfl⟩
theorem cl_X6_7 : Cond.classLink RX6 7 "RoofSnow$Laws" ∈ WSU := wsu_of 82 (by decide +kernel) rfl
theorem nc_X6_16 : NWC RX6 16 2 := ⟨5, 16, RX5, TX5, _, tyX5, rfl, rfl, rfl, inU5, tyX5_ok, wsu_of 109 (by decide +kernel) rfl, wsu_of 110 (by decide +kernel) rfl, wsu_of 61 (by decide +kernel) rfl, fun ad i => df_X5 ad i _ rfl⟩
theorem cl_X6_16 : Cond.classLink RX6 16 "RoofSnow$World" ∈ WSU := wsu_of 109 (by decide +kernel) rfl
theorem nc_X5_9 : NWC RX5 9 3 := ⟨2, 6, RX2, TX2, _, tyX2, rfl, rfl, rfl, inU2, tyX2_ok, wsu_of 115 (by decide +kernel) rfl, wsu_of 118 (by decide +kernel) rfl, wsu_of 62 (by decide +kernel) rfl, fun ad i => df_X2 ad i _ rfl⟩
theorem cl_X5_9 : Cond.classLink RX5 9 "RoofSnow$Roof" ∈ WSU := wsu_of 115 (by decide +kernel) rfl
theorem nc_X6_43 : NWC RX6 43 6 := ⟨1, 9, RX1, TX1, _, tyX1, rfl, rfl, rfl, inU1, tyX1_ok, wsu_of 217 (by decide +kernel) rfl, wsu_of 218 (by decide +kernel) rfl, wsu_of 63 (by decide +kernel) rfl, fun ad i => df_X1 ad i _ rfl⟩
theorem cl_X6_43 : Cond.classLink RX6 43 "RoofSnow$Reader" ∈ WSU := wsu_of 217 (by decide +kernel) rfl
theorem nc_X6_52 : NWC RX6 52 4 := ⟨3, 3, RX3, TX3, _, tyX3, rfl, rfl, rfl, inU3, tyX3_ok, wsu_of 257 (by decide +kernel) rfl, wsu_of 261 (by decide +kernel) rfl, wsu_of 64 (by decide +kernel) rfl, fun ad i => df_X3 ad i _ rfl⟩
theorem cl_X6_52 : Cond.classLink RX6 52 "RoofSnow$Sheet" ∈ WSU := wsu_of 257 (by decide +kernel) rfl
theorem nc_X6_58 : NWC RX6 58 5 := ⟨4, 4, RX4, TX4, _, tyX4, rfl, rfl, rfl, inU4, tyX4_ok, wsu_of 259 (by decide +kernel) rfl, wsu_of 279 (by decide +kernel) rfl, wsu_of 65 (by decide +kernel) rfl, fun ad i => df_X4 ad i _ rfl⟩
theorem cl_X6_58 : Cond.classLink RX6 58 "RoofSnow$Slot" ∈ WSU := wsu_of 259 (by decide +kernel) rfl
theorem nc_X4_18 : NWC RX4 18 3 := ⟨2, 6, RX2, TX2, _, tyX2, rfl, rfl, rfl, inU2, tyX2_ok, wsu_of 284 (by decide +kernel) rfl, wsu_of 118 (by decide +kernel) rfl, wsu_of 62 (by decide +kernel) rfl, fun ad i => df_X2 ad i _ rfl⟩
theorem cl_X4_18 : Cond.classLink RX4 18 "RoofSnow$Roof" ∈ WSU := wsu_of 284 (by decide +kernel) rfl
theorem nc_X4_25 : NWC RX4 25 4 := ⟨3, 3, RX3, TX3, _, tyX3, rfl, rfl, rfl, inU3, tyX3_ok, wsu_of 286 (by decide +kernel) rfl, wsu_of 261 (by decide +kernel) rfl, wsu_of 64 (by decide +kernel) rfl, fun ad i => df_X3 ad i _ rfl⟩
theorem cl_X4_25 : Cond.classLink RX4 25 "RoofSnow$Sheet" ∈ WSU := wsu_of 286 (by decide +kernel) rfl
theorem nc_L_10 : NWC RL 10 24 := ⟨7, 33, RX7, TX7, _, tyX7, rfl, rfl, rfl, inU7, tyX7_ok, wsu_of 917 (by decide +kernel) rfl, wsu_of 918 (by decide +kernel) rfl, wsu_of 66 (by decide +kernel) rfl, fun ad i => df_X7 ad i _ rfl⟩
theorem cl_L_10 : Cond.classLink RL 10 "RoofSnowModel" ∈ WSU := wsu_of 917 (by decide +kernel) rfl
theorem cl_X0_21 : Cond.classLink RX0 21 "[[I" ∈ WSU := wsu_of 88 (by decide +kernel) rfl
theorem ay_int : Cond.arrayClass .int ∈ WSU := wsu_of 108 (by decide +kernel) rfl
theorem ay_char : Cond.arrayClass .char ∈ WSU := wsu_of 1023 (by decide +kernel) rfl
theorem ay_boolean : Cond.arrayClass .boolean ∈ WSU := wsu_of 1024 (by decide +kernel) rfl
theorem mi_X0_init : MN mX0_init 0 := ⟨wsu_of 86 (by decide +kernel) rfl, wsu_of 60 (by decide +kernel) rfl, by decide +kernel, by decide, wsu_of 85 (by decide +kernel) rfl, rfl, rfl⟩
theorem mi_X1_init : MN mX1_init 1 := ⟨wsu_of 221 (by decide +kernel) rfl, wsu_of 63 (by decide +kernel) rfl, by decide +kernel, by decide, wsu_of 220 (by decide +kernel) rfl, rfl, rfl⟩
theorem mi_X2_init : MN mX2_init 0 := ⟨wsu_of 121 (by decide +kernel) rfl, wsu_of 62 (by decide +kernel) rfl, by decide +kernel, by decide, wsu_of 120 (by decide +kernel) rfl, rfl, rfl⟩
theorem mi_X3_init : MN mX3_init 0 := ⟨wsu_of 264 (by decide +kernel) rfl, wsu_of 64 (by decide +kernel) rfl, by decide +kernel, by decide, wsu_of 263 (by decide +kernel) rfl, rfl, rfl⟩
theorem mi_X4_init : MN mX4_init 0 := ⟨wsu_of 282 (by decide +kernel) rfl, wsu_of 65 (by decide +kernel) rfl, by decide +kernel, by decide, wsu_of 281 (by decide +kernel) rfl, rfl, rfl⟩
theorem mi_X5_init : MN mX5_init 1 := ⟨wsu_of 113 (by decide +kernel) rfl, wsu_of 61 (by decide +kernel) rfl, by decide +kernel, by decide, wsu_of 112 (by decide +kernel) rfl, rfl, rfl⟩
theorem mi_X6_init : MN mX6_init 0 := ⟨wsu_of 78 (by decide +kernel) rfl, wsu_of 59 (by decide +kernel) rfl, by decide +kernel, by decide, wsu_of 77 (by decide +kernel) rfl, rfl, rfl⟩
theorem mi_X7_init : MN mX7_init 0 := ⟨wsu_of 921 (by decide +kernel) rfl, wsu_of 66 (by decide +kernel) rfl, by decide +kernel, by decide, wsu_of 920 (by decide +kernel) rfl, rfl, rfl⟩
