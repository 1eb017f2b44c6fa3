theorem dX11_init_0 : decode cX11_init 0 = .ok (.aload_n 0, 1) := by decide +kernel
theorem dX11_init_1 : decode cX11_init 1 = .ok (.invokespecial 3, 3) := by decide +kernel
theorem dX11_init_4 : decode cX11_init 4 = .ok (.aload_n 0, 1) := by decide +kernel
theorem dX11_init_5 : decode cX11_init 5 = .ok (.new 9, 3) := by decide +kernel
theorem dX11_init_8 : decode cX11_init 8 = .ok (.dup, 1) := by decide +kernel
theorem dX11_init_9 : decode cX11_init 9 = .ok (.invokespecial 11, 3) := by decide +kernel
theorem dX11_init_12 : decode cX11_init 12 = .ok (.putfield 12, 3) := by decide +kernel
theorem dX11_init_15 : decode cX11_init 15 = .ok (.aload_n 0, 1) := by decide +kernel
theorem dX11_init_16 : decode cX11_init 16 = .ok (.bipush 8, 2) := by decide +kernel
theorem dX11_init_18 : decode cX11_init 18 = .ok (.newarray .int, 2) := by decide +kernel
theorem dX11_init_20 : decode cX11_init 20 = .ok (.putfield 16, 3) := by decide +kernel
theorem dX11_init_23 : decode cX11_init 23 = .ok (.aload_n 0, 1) := by decide +kernel
theorem dX11_init_24 : decode cX11_init 24 = .ok (.getfield 16, 3) := by decide +kernel
theorem dX11_init_27 : decode cX11_init 27 = .ok (.iconst 1, 1) := by decide +kernel
theorem dX11_init_28 : decode cX11_init 28 = .ok (.invokestatic 20, 3) := by decide +kernel
theorem dX11_init_31 : decode cX11_init 31 = .ok (.aload_n 0, 1) := by decide +kernel
theorem dX11_init_32 : decode cX11_init 32 = .ok (.new 26, 3) := by decide +kernel
theorem dX11_init_35 : decode cX11_init 35 = .ok (.dup, 1) := by decide +kernel
theorem dX11_init_36 : decode cX11_init 36 = .ok (.invokespecial 28, 3) := by decide +kernel
theorem dX11_init_39 : decode cX11_init 39 = .ok (.putfield 29, 3) := by decide +kernel
theorem dX11_init_42 : decode cX11_init 42 = .ok (.aload_n 0, 1) := by decide +kernel
theorem dX11_init_43 : decode cX11_init 43 = .ok (.new 26, 3) := by decide +kernel
theorem dX11_init_46 : decode cX11_init 46 = .ok (.dup, 1) := by decide +kernel
theorem dX11_init_47 : decode cX11_init 47 = .ok (.invokespecial 28, 3) := by decide +kernel
theorem dX11_init_50 : decode cX11_init 50 = .ok (.putfield 33, 3) := by decide +kernel
theorem dX11_init_53 : decode cX11_init 53 = .ok (.aload_n 0, 1) := by decide +kernel
theorem dX11_init_54 : decode cX11_init 54 = .ok (.new 26, 3) := by decide +kernel
theorem dX11_init_57 : decode cX11_init 57 = .ok (.dup, 1) := by decide +kernel
theorem dX11_init_58 : decode cX11_init 58 = .ok (.invokespecial 28, 3) := by decide +kernel
theorem dX11_init_61 : decode cX11_init 61 = .ok (.putfield 36, 3) := by decide +kernel
theorem dX11_init_64 : decode cX11_init 64 = .ok (.aload_n 0, 1) := by decide +kernel
theorem dX11_init_65 : decode cX11_init 65 = .ok (.new 39, 3) := by decide +kernel
theorem dX11_init_68 : decode cX11_init 68 = .ok (.dup, 1) := by decide +kernel
theorem dX11_init_69 : decode cX11_init 69 = .ok (.invokespecial 41, 3) := by decide +kernel
theorem dX11_init_72 : decode cX11_init 72 = .ok (.putfield 42, 3) := by decide +kernel
theorem dX11_init_75 : decode cX11_init 75 = .ok (.aload_n 0, 1) := by decide +kernel
theorem dX11_init_76 : decode cX11_init 76 = .ok (.new 39, 3) := by decide +kernel
theorem dX11_init_79 : decode cX11_init 79 = .ok (.dup, 1) := by decide +kernel
theorem dX11_init_80 : decode cX11_init 80 = .ok (.invokespecial 41, 3) := by decide +kernel
theorem dX11_init_83 : decode cX11_init 83 = .ok (.putfield 46, 3) := by decide +kernel
theorem dX11_init_86 : decode cX11_init 86 = .ok (.aload_n 0, 1) := by decide +kernel
theorem dX11_init_87 : decode cX11_init 87 = .ok (.new 49, 3) := by decide +kernel
theorem dX11_init_90 : decode cX11_init 90 = .ok (.dup, 1) := by decide +kernel
theorem dX11_init_91 : decode cX11_init 91 = .ok (.invokespecial 51, 3) := by decide +kernel
theorem dX11_init_94 : decode cX11_init 94 = .ok (.putfield 52, 3) := by decide +kernel
theorem dX11_init_97 : decode cX11_init 97 = .ok (.aload_n 0, 1) := by decide +kernel
theorem dX11_init_98 : decode cX11_init 98 = .ok (.new 49, 3) := by decide +kernel
theorem dX11_init_101 : decode cX11_init 101 = .ok (.dup, 1) := by decide +kernel
theorem dX11_init_102 : decode cX11_init 102 = .ok (.invokespecial 51, 3) := by decide +kernel
theorem dX11_init_105 : decode cX11_init 105 = .ok (.putfield 56, 3) := by decide +kernel
theorem dX11_init_108 : decode cX11_init 108 = .ok (.aload_n 0, 1) := by decide +kernel
theorem dX11_init_109 : decode cX11_init 109 = .ok (.new 59, 3) := by decide +kernel
theorem dX11_init_112 : decode cX11_init 112 = .ok (.dup, 1) := by decide +kernel
theorem dX11_init_113 : decode cX11_init 113 = .ok (.invokespecial 61, 3) := by decide +kernel
theorem dX11_init_116 : decode cX11_init 116 = .ok (.putfield 62, 3) := by decide +kernel
theorem dX11_init_119 : decode cX11_init 119 = .ok (.aload_n 0, 1) := by decide +kernel
theorem dX11_init_120 : decode cX11_init 120 = .ok (.new 66, 3) := by decide +kernel
theorem dX11_init_123 : decode cX11_init 123 = .ok (.dup, 1) := by decide +kernel
theorem dX11_init_124 : decode cX11_init 124 = .ok (.invokespecial 68, 3) := by decide +kernel
theorem dX11_init_127 : decode cX11_init 127 = .ok (.putfield 69, 3) := by decide +kernel
theorem dX11_init_130 : decode cX11_init 130 = .ok (.aload_n 0, 1) := by decide +kernel
theorem dX11_init_131 : decode cX11_init 131 = .ok (.new 73, 3) := by decide +kernel
theorem dX11_init_134 : decode cX11_init 134 = .ok (.dup, 1) := by decide +kernel
theorem dX11_init_135 : decode cX11_init 135 = .ok (.invokespecial 75, 3) := by decide +kernel
theorem dX11_init_138 : decode cX11_init 138 = .ok (.putfield 76, 3) := by decide +kernel
theorem dX11_init_141 : decode cX11_init 141 = .ok (.aload_n 0, 1) := by decide +kernel
theorem dX11_init_142 : decode cX11_init 142 = .ok (.new 80, 3) := by decide +kernel
theorem dX11_init_145 : decode cX11_init 145 = .ok (.dup, 1) := by decide +kernel
theorem dX11_init_146 : decode cX11_init 146 = .ok (.invokespecial 82, 3) := by decide +kernel
theorem dX11_init_149 : decode cX11_init 149 = .ok (.putfield 83, 3) := by decide +kernel
theorem dX11_init_152 : decode cX11_init 152 = .ok (.return_, 1) := by decide +kernel
theorem dX7_init_0 : decode cX7_init 0 = .ok (.aload_n 0, 1) := by decide +kernel
theorem dX7_init_1 : decode cX7_init 1 = .ok (.invokespecial 3, 3) := by decide +kernel
theorem dX7_init_4 : decode cX7_init 4 = .ok (.aload_n 0, 1) := by decide +kernel
theorem dX7_init_5 : decode cX7_init 5 = .ok (.sipush 260, 3) := by decide +kernel
theorem dX7_init_8 : decode cX7_init 8 = .ok (.newarray .int, 2) := by decide +kernel
theorem dX7_init_10 : decode cX7_init 10 = .ok (.putfield 9, 3) := by decide +kernel
theorem dX7_init_13 : decode cX7_init 13 = .ok (.return_, 1) := by decide +kernel
theorem dJ7_fill_53178_0 : decode cJ7_fill_53178 0 = .ok (.iconst 0, 1) := by decide +kernel
theorem dJ7_fill_53178_1 : decode cJ7_fill_53178 1 = .ok (.istore_n 2, 1) := by decide +kernel
theorem dJ7_fill_53178_2 : decode cJ7_fill_53178 2 = .ok (.aload_n 0, 1) := by decide +kernel
theorem dJ7_fill_53178_3 : decode cJ7_fill_53178 3 = .ok (.arraylength, 1) := by decide +kernel
theorem dJ7_fill_53178_4 : decode cJ7_fill_53178 4 = .ok (.istore_n 3, 1) := by decide +kernel
theorem dJ7_fill_53178_5 : decode cJ7_fill_53178 5 = .ok (.iload_n 2, 1) := by decide +kernel
theorem dJ7_fill_53178_6 : decode cJ7_fill_53178 6 = .ok (.iload_n 3, 1) := by decide +kernel
theorem dJ7_fill_53178_7 : decode cJ7_fill_53178 7 = .ok (.if_icmp .ge 13, 3) := by decide +kernel
theorem dJ7_fill_53178_10 : decode cJ7_fill_53178 10 = .ok (.aload_n 0, 1) := by decide +kernel
theorem dJ7_fill_53178_11 : decode cJ7_fill_53178 11 = .ok (.iload_n 2, 1) := by decide +kernel
theorem dJ7_fill_53178_12 : decode cJ7_fill_53178 12 = .ok (.iload_n 1, 1) := by decide +kernel
theorem dJ7_fill_53178_13 : decode cJ7_fill_53178 13 = .ok (.iastore, 1) := by decide +kernel
theorem dJ7_fill_53178_14 : decode cJ7_fill_53178 14 = .ok (.iinc 2 1, 3) := by decide +kernel
theorem dJ7_fill_53178_17 : decode cJ7_fill_53178 17 = .ok (.goto (-12), 3) := by decide +kernel
theorem dJ7_fill_53178_20 : decode cJ7_fill_53178 20 = .ok (.return_, 1) := by decide +kernel
theorem dX6_init_0 : decode cX6_init 0 = .ok (.aload_n 0, 1) := by decide +kernel
theorem dX6_init_1 : decode cX6_init 1 = .ok (.invokespecial 3, 3) := by decide +kernel
theorem dX6_init_4 : decode cX6_init 4 = .ok (.aload_n 0, 1) := by decide +kernel
theorem dX6_init_5 : decode cX6_init 5 = .ok (.bipush 8, 2) := by decide +kernel
theorem dX6_init_7 : decode cX6_init 7 = .ok (.putfield 9, 3) := by decide +kernel
theorem dX6_init_10 : decode cX6_init 10 = .ok (.aload_n 0, 1) := by decide +kernel
theorem dX6_init_11 : decode cX6_init 11 = .ok (.sipush 999, 3) := by decide +kernel
theorem dX6_init_14 : decode cX6_init 14 = .ok (.putfield 15, 3) := by decide +kernel
theorem dX6_init_17 : decode cX6_init 17 = .ok (.aload_n 0, 1) := by decide +kernel
theorem dX6_init_18 : decode cX6_init 18 = .ok (.iconst 1, 1) := by decide +kernel
theorem dX6_init_19 : decode cX6_init 19 = .ok (.putfield 18, 3) := by decide +kernel
theorem dX6_init_22 : decode cX6_init 22 = .ok (.return_, 1) := by decide +kernel
theorem dX8_init_0 : decode cX8_init 0 = .ok (.aload_n 0, 1) := by decide +kernel
theorem dX8_init_1 : decode cX8_init 1 = .ok (.invokespecial 3, 3) := by decide +kernel
theorem dX8_init_4 : decode cX8_init 4 = .ok (.aload_n 0, 1) := by decide +kernel
theorem dX8_init_5 : decode cX8_init 5 = .ok (.bipush 80, 2) := by decide +kernel
theorem dX8_init_7 : decode cX8_init 7 = .ok (.newarray .int, 2) := by decide +kernel
theorem dX8_init_9 : decode cX8_init 9 = .ok (.putfield 9, 3) := by decide +kernel
theorem dX8_init_12 : decode cX8_init 12 = .ok (.aload_n 0, 1) := by decide +kernel
theorem dX8_init_13 : decode cX8_init 13 = .ok (.bipush 80, 2) := by decide +kernel
theorem dX8_init_15 : decode cX8_init 15 = .ok (.newarray .int, 2) := by decide +kernel
theorem dX8_init_17 : decode cX8_init 17 = .ok (.putfield 15, 3) := by decide +kernel
theorem dX8_init_20 : decode cX8_init 20 = .ok (.return_, 1) := by decide +kernel
theorem dX2_init_0 : decode cX2_init 0 = .ok (.aload_n 0, 1) := by decide +kernel
theorem dX2_init_1 : decode cX2_init 1 = .ok (.invokespecial 3, 3) := by decide +kernel
theorem dX2_init_4 : decode cX2_init 4 = .ok (.aload_n 0, 1) := by decide +kernel
theorem dX2_init_5 : decode cX2_init 5 = .ok (.bipush 16, 2) := by decide +kernel
theorem dX2_init_7 : decode cX2_init 7 = .ok (.newarray .int, 2) := by decide +kernel
theorem dX2_init_9 : decode cX2_init 9 = .ok (.putfield 11, 3) := by decide +kernel
theorem dX2_init_12 : decode cX2_init 12 = .ok (.aload_n 0, 1) := by decide +kernel
theorem dX2_init_13 : decode cX2_init 13 = .ok (.bipush 16, 2) := by decide +kernel
theorem dX2_init_15 : decode cX2_init 15 = .ok (.newarray .int, 2) := by decide +kernel
theorem dX2_init_17 : decode cX2_init 17 = .ok (.putfield 15, 3) := by decide +kernel
theorem dX2_init_20 : decode cX2_init 20 = .ok (.aload_n 0, 1) := by decide +kernel
theorem dX2_init_21 : decode cX2_init 21 = .ok (.bipush 16, 2) := by decide +kernel
theorem dX2_init_23 : decode cX2_init 23 = .ok (.newarray .int, 2) := by decide +kernel
theorem dX2_init_25 : decode cX2_init 25 = .ok (.putfield 18, 3) := by decide +kernel
theorem dX2_init_28 : decode cX2_init 28 = .ok (.aload_n 0, 1) := by decide +kernel
theorem dX2_init_29 : decode cX2_init 29 = .ok (.sipush 256, 3) := by decide +kernel
theorem dX2_init_32 : decode cX2_init 32 = .ok (.newarray .int, 2) := by decide +kernel
theorem dX2_init_34 : decode cX2_init 34 = .ok (.putfield 21, 3) := by decide +kernel
theorem dX2_init_37 : decode cX2_init 37 = .ok (.aload_n 0, 1) := by decide +kernel
theorem dX2_init_38 : decode cX2_init 38 = .ok (.sipush 256, 3) := by decide +kernel
theorem dX2_init_41 : decode cX2_init 41 = .ok (.newarray .int, 2) := by decide +kernel
theorem dX2_init_43 : decode cX2_init 43 = .ok (.putfield 24, 3) := by decide +kernel
theorem dX2_init_46 : decode cX2_init 46 = .ok (.aload_n 0, 1) := by decide +kernel
theorem dX2_init_47 : decode cX2_init 47 = .ok (.bipush 64, 2) := by decide +kernel
theorem dX2_init_49 : decode cX2_init 49 = .ok (.newarray .int, 2) := by decide +kernel
theorem dX2_init_51 : decode cX2_init 51 = .ok (.putfield 27, 3) := by decide +kernel
theorem dX2_init_54 : decode cX2_init 54 = .ok (.return_, 1) := by decide +kernel
theorem dX4_init_0 : decode cX4_init 0 = .ok (.aload_n 0, 1) := by decide +kernel
theorem dX4_init_1 : decode cX4_init 1 = .ok (.invokespecial 3, 3) := by decide +kernel
theorem dX4_init_4 : decode cX4_init 4 = .ok (.aload_n 0, 1) := by decide +kernel
theorem dX4_init_5 : decode cX4_init 5 = .ok (.bipush 40, 2) := by decide +kernel
theorem dX4_init_7 : decode cX4_init 7 = .ok (.newarray .int, 2) := by decide +kernel
theorem dX4_init_9 : decode cX4_init 9 = .ok (.putfield 9, 3) := by decide +kernel
theorem dX4_init_12 : decode cX4_init 12 = .ok (.return_, 1) := by decide +kernel
theorem dX1_init_0 : decode cX1_init 0 = .ok (.aload_n 0, 1) := by decide +kernel
theorem dX1_init_1 : decode cX1_init 1 = .ok (.invokespecial 3, 3) := by decide +kernel
theorem dX1_init_4 : decode cX1_init 4 = .ok (.aload_n 0, 1) := by decide +kernel
theorem dX1_init_5 : decode cX1_init 5 = .ok (.bipush 9, 2) := by decide +kernel
theorem dX1_init_7 : decode cX1_init 7 = .ok (.newarray .int, 2) := by decide +kernel
theorem dX1_init_9 : decode cX1_init 9 = .ok (.putfield 9, 3) := by decide +kernel
theorem dX1_init_12 : decode cX1_init 12 = .ok (.return_, 1) := by decide +kernel
theorem dX10_init_0 : decode cX10_init 0 = .ok (.aload_n 0, 1) := by decide +kernel
theorem dX10_init_1 : decode cX10_init 1 = .ok (.invokespecial 5, 3) := by decide +kernel
theorem dX10_init_4 : decode cX10_init 4 = .ok (.aload_n 0, 1) := by decide +kernel
theorem dX10_init_5 : decode cX10_init 5 = .ok (.bipush 8, 2) := by decide +kernel
theorem dX10_init_7 : decode cX10_init 7 = .ok (.newarray .int, 2) := by decide +kernel
theorem dX10_init_9 : decode cX10_init 9 = .ok (.dup, 1) := by decide +kernel
theorem dX10_init_10 : decode cX10_init 10 = .ok (.iconst 0, 1) := by decide +kernel
theorem dX10_init_11 : decode cX10_init 11 = .ok (.iconst 1, 1) := by decide +kernel
theorem dX10_init_12 : decode cX10_init 12 = .ok (.iastore, 1) := by decide +kernel
theorem dX10_init_13 : decode cX10_init 13 = .ok (.dup, 1) := by decide +kernel
theorem dX10_init_14 : decode cX10_init 14 = .ok (.iconst 1, 1) := by decide +kernel
theorem dX10_init_15 : decode cX10_init 15 = .ok (.iconst 1, 1) := by decide +kernel
theorem dX10_init_16 : decode cX10_init 16 = .ok (.iastore, 1) := by decide +kernel
theorem dX10_init_17 : decode cX10_init 17 = .ok (.dup, 1) := by decide +kernel
theorem dX10_init_18 : decode cX10_init 18 = .ok (.iconst 2, 1) := by decide +kernel
theorem dX10_init_19 : decode cX10_init 19 = .ok (.iconst 1, 1) := by decide +kernel
theorem dX10_init_20 : decode cX10_init 20 = .ok (.iastore, 1) := by decide +kernel
theorem dX10_init_21 : decode cX10_init 21 = .ok (.dup, 1) := by decide +kernel
theorem dX10_init_22 : decode cX10_init 22 = .ok (.iconst 3, 1) := by decide +kernel
theorem dX10_init_23 : decode cX10_init 23 = .ok (.iconst 1, 1) := by decide +kernel
theorem dX10_init_24 : decode cX10_init 24 = .ok (.iastore, 1) := by decide +kernel
theorem dX10_init_25 : decode cX10_init 25 = .ok (.dup, 1) := by decide +kernel
theorem dX10_init_26 : decode cX10_init 26 = .ok (.iconst 4, 1) := by decide +kernel
theorem dX10_init_27 : decode cX10_init 27 = .ok (.iconst 1, 1) := by decide +kernel
theorem dX10_init_28 : decode cX10_init 28 = .ok (.iastore, 1) := by decide +kernel
theorem dX10_init_29 : decode cX10_init 29 = .ok (.dup, 1) := by decide +kernel
theorem dX10_init_30 : decode cX10_init 30 = .ok (.iconst 5, 1) := by decide +kernel
theorem dX10_init_31 : decode cX10_init 31 = .ok (.iconst 1, 1) := by decide +kernel
theorem dX10_init_32 : decode cX10_init 32 = .ok (.iastore, 1) := by decide +kernel
theorem dX10_init_33 : decode cX10_init 33 = .ok (.dup, 1) := by decide +kernel
theorem dX10_init_34 : decode cX10_init 34 = .ok (.bipush 6, 2) := by decide +kernel
theorem dX10_init_36 : decode cX10_init 36 = .ok (.iconst 1, 1) := by decide +kernel
theorem dX10_init_37 : decode cX10_init 37 = .ok (.iastore, 1) := by decide +kernel
theorem dX10_init_38 : decode cX10_init 38 = .ok (.dup, 1) := by decide +kernel
theorem dX10_init_39 : decode cX10_init 39 = .ok (.bipush 7, 2) := by decide +kernel
theorem dX10_init_41 : decode cX10_init 41 = .ok (.iconst 1, 1) := by decide +kernel
theorem dX10_init_42 : decode cX10_init 42 = .ok (.iastore, 1) := by decide +kernel
theorem dX10_init_43 : decode cX10_init 43 = .ok (.putfield 11, 3) := by decide +kernel
theorem dX10_init_46 : decode cX10_init 46 = .ok (.aload_n 0, 1) := by decide +kernel
theorem dX10_init_47 : decode cX10_init 47 = .ok (.bipush 10, 2) := by decide +kernel
theorem dX10_init_49 : decode cX10_init 49 = .ok (.newarray .int, 2) := by decide +kernel
theorem dX10_init_51 : decode cX10_init 51 = .ok (.putfield 15, 3) := by decide +kernel
theorem dX10_init_54 : decode cX10_init 54 = .ok (.aload_n 0, 1) := by decide +kernel
theorem dX10_init_55 : decode cX10_init 55 = .ok (.bipush 100, 2) := by decide +kernel
theorem dX10_init_57 : decode cX10_init 57 = .ok (.newarray .int, 2) := by decide +kernel
theorem dX10_init_59 : decode cX10_init 59 = .ok (.putfield 18, 3) := by decide +kernel
theorem dX10_init_62 : decode cX10_init 62 = .ok (.aload_n 0, 1) := by decide +kernel
theorem dX10_init_63 : decode cX10_init 63 = .ok (.bipush 90, 2) := by decide +kernel
theorem dX10_init_65 : decode cX10_init 65 = .ok (.newarray .int, 2) := by decide +kernel
theorem dX10_init_67 : decode cX10_init 67 = .ok (.putfield 21, 3) := by decide +kernel
theorem dX10_init_70 : decode cX10_init 70 = .ok (.return_, 1) := by decide +kernel
theorem dX5_init_0 : decode cX5_init 0 = .ok (.aload_n 0, 1) := by decide +kernel
theorem dX5_init_1 : decode cX5_init 1 = .ok (.invokespecial 3, 3) := by decide +kernel
theorem dX5_init_4 : decode cX5_init 4 = .ok (.aload_n 0, 1) := by decide +kernel
theorem dX5_init_5 : decode cX5_init 5 = .ok (.sipush 1024, 3) := by decide +kernel
theorem dX5_init_8 : decode cX5_init 8 = .ok (.newarray .int, 2) := by decide +kernel
theorem dX5_init_10 : decode cX5_init 10 = .ok (.putfield 9, 3) := by decide +kernel
theorem dX5_init_13 : decode cX5_init 13 = .ok (.aload_n 0, 1) := by decide +kernel
theorem dX5_init_14 : decode cX5_init 14 = .ok (.sipush 1024, 3) := by decide +kernel
theorem dX5_init_17 : decode cX5_init 17 = .ok (.newarray .int, 2) := by decide +kernel
theorem dX5_init_19 : decode cX5_init 19 = .ok (.putfield 15, 3) := by decide +kernel
theorem dX5_init_22 : decode cX5_init 22 = .ok (.aload_n 0, 1) := by decide +kernel
theorem dX5_init_23 : decode cX5_init 23 = .ok (.sipush 1024, 3) := by decide +kernel
theorem dX5_init_26 : decode cX5_init 26 = .ok (.newarray .int, 2) := by decide +kernel
theorem dX5_init_28 : decode cX5_init 28 = .ok (.putfield 18, 3) := by decide +kernel
theorem dX5_init_31 : decode cX5_init 31 = .ok (.aload_n 0, 1) := by decide +kernel
theorem dX5_init_32 : decode cX5_init 32 = .ok (.bipush 10, 2) := by decide +kernel
theorem dX5_init_34 : decode cX5_init 34 = .ok (.newarray .int, 2) := by decide +kernel
theorem dX5_init_36 : decode cX5_init 36 = .ok (.putfield 21, 3) := by decide +kernel
theorem dX5_init_39 : decode cX5_init 39 = .ok (.aload_n 0, 1) := by decide +kernel
theorem dX5_init_40 : decode cX5_init 40 = .ok (.bipush 10, 2) := by decide +kernel
theorem dX5_init_42 : decode cX5_init 42 = .ok (.newarray .int, 2) := by decide +kernel
theorem dX5_init_44 : decode cX5_init 44 = .ok (.putfield 24, 3) := by decide +kernel
theorem dX5_init_47 : decode cX5_init 47 = .ok (.aload_n 0, 1) := by decide +kernel
theorem dX5_init_48 : decode cX5_init 48 = .ok (.bipush 10, 2) := by decide +kernel
theorem dX5_init_50 : decode cX5_init 50 = .ok (.newarray .int, 2) := by decide +kernel
theorem dX5_init_52 : decode cX5_init 52 = .ok (.putfield 27, 3) := by decide +kernel
theorem dX5_init_55 : decode cX5_init 55 = .ok (.return_, 1) := by decide +kernel
theorem dX11_state_0 : decode cX11_state 0 = .ok (.aload_n 0, 1) := by decide +kernel
theorem dX11_state_1 : decode cX11_state 1 = .ok (.getfield 42, 3) := by decide +kernel
theorem dX11_state_4 : decode cX11_state 4 = .ok (.iload_n 1, 1) := by decide +kernel
theorem dX11_state_5 : decode cX11_state 5 = .ok (.invokevirtual 87, 3) := by decide +kernel
theorem dX11_state_8 : decode cX11_state 8 = .ok (.ifCond .ne 5, 3) := by decide +kernel
theorem dX11_state_11 : decode cX11_state 11 = .ok (.iconst 0, 1) := by decide +kernel
theorem dX11_state_12 : decode cX11_state 12 = .ok (.ireturn, 1) := by decide +kernel
theorem dX11_state_13 : decode cX11_state 13 = .ok (.aload_n 0, 1) := by decide +kernel
theorem dX11_state_14 : decode cX11_state 14 = .ok (.getfield 29, 3) := by decide +kernel
theorem dX11_state_17 : decode cX11_state 17 = .ok (.iload_n 1, 1) := by decide +kernel
theorem dX11_state_18 : decode cX11_state 18 = .ok (.putfield 91, 3) := by decide +kernel
theorem dX11_state_21 : decode cX11_state 21 = .ok (.iconst 1, 1) := by decide +kernel
theorem dX11_state_22 : decode cX11_state 22 = .ok (.ireturn, 1) := by decide +kernel
theorem dX8_has_0 : decode cX8_has 0 = .ok (.iload_n 1, 1) := by decide +kernel
theorem dX8_has_1 : decode cX8_has 1 = .ok (.ifCond .lt 15, 3) := by decide +kernel
theorem dX8_has_4 : decode cX8_has 4 = .ok (.iload_n 1, 1) := by decide +kernel
theorem dX8_has_5 : decode cX8_has 5 = .ok (.aload_n 0, 1) := by decide +kernel
theorem dX8_has_6 : decode cX8_has 6 = .ok (.getfield 18, 3) := by decide +kernel
theorem dX8_has_9 : decode cX8_has 9 = .ok (.if_icmp .ge 7, 3) := by decide +kernel
theorem dX8_has_12 : decode cX8_has 12 = .ok (.iconst 1, 1) := by decide +kernel
theorem dX8_has_13 : decode cX8_has 13 = .ok (.goto 4, 3) := by decide +kernel
theorem dX8_has_16 : decode cX8_has 16 = .ok (.iconst 0, 1) := by decide +kernel
theorem dX8_has_17 : decode cX8_has 17 = .ok (.ireturn, 1) := by decide +kernel
theorem dX11_price_0 : decode cX11_price 0 = .ok (.iload_n 1, 1) := by decide +kernel
theorem dX11_price_1 : decode cX11_price 1 = .ok (.invokestatic 95, 3) := by decide +kernel
theorem dX11_price_4 : decode cX11_price 4 = .ok (.ifCond .eq 13, 3) := by decide +kernel
theorem dX11_price_7 : decode cX11_price 7 = .ok (.iload_n 2, 1) := by decide +kernel
theorem dX11_price_8 : decode cX11_price 8 = .ok (.ifCond .lt 9, 3) := by decide +kernel
theorem dX11_price_11 : decode cX11_price 11 = .ok (.iload_n 2, 1) := by decide +kernel
theorem dX11_price_12 : decode cX11_price 12 = .ok (.bipush 99, 2) := by decide +kernel
theorem dX11_price_14 : decode cX11_price 14 = .ok (.if_icmp .le 5, 3) := by decide +kernel
theorem dX11_price_17 : decode cX11_price 17 = .ok (.iconst 0, 1) := by decide +kernel
theorem dX11_price_18 : decode cX11_price 18 = .ok (.ireturn, 1) := by decide +kernel
theorem dX11_price_19 : decode cX11_price 19 = .ok (.aload_n 0, 1) := by decide +kernel
theorem dX11_price_20 : decode cX11_price 20 = .ok (.getfield 16, 3) := by decide +kernel
theorem dX11_price_23 : decode cX11_price 23 = .ok (.iload_n 1, 1) := by decide +kernel
theorem dX11_price_24 : decode cX11_price 24 = .ok (.iload_n 2, 1) := by decide +kernel
theorem dX11_price_25 : decode cX11_price 25 = .ok (.iastore, 1) := by decide +kernel
theorem dX11_price_26 : decode cX11_price 26 = .ok (.iconst 1, 1) := by decide +kernel
theorem dX11_price_27 : decode cX11_price 27 = .ok (.ireturn, 1) := by decide +kernel
theorem dX11_isQuestion_0 : decode cX11_isQuestion 0 = .ok (.iload_n 0, 1) := by decide +kernel
theorem dX11_isQuestion_1 : decode cX11_isQuestion 1 = .ok (.ifCond .lt 13, 3) := by decide +kernel
theorem dX11_isQuestion_4 : decode cX11_isQuestion 4 = .ok (.iload_n 0, 1) := by decide +kernel
theorem dX11_isQuestion_5 : decode cX11_isQuestion 5 = .ok (.bipush 8, 2) := by decide +kernel
theorem dX11_isQuestion_7 : decode cX11_isQuestion 7 = .ok (.if_icmp .ge 7, 3) := by decide +kernel
theorem dX11_isQuestion_10 : decode cX11_isQuestion 10 = .ok (.iconst 1, 1) := by decide +kernel
theorem dX11_isQuestion_11 : decode cX11_isQuestion 11 = .ok (.goto 4, 3) := by decide +kernel
theorem dX11_isQuestion_14 : decode cX11_isQuestion 14 = .ok (.iconst 0, 1) := by decide +kernel
theorem dX11_isQuestion_15 : decode cX11_isQuestion 15 = .ok (.ireturn, 1) := by decide +kernel
theorem dX11_purse_0 : decode cX11_purse 0 = .ok (.iload_n 1, 1) := by decide +kernel
theorem dX11_purse_1 : decode cX11_purse 1 = .ok (.ifCond .lt 10, 3) := by decide +kernel
theorem dX11_purse_4 : decode cX11_purse 4 = .ok (.iload_n 1, 1) := by decide +kernel
theorem dX11_purse_5 : decode cX11_purse 5 = .ok (.sipush 9999, 3) := by decide +kernel
theorem dX11_purse_8 : decode cX11_purse 8 = .ok (.if_icmp .le 5, 3) := by decide +kernel
theorem dX11_purse_11 : decode cX11_purse 11 = .ok (.iconst 0, 1) := by decide +kernel
theorem dX11_purse_12 : decode cX11_purse 12 = .ok (.ireturn, 1) := by decide +kernel
theorem dX11_purse_13 : decode cX11_purse 13 = .ok (.aload_n 0, 1) := by decide +kernel
theorem dX11_purse_14 : decode cX11_purse 14 = .ok (.getfield 29, 3) := by decide +kernel
theorem dX11_purse_17 : decode cX11_purse 17 = .ok (.iload_n 1, 1) := by decide +kernel
theorem dX11_purse_18 : decode cX11_purse 18 = .ok (.putfield 98, 3) := by decide +kernel
theorem dX11_purse_21 : decode cX11_purse 21 = .ok (.iconst 1, 1) := by decide +kernel
theorem dX11_purse_22 : decode cX11_purse 22 = .ok (.ireturn, 1) := by decide +kernel
theorem dX11_feed_0 : decode cX11_feed 0 = .ok (.aload_n 0, 1) := by decide +kernel
theorem dX11_feed_1 : decode cX11_feed 1 = .ok (.getfield 12, 3) := by decide +kernel
theorem dX11_feed_4 : decode cX11_feed 4 = .ok (.getfield 101, 3) := by decide +kernel
theorem dX11_feed_7 : decode cX11_feed 7 = .ok (.bipush 20, 2) := by decide +kernel
theorem dX11_feed_9 : decode cX11_feed 9 = .ok (.iadd, 1) := by decide +kernel
theorem dX11_feed_10 : decode cX11_feed 10 = .ok (.sipush 260, 3) := by decide +kernel
theorem dX11_feed_13 : decode cX11_feed 13 = .ok (.if_icmp .le 5, 3) := by decide +kernel
theorem dX11_feed_16 : decode cX11_feed 16 = .ok (.iconst (-1), 1) := by decide +kernel
theorem dX11_feed_17 : decode cX11_feed 17 = .ok (.ireturn, 1) := by decide +kernel
theorem dX11_feed_18 : decode cX11_feed 18 = .ok (.aload_n 0, 1) := by decide +kernel
theorem dX11_feed_19 : decode cX11_feed 19 = .ok (.getfield 12, 3) := by decide +kernel
theorem dX11_feed_22 : decode cX11_feed 22 = .ok (.iload_n 1, 1) := by decide +kernel
theorem dX11_feed_23 : decode cX11_feed 23 = .ok (.invokevirtual 104, 3) := by decide +kernel
theorem dX11_feed_26 : decode cX11_feed 26 = .ok (.aload_n 0, 1) := by decide +kernel
theorem dX11_feed_27 : decode cX11_feed 27 = .ok (.getfield 12, 3) := by decide +kernel
theorem dX11_feed_30 : decode cX11_feed 30 = .ok (.iload_n 2, 1) := by decide +kernel
theorem dX11_feed_31 : decode cX11_feed 31 = .ok (.invokevirtual 104, 3) := by decide +kernel
theorem dX11_feed_34 : decode cX11_feed 34 = .ok (.aload_n 0, 1) := by decide +kernel
theorem dX11_feed_35 : decode cX11_feed 35 = .ok (.getfield 12, 3) := by decide +kernel
theorem dX11_feed_38 : decode cX11_feed 38 = .ok (.iload_n 3, 1) := by decide +kernel
theorem dX11_feed_39 : decode cX11_feed 39 = .ok (.invokevirtual 104, 3) := by decide +kernel
theorem dX11_feed_42 : decode cX11_feed 42 = .ok (.aload_n 0, 1) := by decide +kernel
theorem dX11_feed_43 : decode cX11_feed 43 = .ok (.getfield 12, 3) := by decide +kernel
theorem dX11_feed_46 : decode cX11_feed 46 = .ok (.iload 4, 2) := by decide +kernel
theorem dX11_feed_48 : decode cX11_feed 48 = .ok (.invokevirtual 104, 3) := by decide +kernel
theorem dX11_feed_51 : decode cX11_feed 51 = .ok (.aload_n 0, 1) := by decide +kernel
theorem dX11_feed_52 : decode cX11_feed 52 = .ok (.getfield 12, 3) := by decide +kernel
theorem dX11_feed_55 : decode cX11_feed 55 = .ok (.iload 5, 2) := by decide +kernel
theorem dX11_feed_57 : decode cX11_feed 57 = .ok (.invokevirtual 104, 3) := by decide +kernel
theorem dX11_feed_60 : decode cX11_feed 60 = .ok (.aload_n 0, 1) := by decide +kernel
theorem dX11_feed_61 : decode cX11_feed 61 = .ok (.getfield 12, 3) := by decide +kernel
theorem dX11_feed_64 : decode cX11_feed 64 = .ok (.getfield 101, 3) := by decide +kernel
theorem dX11_feed_67 : decode cX11_feed 67 = .ok (.ireturn, 1) := by decide +kernel
theorem dX7_append_0 : decode cX7_append 0 = .ok (.bipush 24, 2) := by decide +kernel
theorem dX7_append_2 : decode cX7_append 2 = .ok (.istore_n 2, 1) := by decide +kernel
theorem dX7_append_3 : decode cX7_append 3 = .ok (.iload_n 2, 1) := by decide +kernel
theorem dX7_append_4 : decode cX7_append 4 = .ok (.ifCond .lt 45, 3) := by decide +kernel
theorem dX7_append_7 : decode cX7_append 7 = .ok (.aload_n 0, 1) := by decide +kernel
theorem dX7_append_8 : decode cX7_append 8 = .ok (.getfield 15, 3) := by decide +kernel
theorem dX7_append_11 : decode cX7_append 11 = .ok (.sipush 260, 3) := by decide +kernel
theorem dX7_append_14 : decode cX7_append 14 = .ok (.if_icmp .ge 29, 3) := by decide +kernel
theorem dX7_append_17 : decode cX7_append 17 = .ok (.aload_n 0, 1) := by decide +kernel
theorem dX7_append_18 : decode cX7_append 18 = .ok (.getfield 9, 3) := by decide +kernel
theorem dX7_append_21 : decode cX7_append 21 = .ok (.aload_n 0, 1) := by decide +kernel
theorem dX7_append_22 : decode cX7_append 22 = .ok (.getfield 15, 3) := by decide +kernel
theorem dX7_append_25 : decode cX7_append 25 = .ok (.iload_n 1, 1) := by decide +kernel
theorem dX7_append_26 : decode cX7_append 26 = .ok (.iload_n 2, 1) := by decide +kernel
theorem dX7_append_27 : decode cX7_append 27 = .ok (.iushr, 1) := by decide +kernel
theorem dX7_append_28 : decode cX7_append 28 = .ok (.sipush 255, 3) := by decide +kernel
theorem dX7_append_31 : decode cX7_append 31 = .ok (.iand, 1) := by decide +kernel
theorem dX7_append_32 : decode cX7_append 32 = .ok (.iastore, 1) := by decide +kernel
theorem dX7_append_33 : decode cX7_append 33 = .ok (.aload_n 0, 1) := by decide +kernel
theorem dX7_append_34 : decode cX7_append 34 = .ok (.dup, 1) := by decide +kernel
theorem dX7_append_35 : decode cX7_append 35 = .ok (.getfield 15, 3) := by decide +kernel
theorem dX7_append_38 : decode cX7_append 38 = .ok (.iconst 1, 1) := by decide +kernel
theorem dX7_append_39 : decode cX7_append 39 = .ok (.iadd, 1) := by decide +kernel
theorem dX7_append_40 : decode cX7_append 40 = .ok (.putfield 15, 3) := by decide +kernel
theorem dX7_append_43 : decode cX7_append 43 = .ok (.iinc 2 (-8), 3) := by decide +kernel
theorem dX7_append_46 : decode cX7_append 46 = .ok (.goto (-43), 3) := by decide +kernel
theorem dX7_append_49 : decode cX7_append 49 = .ok (.return_, 1) := by decide +kernel
theorem dX11_law_0 : decode cX11_law 0 = .ok (.aload_n 0, 1) := by decide +kernel
theorem dX11_law_1 : decode cX11_law 1 = .ok (.iload_n 1, 1) := by decide +kernel
theorem dX11_law_2 : decode cX11_law 2 = .ok (.sipush 240, 3) := by decide +kernel
theorem dX11_law_5 : decode cX11_law 5 = .ok (.invokevirtual 108, 3) := by decide +kernel
theorem dX11_law_8 : decode cX11_law 8 = .ok (.ifCond .ne 5, 3) := by decide +kernel
theorem dX11_law_11 : decode cX11_law 11 = .ok (.iconst (-1), 1) := by decide +kernel
theorem dX11_law_12 : decode cX11_law 12 = .ok (.ireturn, 1) := by decide +kernel
theorem dX11_law_13 : decode cX11_law 13 = .ok (.aload_n 0, 1) := by decide +kernel
theorem dX11_law_14 : decode cX11_law 14 = .ok (.getfield 12, 3) := by decide +kernel
theorem dX11_law_17 : decode cX11_law 17 = .ok (.iload_n 1, 1) := by decide +kernel
theorem dX11_law_18 : decode cX11_law 18 = .ok (.invokevirtual 112, 3) := by decide +kernel
theorem dX11_law_21 : decode cX11_law 21 = .ok (.aload_n 0, 1) := by decide +kernel
theorem dX11_law_22 : decode cX11_law 22 = .ok (.getfield 12, 3) := by decide +kernel
theorem dX11_law_25 : decode cX11_law 25 = .ok (.aload_n 0, 1) := by decide +kernel
theorem dX11_law_26 : decode cX11_law 26 = .ok (.getfield 56, 3) := by decide +kernel
theorem dX11_law_29 : decode cX11_law 29 = .ok (.invokestatic 115, 3) := by decide +kernel
theorem dX11_law_32 : decode cX11_law 32 = .ok (.pop, 1) := by decide +kernel
theorem dX11_law_33 : decode cX11_law 33 = .ok (.aload_n 0, 1) := by decide +kernel
theorem dX11_law_34 : decode cX11_law 34 = .ok (.getfield 12, 3) := by decide +kernel
theorem dX11_law_37 : decode cX11_law 37 = .ok (.invokevirtual 121, 3) := by decide +kernel
theorem dX11_law_40 : decode cX11_law 40 = .ok (.aload_n 0, 1) := by decide +kernel
theorem dX11_law_41 : decode cX11_law 41 = .ok (.getfield 12, 3) := by decide +kernel
theorem dX11_law_44 : decode cX11_law 44 = .ok (.getfield 124, 3) := by decide +kernel
theorem dX11_law_47 : decode cX11_law 47 = .ok (.ifCond .eq 11, 3) := by decide +kernel
theorem dX11_law_50 : decode cX11_law 50 = .ok (.aload_n 0, 1) := by decide +kernel
theorem dX11_law_51 : decode cX11_law 51 = .ok (.getfield 12, 3) := by decide +kernel
theorem dX11_law_54 : decode cX11_law 54 = .ok (.getfield 124, 3) := by decide +kernel
theorem dX11_law_57 : decode cX11_law 57 = .ok (.ireturn, 1) := by decide +kernel
theorem dX11_law_58 : decode cX11_law 58 = .ok (.aload_n 0, 1) := by decide +kernel
theorem dX11_law_59 : decode cX11_law 59 = .ok (.getfield 52, 3) := by decide +kernel
theorem dX11_law_62 : decode cX11_law 62 = .ok (.astore_n 2, 1) := by decide +kernel
theorem dX11_law_63 : decode cX11_law 63 = .ok (.aload_n 0, 1) := by decide +kernel
theorem dX11_law_64 : decode cX11_law 64 = .ok (.aload_n 0, 1) := by decide +kernel
theorem dX11_law_65 : decode cX11_law 65 = .ok (.getfield 56, 3) := by decide +kernel
theorem dX11_law_68 : decode cX11_law 68 = .ok (.putfield 52, 3) := by decide +kernel
theorem dX11_law_71 : decode cX11_law 71 = .ok (.aload_n 0, 1) := by decide +kernel
theorem dX11_law_72 : decode cX11_law 72 = .ok (.aload_n 2, 1) := by decide +kernel
theorem dX11_law_73 : decode cX11_law 73 = .ok (.putfield 56, 3) := by decide +kernel
theorem dX11_law_76 : decode cX11_law 76 = .ok (.aload_n 0, 1) := by decide +kernel
theorem dX11_law_77 : decode cX11_law 77 = .ok (.getfield 52, 3) := by decide +kernel
theorem dX11_law_80 : decode cX11_law 80 = .ok (.getfield 127, 3) := by decide +kernel
theorem dX11_law_83 : decode cX11_law 83 = .ok (.ireturn, 1) := by decide +kernel
theorem dX11_isOnTape_0 : decode cX11_isOnTape 0 = .ok (.iload_n 1, 1) := by decide +kernel
theorem dX11_isOnTape_1 : decode cX11_isOnTape 1 = .ok (.iconst 1, 1) := by decide +kernel
theorem dX11_isOnTape_2 : decode cX11_isOnTape 2 = .ok (.if_icmp .lt 23, 3) := by decide +kernel
theorem dX11_isOnTape_5 : decode cX11_isOnTape 5 = .ok (.iload_n 1, 1) := by decide +kernel
theorem dX11_isOnTape_6 : decode cX11_isOnTape 6 = .ok (.iload_n 2, 1) := by decide +kernel
theorem dX11_isOnTape_7 : decode cX11_isOnTape 7 = .ok (.if_icmp .gt 18, 3) := by decide +kernel
theorem dX11_isOnTape_10 : decode cX11_isOnTape 10 = .ok (.iload_n 1, 1) := by decide +kernel
theorem dX11_isOnTape_11 : decode cX11_isOnTape 11 = .ok (.aload_n 0, 1) := by decide +kernel
theorem dX11_isOnTape_12 : decode cX11_isOnTape 12 = .ok (.getfield 12, 3) := by decide +kernel
theorem dX11_isOnTape_15 : decode cX11_isOnTape 15 = .ok (.getfield 101, 3) := by decide +kernel
theorem dX11_isOnTape_18 : decode cX11_isOnTape 18 = .ok (.if_icmp .gt 7, 3) := by decide +kernel
theorem dX11_isOnTape_21 : decode cX11_isOnTape 21 = .ok (.iconst 1, 1) := by decide +kernel
theorem dX11_isOnTape_22 : decode cX11_isOnTape 22 = .ok (.goto 4, 3) := by decide +kernel
theorem dX11_isOnTape_25 : decode cX11_isOnTape 25 = .ok (.iconst 0, 1) := by decide +kernel
theorem dX11_isOnTape_26 : decode cX11_isOnTape 26 = .ok (.ireturn, 1) := by decide +kernel
theorem dX7_open_0 : decode cX7_open 0 = .ok (.aload_n 0, 1) := by decide +kernel
theorem dX7_open_1 : decode cX7_open 1 = .ok (.iconst 0, 1) := by decide +kernel
theorem dX7_open_2 : decode cX7_open 2 = .ok (.putfield 23, 3) := by decide +kernel
theorem dX7_open_5 : decode cX7_open 5 = .ok (.aload_n 0, 1) := by decide +kernel
theorem dX7_open_6 : decode cX7_open 6 = .ok (.iload_n 1, 1) := by decide +kernel
theorem dX7_open_7 : decode cX7_open 7 = .ok (.aload_n 0, 1) := by decide +kernel
theorem dX7_open_8 : decode cX7_open 8 = .ok (.getfield 15, 3) := by decide +kernel
theorem dX7_open_11 : decode cX7_open 11 = .ok (.invokestatic 26, 3) := by decide +kernel
theorem dX7_open_14 : decode cX7_open 14 = .ok (.putfield 32, 3) := by decide +kernel
theorem dX7_open_17 : decode cX7_open 17 = .ok (.aload_n 0, 1) := by decide +kernel
theorem dX7_open_18 : decode cX7_open 18 = .ok (.aload_n 0, 1) := by decide +kernel
theorem dX7_open_19 : decode cX7_open 19 = .ok (.iconst 0, 1) := by decide +kernel
theorem dX7_open_20 : decode cX7_open 20 = .ok (.invokevirtual 19, 3) := by decide +kernel
theorem dX7_open_23 : decode cX7_open 23 = .ok (.putfield 35, 3) := by decide +kernel
theorem dX7_open_26 : decode cX7_open 26 = .ok (.aload_n 0, 1) := by decide +kernel
theorem dX7_open_27 : decode cX7_open 27 = .ok (.iconst 0, 1) := by decide +kernel
theorem dX7_open_28 : decode cX7_open 28 = .ok (.putfield 38, 3) := by decide +kernel
theorem dX7_open_31 : decode cX7_open 31 = .ok (.return_, 1) := by decide +kernel
theorem dX7_byteAt_0 : decode cX7_byteAt 0 = .ok (.iload_n 1, 1) := by decide +kernel
theorem dX7_byteAt_1 : decode cX7_byteAt 1 = .ok (.ifCond .lt 20, 3) := by decide +kernel
theorem dX7_byteAt_4 : decode cX7_byteAt 4 = .ok (.iload_n 1, 1) := by decide +kernel
theorem dX7_byteAt_5 : decode cX7_byteAt 5 = .ok (.aload_n 0, 1) := by decide +kernel
theorem dX7_byteAt_6 : decode cX7_byteAt 6 = .ok (.getfield 15, 3) := by decide +kernel
theorem dX7_byteAt_9 : decode cX7_byteAt 9 = .ok (.if_icmp .ge 12, 3) := by decide +kernel
theorem dX7_byteAt_12 : decode cX7_byteAt 12 = .ok (.aload_n 0, 1) := by decide +kernel
theorem dX7_byteAt_13 : decode cX7_byteAt 13 = .ok (.getfield 9, 3) := by decide +kernel
theorem dX7_byteAt_16 : decode cX7_byteAt 16 = .ok (.iload_n 1, 1) := by decide +kernel
theorem dX7_byteAt_17 : decode cX7_byteAt 17 = .ok (.iaload, 1) := by decide +kernel
theorem dX7_byteAt_18 : decode cX7_byteAt 18 = .ok (.goto 4, 3) := by decide +kernel
theorem dX7_byteAt_21 : decode cX7_byteAt 21 = .ok (.iconst (-1), 1) := by decide +kernel
theorem dX7_byteAt_22 : decode cX7_byteAt 22 = .ok (.ireturn, 1) := by decide +kernel
theorem dX3_read_0 : decode cX3_read 0 = .ok (.aload_n 1, 1) := by decide +kernel
theorem dX3_read_1 : decode cX3_read 1 = .ok (.invokevirtual 9, 3) := by decide +kernel
theorem dX3_read_4 : decode cX3_read 4 = .ok (.iconst 0, 1) := by decide +kernel
theorem dX3_read_5 : decode cX3_read 5 = .ok (.istore_n 2, 1) := by decide +kernel
theorem dX3_read_6 : decode cX3_read 6 = .ok (.iload_n 2, 1) := by decide +kernel
theorem dX3_read_7 : decode cX3_read 7 = .ok (.bipush 16, 2) := by decide +kernel
theorem dX3_read_9 : decode cX3_read 9 = .ok (.if_icmp .gt 40, 3) := by decide +kernel
theorem dX3_read_12 : decode cX3_read 12 = .ok (.aload_n 0, 1) := by decide +kernel
theorem dX3_read_13 : decode cX3_read 13 = .ok (.aload_n 1, 1) := by decide +kernel
theorem dX3_read_14 : decode cX3_read 14 = .ok (.invokestatic 14, 3) := by decide +kernel
theorem dX3_read_17 : decode cX3_read 17 = .ok (.ifCond .ne 5, 3) := by decide +kernel
theorem dX3_read_20 : decode cX3_read 20 = .ok (.iconst 0, 1) := by decide +kernel
theorem dX3_read_21 : decode cX3_read 21 = .ok (.ireturn, 1) := by decide +kernel
theorem dX3_read_22 : decode cX3_read 22 = .ok (.aload_n 0, 1) := by decide +kernel
theorem dX3_read_23 : decode cX3_read 23 = .ok (.getfield 20, 3) := by decide +kernel
theorem dX3_read_26 : decode cX3_read 26 = .ok (.iconst (-1), 1) := by decide +kernel
theorem dX3_read_27 : decode cX3_read 27 = .ok (.if_icmp .ne 5, 3) := by decide +kernel
theorem dX3_read_30 : decode cX3_read 30 = .ok (.iconst 1, 1) := by decide +kernel
theorem dX3_read_31 : decode cX3_read 31 = .ok (.ireturn, 1) := by decide +kernel
theorem dX3_read_32 : decode cX3_read 32 = .ok (.aload_n 0, 1) := by decide +kernel
theorem dX3_read_33 : decode cX3_read 33 = .ok (.bipush 59, 2) := by decide +kernel
theorem dX3_read_35 : decode cX3_read 35 = .ok (.invokevirtual 26, 3) := by decide +kernel
theorem dX3_read_38 : decode cX3_read 38 = .ok (.ifCond .ne 5, 3) := by decide +kernel
theorem dX3_read_41 : decode cX3_read 41 = .ok (.iconst 0, 1) := by decide +kernel
theorem dX3_read_42 : decode cX3_read 42 = .ok (.ireturn, 1) := by decide +kernel
theorem dX3_read_43 : decode cX3_read 43 = .ok (.iinc 2 1, 3) := by decide +kernel
theorem dX3_read_46 : decode cX3_read 46 = .ok (.goto (-40), 3) := by decide +kernel
theorem dX3_read_49 : decode cX3_read 49 = .ok (.aload_n 0, 1) := by decide +kernel
theorem dX3_read_50 : decode cX3_read 50 = .ok (.iconst 4, 1) := by decide +kernel
theorem dX3_read_51 : decode cX3_read 51 = .ok (.aload_n 0, 1) := by decide +kernel
theorem dX3_read_52 : decode cX3_read 52 = .ok (.getfield 30, 3) := by decide +kernel
theorem dX3_read_55 : decode cX3_read 55 = .ok (.invokevirtual 33, 3) := by decide +kernel
theorem dX3_read_58 : decode cX3_read 58 = .ok (.ireturn, 1) := by decide +kernel
theorem dX2_clear_0 : decode cX2_clear 0 = .ok (.aload_n 0, 1) := by decide +kernel
theorem dX2_clear_1 : decode cX2_clear 1 = .ok (.iconst 0, 1) := by decide +kernel
theorem dX2_clear_2 : decode cX2_clear 2 = .ok (.putfield 30, 3) := by decide +kernel
theorem dX2_clear_5 : decode cX2_clear 5 = .ok (.aload_n 0, 1) := by decide +kernel
theorem dX2_clear_6 : decode cX2_clear 6 = .ok (.iconst 0, 1) := by decide +kernel
theorem dX2_clear_7 : decode cX2_clear 7 = .ok (.putfield 34, 3) := by decide +kernel
theorem dX2_clear_10 : decode cX2_clear 10 = .ok (.return_, 1) := by decide +kernel
theorem dX3_readRule_0 : decode cX3_readRule 0 = .ok (.aload_n 0, 1) := by decide +kernel
theorem dX3_readRule_1 : decode cX3_readRule 1 = .ok (.getfield 20, 3) := by decide +kernel
theorem dX3_readRule_4 : decode cX3_readRule 4 = .ok (.istore_n 2, 1) := by decide +kernel
theorem dX3_readRule_5 : decode cX3_readRule 5 = .ok (.iload_n 2, 1) := by decide +kernel
theorem dX3_readRule_6 : decode cX3_readRule 6 = .ok (.bipush 101, 2) := by decide +kernel
theorem dX3_readRule_8 : decode cX3_readRule 8 = .ok (.if_icmp .eq 25, 3) := by decide +kernel
theorem dX3_readRule_11 : decode cX3_readRule 11 = .ok (.iload_n 2, 1) := by decide +kernel
theorem dX3_readRule_12 : decode cX3_readRule 12 = .ok (.bipush 103, 2) := by decide +kernel
theorem dX3_readRule_14 : decode cX3_readRule 14 = .ok (.if_icmp .eq 19, 3) := by decide +kernel
theorem dX3_readRule_17 : decode cX3_readRule 17 = .ok (.iload_n 2, 1) := by decide +kernel
theorem dX3_readRule_18 : decode cX3_readRule 18 = .ok (.bipush 120, 2) := by decide +kernel
theorem dX3_readRule_20 : decode cX3_readRule 20 = .ok (.if_icmp .eq 13, 3) := by decide +kernel
theorem dX3_readRule_23 : decode cX3_readRule 23 = .ok (.aload_n 0, 1) := by decide +kernel
theorem dX3_readRule_24 : decode cX3_readRule 24 = .ok (.iconst 1, 1) := by decide +kernel
theorem dX3_readRule_25 : decode cX3_readRule 25 = .ok (.aload_n 0, 1) := by decide +kernel
theorem dX3_readRule_26 : decode cX3_readRule 26 = .ok (.getfield 30, 3) := by decide +kernel
theorem dX3_readRule_29 : decode cX3_readRule 29 = .ok (.invokevirtual 33, 3) := by decide +kernel
theorem dX3_readRule_32 : decode cX3_readRule 32 = .ok (.ireturn, 1) := by decide +kernel
theorem dX3_readRule_33 : decode cX3_readRule 33 = .ok (.aload_n 1, 1) := by decide +kernel
theorem dX3_readRule_34 : decode cX3_readRule 34 = .ok (.invokevirtual 37, 3) := by decide +kernel
theorem dX3_readRule_37 : decode cX3_readRule 37 = .ok (.ifCond .eq 13, 3) := by decide +kernel
theorem dX3_readRule_40 : decode cX3_readRule 40 = .ok (.aload_n 0, 1) := by decide +kernel
theorem dX3_readRule_41 : decode cX3_readRule 41 = .ok (.iconst 4, 1) := by decide +kernel
theorem dX3_readRule_42 : decode cX3_readRule 42 = .ok (.aload_n 0, 1) := by decide +kernel
theorem dX3_readRule_43 : decode cX3_readRule 43 = .ok (.getfield 30, 3) := by decide +kernel
theorem dX3_readRule_46 : decode cX3_readRule 46 = .ok (.invokevirtual 33, 3) := by decide +kernel
theorem dX3_readRule_49 : decode cX3_readRule 49 = .ok (.ireturn, 1) := by decide +kernel
theorem dX3_readRule_50 : decode cX3_readRule 50 = .ok (.aload_n 0, 1) := by decide +kernel
theorem dX3_readRule_51 : decode cX3_readRule 51 = .ok (.invokevirtual 41, 3) := by decide +kernel
theorem dX3_readRule_54 : decode cX3_readRule 54 = .ok (.aload_n 1, 1) := by decide +kernel
theorem dX3_readRule_55 : decode cX3_readRule 55 = .ok (.iload_n 2, 1) := by decide +kernel
theorem dX3_readRule_56 : decode cX3_readRule 56 = .ok (.invokevirtual 44, 3) := by decide +kernel
theorem dX3_readRule_59 : decode cX3_readRule 59 = .ok (.iload_n 2, 1) := by decide +kernel
theorem dX3_readRule_60 : decode cX3_readRule 60 = .ok (.bipush 120, 2) := by decide +kernel
theorem dX3_readRule_62 : decode cX3_readRule 62 = .ok (.if_icmp .eq 22, 3) := by decide +kernel
theorem dX3_readRule_65 : decode cX3_readRule 65 = .ok (.aload_n 0, 1) := by decide +kernel
theorem dX3_readRule_66 : decode cX3_readRule 66 = .ok (.aload_n 1, 1) := by decide +kernel
theorem dX3_readRule_67 : decode cX3_readRule 67 = .ok (.iconst 0, 1) := by decide +kernel
theorem dX3_readRule_68 : decode cX3_readRule 68 = .ok (.iconst 0, 1) := by decide +kernel
theorem dX3_readRule_69 : decode cX3_readRule 69 = .ok (.invokestatic 48, 3) := by decide +kernel
theorem dX3_readRule_72 : decode cX3_readRule 72 = .ok (.ifCond .ne 5, 3) := by decide +kernel
theorem dX3_readRule_75 : decode cX3_readRule 75 = .ok (.iconst 0, 1) := by decide +kernel
theorem dX3_readRule_76 : decode cX3_readRule 76 = .ok (.ireturn, 1) := by decide +kernel
theorem dX3_readRule_77 : decode cX3_readRule 77 = .ok (.aload_n 1, 1) := by decide +kernel
theorem dX3_readRule_78 : decode cX3_readRule 78 = .ok (.iconst 0, 1) := by decide +kernel
theorem dX3_readRule_79 : decode cX3_readRule 79 = .ok (.iconst 0, 1) := by decide +kernel
theorem dX3_readRule_80 : decode cX3_readRule 80 = .ok (.invokevirtual 52, 3) := by decide +kernel
theorem dX3_readRule_83 : decode cX3_readRule 83 = .ok (.pop, 1) := by decide +kernel
theorem dX3_readRule_84 : decode cX3_readRule 84 = .ok (.aload_n 1, 1) := by decide +kernel
theorem dX3_readRule_85 : decode cX3_readRule 85 = .ok (.invokevirtual 56, 3) := by decide +kernel
theorem dX3_readRule_88 : decode cX3_readRule 88 = .ok (.aload_n 0, 1) := by decide +kernel
theorem dX3_readRule_89 : decode cX3_readRule 89 = .ok (.bipush 40, 2) := by decide +kernel
theorem dX3_readRule_91 : decode cX3_readRule 91 = .ok (.invokevirtual 26, 3) := by decide +kernel
theorem dX3_readRule_94 : decode cX3_readRule 94 = .ok (.ifCond .eq 22, 3) := by decide +kernel
theorem dX3_readRule_97 : decode cX3_readRule 97 = .ok (.aload_n 0, 1) := by decide +kernel
theorem dX3_readRule_98 : decode cX3_readRule 98 = .ok (.aload_n 1, 1) := by decide +kernel
theorem dX3_readRule_99 : decode cX3_readRule 99 = .ok (.iconst 1, 1) := by decide +kernel
theorem dX3_readRule_100 : decode cX3_readRule 100 = .ok (.iconst 0, 1) := by decide +kernel
theorem dX3_readRule_101 : decode cX3_readRule 101 = .ok (.invokestatic 59, 3) := by decide +kernel
theorem dX3_readRule_104 : decode cX3_readRule 104 = .ok (.ifCond .eq 12, 3) := by decide +kernel
theorem dX3_readRule_107 : decode cX3_readRule 107 = .ok (.aload_n 0, 1) := by decide +kernel
theorem dX3_readRule_108 : decode cX3_readRule 108 = .ok (.bipush 41, 2) := by decide +kernel
theorem dX3_readRule_110 : decode cX3_readRule 110 = .ok (.invokevirtual 26, 3) := by decide +kernel
theorem dX3_readRule_113 : decode cX3_readRule 113 = .ok (.ifCond .ne 5, 3) := by decide +kernel
theorem dX3_readRule_116 : decode cX3_readRule 116 = .ok (.iconst 0, 1) := by decide +kernel
theorem dX3_readRule_117 : decode cX3_readRule 117 = .ok (.ireturn, 1) := by decide +kernel
theorem dX3_readRule_118 : decode cX3_readRule 118 = .ok (.aload_n 1, 1) := by decide +kernel
theorem dX3_readRule_119 : decode cX3_readRule 119 = .ok (.iconst 0, 1) := by decide +kernel
theorem dX3_readRule_120 : decode cX3_readRule 120 = .ok (.iconst 0, 1) := by decide +kernel
theorem dX3_readRule_121 : decode cX3_readRule 121 = .ok (.invokevirtual 52, 3) := by decide +kernel
theorem dX3_readRule_124 : decode cX3_readRule 124 = .ok (.pop, 1) := by decide +kernel
theorem dX3_readRule_125 : decode cX3_readRule 125 = .ok (.iconst 1, 1) := by decide +kernel
theorem dX3_readRule_126 : decode cX3_readRule 126 = .ok (.ireturn, 1) := by decide +kernel
theorem dX7_fail_0 : decode cX7_fail 0 = .ok (.aload_n 0, 1) := by decide +kernel
theorem dX7_fail_1 : decode cX7_fail 1 = .ok (.sipush (-1000), 3) := by decide +kernel
theorem dX7_fail_4 : decode cX7_fail 4 = .ok (.iload_n 1, 1) := by decide +kernel
theorem dX7_fail_5 : decode cX7_fail 5 = .ok (.imul, 1) := by decide +kernel
theorem dX7_fail_6 : decode cX7_fail 6 = .ok (.iload_n 2, 1) := by decide +kernel
theorem dX7_fail_7 : decode cX7_fail 7 = .ok (.isub, 1) := by decide +kernel
theorem dX7_fail_8 : decode cX7_fail 8 = .ok (.putfield 38, 3) := by decide +kernel
theorem dX7_fail_11 : decode cX7_fail 11 = .ok (.iconst 0, 1) := by decide +kernel
theorem dX7_fail_12 : decode cX7_fail 12 = .ok (.ireturn, 1) := by decide +kernel
theorem dX2_isFull_0 : decode cX2_isFull 0 = .ok (.aload_n 0, 1) := by decide +kernel
theorem dX2_isFull_1 : decode cX2_isFull 1 = .ok (.getfield 30, 3) := by decide +kernel
theorem dX2_isFull_4 : decode cX2_isFull 4 = .ok (.bipush 16, 2) := by decide +kernel
theorem dX2_isFull_6 : decode cX2_isFull 6 = .ok (.if_icmp .lt 7, 3) := by decide +kernel
theorem dX2_isFull_9 : decode cX2_isFull 9 = .ok (.iconst 1, 1) := by decide +kernel
theorem dX2_isFull_10 : decode cX2_isFull 10 = .ok (.goto 4, 3) := by decide +kernel
theorem dX2_isFull_13 : decode cX2_isFull 13 = .ok (.iconst 0, 1) := by decide +kernel
theorem dX2_isFull_14 : decode cX2_isFull 14 = .ok (.ireturn, 1) := by decide +kernel
theorem dX7_step_0 : decode cX7_step 0 = .ok (.aload_n 0, 1) := by decide +kernel
theorem dX7_step_1 : decode cX7_step 1 = .ok (.dup, 1) := by decide +kernel
theorem dX7_step_2 : decode cX7_step 2 = .ok (.getfield 23, 3) := by decide +kernel
theorem dX7_step_5 : decode cX7_step 5 = .ok (.iconst 1, 1) := by decide +kernel
theorem dX7_step_6 : decode cX7_step 6 = .ok (.iadd, 1) := by decide +kernel
theorem dX7_step_7 : decode cX7_step 7 = .ok (.putfield 23, 3) := by decide +kernel
theorem dX7_step_10 : decode cX7_step 10 = .ok (.aload_n 0, 1) := by decide +kernel
theorem dX7_step_11 : decode cX7_step 11 = .ok (.aload_n 0, 1) := by decide +kernel
theorem dX7_step_12 : decode cX7_step 12 = .ok (.getfield 23, 3) := by decide +kernel
theorem dX7_step_15 : decode cX7_step 15 = .ok (.ifCond .lt 36, 3) := by decide +kernel
theorem dX7_step_18 : decode cX7_step 18 = .ok (.aload_n 0, 1) := by decide +kernel
theorem dX7_step_19 : decode cX7_step 19 = .ok (.getfield 23, 3) := by decide +kernel
theorem dX7_step_22 : decode cX7_step 22 = .ok (.aload_n 0, 1) := by decide +kernel
theorem dX7_step_23 : decode cX7_step 23 = .ok (.getfield 32, 3) := by decide +kernel
theorem dX7_step_26 : decode cX7_step 26 = .ok (.if_icmp .ge 25, 3) := by decide +kernel
theorem dX7_step_29 : decode cX7_step 29 = .ok (.aload_n 0, 1) := by decide +kernel
theorem dX7_step_30 : decode cX7_step 30 = .ok (.getfield 23, 3) := by decide +kernel
theorem dX7_step_33 : decode cX7_step 33 = .ok (.sipush 260, 3) := by decide +kernel
theorem dX7_step_36 : decode cX7_step 36 = .ok (.if_icmp .ge 15, 3) := by decide +kernel
theorem dX7_step_39 : decode cX7_step 39 = .ok (.aload_n 0, 1) := by decide +kernel
theorem dX7_step_40 : decode cX7_step 40 = .ok (.getfield 9, 3) := by decide +kernel
theorem dX7_step_43 : decode cX7_step 43 = .ok (.aload_n 0, 1) := by decide +kernel
theorem dX7_step_44 : decode cX7_step 44 = .ok (.getfield 23, 3) := by decide +kernel
theorem dX7_step_47 : decode cX7_step 47 = .ok (.iaload, 1) := by decide +kernel
theorem dX7_step_48 : decode cX7_step 48 = .ok (.goto 4, 3) := by decide +kernel
theorem dX7_step_51 : decode cX7_step 51 = .ok (.iconst (-1), 1) := by decide +kernel
theorem dX7_step_52 : decode cX7_step 52 = .ok (.putfield 35, 3) := by decide +kernel
theorem dX7_step_55 : decode cX7_step 55 = .ok (.return_, 1) := by decide +kernel
theorem dX2_beginRule_0 : decode cX2_beginRule 0 = .ok (.aload_n 0, 1) := by decide +kernel
theorem dX2_beginRule_1 : decode cX2_beginRule 1 = .ok (.getfield 30, 3) := by decide +kernel
theorem dX2_beginRule_4 : decode cX2_beginRule 4 = .ok (.ifCond .lt 58, 3) := by decide +kernel
theorem dX2_beginRule_7 : decode cX2_beginRule 7 = .ok (.aload_n 0, 1) := by decide +kernel
theorem dX2_beginRule_8 : decode cX2_beginRule 8 = .ok (.getfield 30, 3) := by decide +kernel
theorem dX2_beginRule_11 : decode cX2_beginRule 11 = .ok (.bipush 16, 2) := by decide +kernel
theorem dX2_beginRule_13 : decode cX2_beginRule 13 = .ok (.if_icmp .ge 49, 3) := by decide +kernel
theorem dX2_beginRule_16 : decode cX2_beginRule 16 = .ok (.aload_n 0, 1) := by decide +kernel
theorem dX2_beginRule_17 : decode cX2_beginRule 17 = .ok (.getfield 11, 3) := by decide +kernel
theorem dX2_beginRule_20 : decode cX2_beginRule 20 = .ok (.aload_n 0, 1) := by decide +kernel
theorem dX2_beginRule_21 : decode cX2_beginRule 21 = .ok (.getfield 30, 3) := by decide +kernel
theorem dX2_beginRule_24 : decode cX2_beginRule 24 = .ok (.iload_n 1, 1) := by decide +kernel
theorem dX2_beginRule_25 : decode cX2_beginRule 25 = .ok (.iastore, 1) := by decide +kernel
theorem dX2_beginRule_26 : decode cX2_beginRule 26 = .ok (.aload_n 0, 1) := by decide +kernel
theorem dX2_beginRule_27 : decode cX2_beginRule 27 = .ok (.getfield 15, 3) := by decide +kernel
theorem dX2_beginRule_30 : decode cX2_beginRule 30 = .ok (.aload_n 0, 1) := by decide +kernel
theorem dX2_beginRule_31 : decode cX2_beginRule 31 = .ok (.getfield 30, 3) := by decide +kernel
theorem dX2_beginRule_34 : decode cX2_beginRule 34 = .ok (.aload_n 0, 1) := by decide +kernel
theorem dX2_beginRule_35 : decode cX2_beginRule 35 = .ok (.getfield 34, 3) := by decide +kernel
theorem dX2_beginRule_38 : decode cX2_beginRule 38 = .ok (.iastore, 1) := by decide +kernel
theorem dX2_beginRule_39 : decode cX2_beginRule 39 = .ok (.aload_n 0, 1) := by decide +kernel
theorem dX2_beginRule_40 : decode cX2_beginRule 40 = .ok (.getfield 18, 3) := by decide +kernel
theorem dX2_beginRule_43 : decode cX2_beginRule 43 = .ok (.aload_n 0, 1) := by decide +kernel
theorem dX2_beginRule_44 : decode cX2_beginRule 44 = .ok (.getfield 30, 3) := by decide +kernel
theorem dX2_beginRule_47 : decode cX2_beginRule 47 = .ok (.aload_n 0, 1) := by decide +kernel
theorem dX2_beginRule_48 : decode cX2_beginRule 48 = .ok (.getfield 34, 3) := by decide +kernel
theorem dX2_beginRule_51 : decode cX2_beginRule 51 = .ok (.iastore, 1) := by decide +kernel
theorem dX2_beginRule_52 : decode cX2_beginRule 52 = .ok (.aload_n 0, 1) := by decide +kernel
theorem dX2_beginRule_53 : decode cX2_beginRule 53 = .ok (.dup, 1) := by decide +kernel
theorem dX2_beginRule_54 : decode cX2_beginRule 54 = .ok (.getfield 30, 3) := by decide +kernel
theorem dX2_beginRule_57 : decode cX2_beginRule 57 = .ok (.iconst 1, 1) := by decide +kernel
theorem dX2_beginRule_58 : decode cX2_beginRule 58 = .ok (.iadd, 1) := by decide +kernel
theorem dX2_beginRule_59 : decode cX2_beginRule 59 = .ok (.putfield 30, 3) := by decide +kernel
theorem dX2_beginRule_62 : decode cX2_beginRule 62 = .ok (.return_, 1) := by decide +kernel
theorem dX3_readNumber_0 : decode cX3_readNumber 0 = .ok (.iconst 0, 1) := by decide +kernel
theorem dX3_readNumber_1 : decode cX3_readNumber 1 = .ok (.istore 4, 2) := by decide +kernel
theorem dX3_readNumber_3 : decode cX3_readNumber 3 = .ok (.iconst 0, 1) := by decide +kernel
theorem dX3_readNumber_4 : decode cX3_readNumber 4 = .ok (.istore 5, 2) := by decide +kernel
theorem dX3_readNumber_6 : decode cX3_readNumber 6 = .ok (.iload 5, 2) := by decide +kernel
theorem dX3_readNumber_8 : decode cX3_readNumber 8 = .ok (.sipush 240, 3) := by decide +kernel
theorem dX3_readNumber_11 : decode cX3_readNumber 11 = .ok (.if_icmp .gt 129, 3) := by decide +kernel
theorem dX3_readNumber_14 : decode cX3_readNumber 14 = .ok (.iload_n 3, 1) := by decide +kernel
theorem dX3_readNumber_15 : decode cX3_readNumber 15 = .ok (.ifCond .eq 12, 3) := by decide +kernel
theorem dX3_readNumber_18 : decode cX3_readNumber 18 = .ok (.aload_n 0, 1) := by decide +kernel
theorem dX3_readNumber_19 : decode cX3_readNumber 19 = .ok (.aload_n 1, 1) := by decide +kernel
theorem dX3_readNumber_20 : decode cX3_readNumber 20 = .ok (.iload_n 2, 1) := by decide +kernel
theorem dX3_readNumber_21 : decode cX3_readNumber 21 = .ok (.invokestatic 69, 3) := by decide +kernel
theorem dX3_readNumber_24 : decode cX3_readNumber 24 = .ok (.goto 10, 3) := by decide +kernel
theorem dX3_readNumber_27 : decode cX3_readNumber 27 = .ok (.aload_n 0, 1) := by decide +kernel
theorem dX3_readNumber_28 : decode cX3_readNumber 28 = .ok (.aload_n 1, 1) := by decide +kernel
theorem dX3_readNumber_29 : decode cX3_readNumber 29 = .ok (.iload_n 2, 1) := by decide +kernel
theorem dX3_readNumber_30 : decode cX3_readNumber 30 = .ok (.iconst 1, 1) := by decide +kernel
theorem dX3_readNumber_31 : decode cX3_readNumber 31 = .ok (.invokestatic 48, 3) := by decide +kernel
theorem dX3_readNumber_34 : decode cX3_readNumber 34 = .ok (.istore 6, 2) := by decide +kernel
theorem dX3_readNumber_36 : decode cX3_readNumber 36 = .ok (.iload 6, 2) := by decide +kernel
theorem dX3_readNumber_38 : decode cX3_readNumber 38 = .ok (.ifCond .ne 5, 3) := by decide +kernel
theorem dX3_readNumber_41 : decode cX3_readNumber 41 = .ok (.iconst 0, 1) := by decide +kernel
theorem dX3_readNumber_42 : decode cX3_readNumber 42 = .ok (.ireturn, 1) := by decide +kernel
theorem dX3_readNumber_43 : decode cX3_readNumber 43 = .ok (.iload 5, 2) := by decide +kernel
theorem dX3_readNumber_45 : decode cX3_readNumber 45 = .ok (.ifCond .le 11, 3) := by decide +kernel
theorem dX3_readNumber_48 : decode cX3_readNumber 48 = .ok (.aload_n 1, 1) := by decide +kernel
theorem dX3_readNumber_49 : decode cX3_readNumber 49 = .ok (.iload 4, 2) := by decide +kernel
theorem dX3_readNumber_51 : decode cX3_readNumber 51 = .ok (.iconst 0, 1) := by decide +kernel
theorem dX3_readNumber_52 : decode cX3_readNumber 52 = .ok (.invokevirtual 52, 3) := by decide +kernel
theorem dX3_readNumber_55 : decode cX3_readNumber 55 = .ok (.pop, 1) := by decide +kernel
theorem dX3_readNumber_56 : decode cX3_readNumber 56 = .ok (.aload_n 0, 1) := by decide +kernel
theorem dX3_readNumber_57 : decode cX3_readNumber 57 = .ok (.getfield 20, 3) := by decide +kernel
theorem dX3_readNumber_60 : decode cX3_readNumber 60 = .ok (.istore 4, 2) := by decide +kernel
theorem dX3_readNumber_62 : decode cX3_readNumber 62 = .ok (.iload 4, 2) := by decide +kernel
theorem dX3_readNumber_64 : decode cX3_readNumber 64 = .ok (.bipush 42, 2) := by decide +kernel
theorem dX3_readNumber_66 : decode cX3_readNumber 66 = .ok (.if_icmp .eq 17, 3) := by decide +kernel
theorem dX3_readNumber_69 : decode cX3_readNumber 69 = .ok (.iload 4, 2) := by decide +kernel
theorem dX3_readNumber_71 : decode cX3_readNumber 71 = .ok (.bipush 47, 2) := by decide +kernel
theorem dX3_readNumber_73 : decode cX3_readNumber 73 = .ok (.if_icmp .eq 10, 3) := by decide +kernel
theorem dX3_readNumber_76 : decode cX3_readNumber 76 = .ok (.iload 4, 2) := by decide +kernel
theorem dX3_readNumber_78 : decode cX3_readNumber 78 = .ok (.bipush 37, 2) := by decide +kernel
theorem dX3_readNumber_80 : decode cX3_readNumber 80 = .ok (.if_icmp .ne 7, 3) := by decide +kernel
theorem dX3_readNumber_83 : decode cX3_readNumber 83 = .ok (.iconst 1, 1) := by decide +kernel
theorem dX3_readNumber_84 : decode cX3_readNumber 84 = .ok (.goto 4, 3) := by decide +kernel
theorem dX3_readNumber_87 : decode cX3_readNumber 87 = .ok (.iconst 0, 1) := by decide +kernel
theorem dX3_readNumber_88 : decode cX3_readNumber 88 = .ok (.istore 7, 2) := by decide +kernel
theorem dX3_readNumber_90 : decode cX3_readNumber 90 = .ok (.iload 4, 2) := by decide +kernel
theorem dX3_readNumber_92 : decode cX3_readNumber 92 = .ok (.bipush 43, 2) := by decide +kernel
theorem dX3_readNumber_94 : decode cX3_readNumber 94 = .ok (.if_icmp .eq 10, 3) := by decide +kernel
theorem dX3_readNumber_97 : decode cX3_readNumber 97 = .ok (.iload 4, 2) := by decide +kernel
theorem dX3_readNumber_99 : decode cX3_readNumber 99 = .ok (.bipush 45, 2) := by decide +kernel
theorem dX3_readNumber_101 : decode cX3_readNumber 101 = .ok (.if_icmp .ne 7, 3) := by decide +kernel
theorem dX3_readNumber_104 : decode cX3_readNumber 104 = .ok (.iconst 1, 1) := by decide +kernel
theorem dX3_readNumber_105 : decode cX3_readNumber 105 = .ok (.goto 4, 3) := by decide +kernel
theorem dX3_readNumber_108 : decode cX3_readNumber 108 = .ok (.iconst 0, 1) := by decide +kernel
theorem dX3_readNumber_109 : decode cX3_readNumber 109 = .ok (.istore 8, 2) := by decide +kernel
theorem dX3_readNumber_111 : decode cX3_readNumber 111 = .ok (.iload_n 3, 1) := by decide +kernel
theorem dX3_readNumber_112 : decode cX3_readNumber 112 = .ok (.ifCond .eq 11, 3) := by decide +kernel
theorem dX3_readNumber_115 : decode cX3_readNumber 115 = .ok (.iload 7, 2) := by decide +kernel
theorem dX3_readNumber_117 : decode cX3_readNumber 117 = .ok (.ifCond .eq 11, 3) := by decide +kernel
theorem dX3_readNumber_120 : decode cX3_readNumber 120 = .ok (.goto 10, 3) := by decide +kernel
theorem dX3_readNumber_123 : decode cX3_readNumber 123 = .ok (.iload 8, 2) := by decide +kernel
theorem dX3_readNumber_125 : decode cX3_readNumber 125 = .ok (.ifCond .ne 5, 3) := by decide +kernel
theorem dX3_readNumber_128 : decode cX3_readNumber 128 = .ok (.iconst 1, 1) := by decide +kernel
theorem dX3_readNumber_129 : decode cX3_readNumber 129 = .ok (.ireturn, 1) := by decide +kernel
theorem dX3_readNumber_130 : decode cX3_readNumber 130 = .ok (.aload_n 0, 1) := by decide +kernel
theorem dX3_readNumber_131 : decode cX3_readNumber 131 = .ok (.invokevirtual 41, 3) := by decide +kernel
theorem dX3_readNumber_134 : decode cX3_readNumber 134 = .ok (.iinc 5 1, 3) := by decide +kernel
theorem dX3_readNumber_137 : decode cX3_readNumber 137 = .ok (.goto (-131), 3) := by decide +kernel
theorem dX3_readNumber_140 : decode cX3_readNumber 140 = .ok (.aload_n 0, 1) := by decide +kernel
theorem dX3_readNumber_141 : decode cX3_readNumber 141 = .ok (.iconst 1, 1) := by decide +kernel
theorem dX3_readNumber_142 : decode cX3_readNumber 142 = .ok (.aload_n 0, 1) := by decide +kernel
theorem dX3_readNumber_143 : decode cX3_readNumber 143 = .ok (.getfield 30, 3) := by decide +kernel
theorem dX3_readNumber_146 : decode cX3_readNumber 146 = .ok (.invokevirtual 33, 3) := by decide +kernel
theorem dX3_readNumber_149 : decode cX3_readNumber 149 = .ok (.ireturn, 1) := by decide +kernel
theorem dX3_readFactor_0 : decode cX3_readFactor 0 = .ok (.aload_n 0, 1) := by decide +kernel
theorem dX3_readFactor_1 : decode cX3_readFactor 1 = .ok (.getfield 20, 3) := by decide +kernel
theorem dX3_readFactor_4 : decode cX3_readFactor 4 = .ok (.bipush 91, 2) := by decide +kernel
theorem dX3_readFactor_6 : decode cX3_readFactor 6 = .ok (.if_icmp .ne 50, 3) := by decide +kernel
theorem dX3_readFactor_9 : decode cX3_readFactor 9 = .ok (.iload_n 2, 1) := by decide +kernel
theorem dX3_readFactor_10 : decode cX3_readFactor 10 = .ok (.bipush 6, 2) := by decide +kernel
theorem dX3_readFactor_12 : decode cX3_readFactor 12 = .ok (.if_icmp .lt 13, 3) := by decide +kernel
theorem dX3_readFactor_15 : decode cX3_readFactor 15 = .ok (.aload_n 0, 1) := by decide +kernel
theorem dX3_readFactor_16 : decode cX3_readFactor 16 = .ok (.iconst 5, 1) := by decide +kernel
theorem dX3_readFactor_17 : decode cX3_readFactor 17 = .ok (.aload_n 0, 1) := by decide +kernel
theorem dX3_readFactor_18 : decode cX3_readFactor 18 = .ok (.getfield 30, 3) := by decide +kernel
theorem dX3_readFactor_21 : decode cX3_readFactor 21 = .ok (.invokevirtual 33, 3) := by decide +kernel
theorem dX3_readFactor_24 : decode cX3_readFactor 24 = .ok (.ireturn, 1) := by decide +kernel
theorem dX3_readFactor_25 : decode cX3_readFactor 25 = .ok (.aload_n 0, 1) := by decide +kernel
theorem dX3_readFactor_26 : decode cX3_readFactor 26 = .ok (.invokevirtual 41, 3) := by decide +kernel
theorem dX3_readFactor_29 : decode cX3_readFactor 29 = .ok (.aload_n 0, 1) := by decide +kernel
theorem dX3_readFactor_30 : decode cX3_readFactor 30 = .ok (.aload_n 1, 1) := by decide +kernel
theorem dX3_readFactor_31 : decode cX3_readFactor 31 = .ok (.iload_n 2, 1) := by decide +kernel
theorem dX3_readFactor_32 : decode cX3_readFactor 32 = .ok (.iconst 1, 1) := by decide +kernel
theorem dX3_readFactor_33 : decode cX3_readFactor 33 = .ok (.iadd, 1) := by decide +kernel
theorem dX3_readFactor_34 : decode cX3_readFactor 34 = .ok (.iconst 0, 1) := by decide +kernel
theorem dX3_readFactor_35 : decode cX3_readFactor 35 = .ok (.invokestatic 48, 3) := by decide +kernel
theorem dX3_readFactor_38 : decode cX3_readFactor 38 = .ok (.ifCond .eq 16, 3) := by decide +kernel
theorem dX3_readFactor_41 : decode cX3_readFactor 41 = .ok (.aload_n 0, 1) := by decide +kernel
theorem dX3_readFactor_42 : decode cX3_readFactor 42 = .ok (.bipush 93, 2) := by decide +kernel
theorem dX3_readFactor_44 : decode cX3_readFactor 44 = .ok (.invokevirtual 26, 3) := by decide +kernel
theorem dX3_readFactor_47 : decode cX3_readFactor 47 = .ok (.ifCond .eq 7, 3) := by decide +kernel
theorem dX3_readFactor_50 : decode cX3_readFactor 50 = .ok (.iconst 1, 1) := by decide +kernel
theorem dX3_readFactor_51 : decode cX3_readFactor 51 = .ok (.goto 4, 3) := by decide +kernel
theorem dX3_readFactor_54 : decode cX3_readFactor 54 = .ok (.iconst 0, 1) := by decide +kernel
theorem dX3_readFactor_55 : decode cX3_readFactor 55 = .ok (.ireturn, 1) := by decide +kernel
theorem dX3_readFactor_56 : decode cX3_readFactor 56 = .ok (.aload_n 0, 1) := by decide +kernel
theorem dX3_readFactor_57 : decode cX3_readFactor 57 = .ok (.invokevirtual 72, 3) := by decide +kernel
theorem dX3_readFactor_60 : decode cX3_readFactor 60 = .ok (.ifCond .ne 53, 3) := by decide +kernel
theorem dX3_readFactor_63 : decode cX3_readFactor 63 = .ok (.aload_n 0, 1) := by decide +kernel
theorem dX3_readFactor_64 : decode cX3_readFactor 64 = .ok (.getfield 20, 3) := by decide +kernel
theorem dX3_readFactor_67 : decode cX3_readFactor 67 = .ok (.iconst (-1), 1) := by decide +kernel
theorem dX3_readFactor_68 : decode cX3_readFactor 68 = .ok (.if_icmp .ne 7, 3) := by decide +kernel
theorem dX3_readFactor_71 : decode cX3_readFactor 71 = .ok (.iconst (-1), 1) := by decide +kernel
theorem dX3_readFactor_72 : decode cX3_readFactor 72 = .ok (.goto 13, 3) := by decide +kernel
theorem dX3_readFactor_75 : decode cX3_readFactor 75 = .ok (.ldc 75, 2) := by decide +kernel
theorem dX3_readFactor_77 : decode cX3_readFactor 77 = .ok (.aload_n 0, 1) := by decide +kernel
theorem dX3_readFactor_78 : decode cX3_readFactor 78 = .ok (.getfield 20, 3) := by decide +kernel
theorem dX3_readFactor_81 : decode cX3_readFactor 81 = .ok (.i2c, 1) := by decide +kernel
theorem dX3_readFactor_82 : decode cX3_readFactor 82 = .ok (.invokevirtual 77, 3) := by decide +kernel
theorem dX3_readFactor_85 : decode cX3_readFactor 85 = .ok (.istore_n 3, 1) := by decide +kernel
theorem dX3_readFactor_86 : decode cX3_readFactor 86 = .ok (.iload_n 3, 1) := by decide +kernel
theorem dX3_readFactor_87 : decode cX3_readFactor 87 = .ok (.ifCond .ge 13, 3) := by decide +kernel
theorem dX3_readFactor_90 : decode cX3_readFactor 90 = .ok (.aload_n 0, 1) := by decide +kernel
theorem dX3_readFactor_91 : decode cX3_readFactor 91 = .ok (.iconst 1, 1) := by decide +kernel
theorem dX3_readFactor_92 : decode cX3_readFactor 92 = .ok (.aload_n 0, 1) := by decide +kernel
theorem dX3_readFactor_93 : decode cX3_readFactor 93 = .ok (.getfield 30, 3) := by decide +kernel
theorem dX3_readFactor_96 : decode cX3_readFactor 96 = .ok (.invokevirtual 33, 3) := by decide +kernel
theorem dX3_readFactor_99 : decode cX3_readFactor 99 = .ok (.ireturn, 1) := by decide +kernel
theorem dX3_readFactor_100 : decode cX3_readFactor 100 = .ok (.aload_n 0, 1) := by decide +kernel
theorem dX3_readFactor_101 : decode cX3_readFactor 101 = .ok (.invokevirtual 41, 3) := by decide +kernel
theorem dX3_readFactor_104 : decode cX3_readFactor 104 = .ok (.aload_n 1, 1) := by decide +kernel
theorem dX3_readFactor_105 : decode cX3_readFactor 105 = .ok (.iconst 2, 1) := by decide +kernel
theorem dX3_readFactor_106 : decode cX3_readFactor 106 = .ok (.iload_n 3, 1) := by decide +kernel
theorem dX3_readFactor_107 : decode cX3_readFactor 107 = .ok (.invokevirtual 52, 3) := by decide +kernel
theorem dX3_readFactor_110 : decode cX3_readFactor 110 = .ok (.pop, 1) := by decide +kernel
theorem dX3_readFactor_111 : decode cX3_readFactor 111 = .ok (.iconst 1, 1) := by decide +kernel
theorem dX3_readFactor_112 : decode cX3_readFactor 112 = .ok (.ireturn, 1) := by decide +kernel
theorem dX3_readFactor_113 : decode cX3_readFactor 113 = .ok (.iconst 0, 1) := by decide +kernel
theorem dX3_readFactor_114 : decode cX3_readFactor 114 = .ok (.istore_n 3, 1) := by decide +kernel
theorem dX3_readFactor_115 : decode cX3_readFactor 115 = .ok (.iconst 0, 1) := by decide +kernel
theorem dX3_readFactor_116 : decode cX3_readFactor 116 = .ok (.istore 4, 2) := by decide +kernel
theorem dX3_readFactor_118 : decode cX3_readFactor 118 = .ok (.iload 4, 2) := by decide +kernel
theorem dX3_readFactor_120 : decode cX3_readFactor 120 = .ok (.iconst 5, 1) := by decide +kernel
theorem dX3_readFactor_121 : decode cX3_readFactor 121 = .ok (.if_icmp .ge 33, 3) := by decide +kernel
theorem dX3_readFactor_124 : decode cX3_readFactor 124 = .ok (.aload_n 0, 1) := by decide +kernel
theorem dX3_readFactor_125 : decode cX3_readFactor 125 = .ok (.invokevirtual 72, 3) := by decide +kernel
theorem dX3_readFactor_128 : decode cX3_readFactor 128 = .ok (.ifCond .eq 26, 3) := by decide +kernel
theorem dX3_readFactor_131 : decode cX3_readFactor 131 = .ok (.iload_n 3, 1) := by decide +kernel
theorem dX3_readFactor_132 : decode cX3_readFactor 132 = .ok (.bipush 10, 2) := by decide +kernel
theorem dX3_readFactor_134 : decode cX3_readFactor 134 = .ok (.imul, 1) := by decide +kernel
theorem dX3_readFactor_135 : decode cX3_readFactor 135 = .ok (.aload_n 0, 1) := by decide +kernel
theorem dX3_readFactor_136 : decode cX3_readFactor 136 = .ok (.getfield 20, 3) := by decide +kernel
theorem dX3_readFactor_139 : decode cX3_readFactor 139 = .ok (.iadd, 1) := by decide +kernel
theorem dX3_readFactor_140 : decode cX3_readFactor 140 = .ok (.bipush 48, 2) := by decide +kernel
theorem dX3_readFactor_142 : decode cX3_readFactor 142 = .ok (.isub, 1) := by decide +kernel
theorem dX3_readFactor_143 : decode cX3_readFactor 143 = .ok (.istore_n 3, 1) := by decide +kernel
theorem dX3_readFactor_144 : decode cX3_readFactor 144 = .ok (.aload_n 0, 1) := by decide +kernel
theorem dX3_readFactor_145 : decode cX3_readFactor 145 = .ok (.invokevirtual 41, 3) := by decide +kernel
theorem dX3_readFactor_148 : decode cX3_readFactor 148 = .ok (.iinc 4 1, 3) := by decide +kernel
theorem dX3_readFactor_151 : decode cX3_readFactor 151 = .ok (.goto (-33), 3) := by decide +kernel
theorem dX3_readFactor_154 : decode cX3_readFactor 154 = .ok (.aload_n 1, 1) := by decide +kernel
theorem dX3_readFactor_155 : decode cX3_readFactor 155 = .ok (.iconst 1, 1) := by decide +kernel
theorem dX3_readFactor_156 : decode cX3_readFactor 156 = .ok (.iload_n 3, 1) := by decide +kernel
theorem dX3_readFactor_157 : decode cX3_readFactor 157 = .ok (.invokevirtual 52, 3) := by decide +kernel
theorem dX3_readFactor_160 : decode cX3_readFactor 160 = .ok (.pop, 1) := by decide +kernel
theorem dX3_readFactor_161 : decode cX3_readFactor 161 = .ok (.aload_n 0, 1) := by decide +kernel
theorem dX3_readFactor_162 : decode cX3_readFactor 162 = .ok (.invokevirtual 72, 3) := by decide +kernel
theorem dX3_readFactor_165 : decode cX3_readFactor 165 = .ok (.ifCond .eq 15, 3) := by decide +kernel
theorem dX3_readFactor_168 : decode cX3_readFactor 168 = .ok (.aload_n 0, 1) := by decide +kernel
theorem dX3_readFactor_169 : decode cX3_readFactor 169 = .ok (.iconst 2, 1) := by decide +kernel
theorem dX3_readFactor_170 : decode cX3_readFactor 170 = .ok (.aload_n 0, 1) := by decide +kernel
theorem dX3_readFactor_171 : decode cX3_readFactor 171 = .ok (.getfield 30, 3) := by decide +kernel
theorem dX3_readFactor_174 : decode cX3_readFactor 174 = .ok (.invokevirtual 33, 3) := by decide +kernel
theorem dX3_readFactor_177 : decode cX3_readFactor 177 = .ok (.ifCond .eq 7, 3) := by decide +kernel
theorem dX3_readFactor_180 : decode cX3_readFactor 180 = .ok (.iconst 1, 1) := by decide +kernel
theorem dX3_readFactor_181 : decode cX3_readFactor 181 = .ok (.goto 4, 3) := by decide +kernel
theorem dX3_readFactor_184 : decode cX3_readFactor 184 = .ok (.iconst 0, 1) := by decide +kernel
theorem dX3_readFactor_185 : decode cX3_readFactor 185 = .ok (.ireturn, 1) := by decide +kernel
theorem dX7_take_0 : decode cX7_take 0 = .ok (.aload_n 0, 1) := by decide +kernel
theorem dX7_take_1 : decode cX7_take 1 = .ok (.getfield 35, 3) := by decide +kernel
theorem dX7_take_4 : decode cX7_take 4 = .ok (.iload_n 1, 1) := by decide +kernel
theorem dX7_take_5 : decode cX7_take 5 = .ok (.if_icmp .eq 13, 3) := by decide +kernel
theorem dX7_take_8 : decode cX7_take 8 = .ok (.aload_n 0, 1) := by decide +kernel
theorem dX7_take_9 : decode cX7_take 9 = .ok (.iconst 1, 1) := by decide +kernel
theorem dX7_take_10 : decode cX7_take 10 = .ok (.aload_n 0, 1) := by decide +kernel
theorem dX7_take_11 : decode cX7_take 11 = .ok (.getfield 23, 3) := by decide +kernel
theorem dX7_take_14 : decode cX7_take 14 = .ok (.invokevirtual 41, 3) := by decide +kernel
theorem dX7_take_17 : decode cX7_take 17 = .ok (.ireturn, 1) := by decide +kernel
theorem dX7_take_18 : decode cX7_take 18 = .ok (.aload_n 0, 1) := by decide +kernel
theorem dX7_take_19 : decode cX7_take 19 = .ok (.invokevirtual 45, 3) := by decide +kernel
theorem dX7_take_22 : decode cX7_take 22 = .ok (.iconst 1, 1) := by decide +kernel
theorem dX7_take_23 : decode cX7_take 23 = .ok (.ireturn, 1) := by decide +kernel
theorem dX7_isDigit_0 : decode cX7_isDigit 0 = .ok (.aload_n 0, 1) := by decide +kernel
theorem dX7_isDigit_1 : decode cX7_isDigit 1 = .ok (.getfield 35, 3) := by decide +kernel
theorem dX7_isDigit_4 : decode cX7_isDigit 4 = .ok (.bipush 48, 2) := by decide +kernel
theorem dX7_isDigit_6 : decode cX7_isDigit 6 = .ok (.if_icmp .lt 16, 3) := by decide +kernel
theorem dX7_isDigit_9 : decode cX7_isDigit 9 = .ok (.aload_n 0, 1) := by decide +kernel
theorem dX7_isDigit_10 : decode cX7_isDigit 10 = .ok (.getfield 35, 3) := by decide +kernel
theorem dX7_isDigit_13 : decode cX7_isDigit 13 = .ok (.bipush 57, 2) := by decide +kernel
theorem dX7_isDigit_15 : decode cX7_isDigit 15 = .ok (.if_icmp .gt 7, 3) := by decide +kernel
theorem dX7_isDigit_18 : decode cX7_isDigit 18 = .ok (.iconst 1, 1) := by decide +kernel
theorem dX7_isDigit_19 : decode cX7_isDigit 19 = .ok (.goto 4, 3) := by decide +kernel
theorem dX7_isDigit_22 : decode cX7_isDigit 22 = .ok (.iconst 0, 1) := by decide +kernel
theorem dX7_isDigit_23 : decode cX7_isDigit 23 = .ok (.ireturn, 1) := by decide +kernel
theorem dX2_add_0 : decode cX2_add 0 = .ok (.aload_n 0, 1) := by decide +kernel
theorem dX2_add_1 : decode cX2_add 1 = .ok (.getfield 34, 3) := by decide +kernel
theorem dX2_add_4 : decode cX2_add 4 = .ok (.ifCond .lt 43, 3) := by decide +kernel
theorem dX2_add_7 : decode cX2_add 7 = .ok (.aload_n 0, 1) := by decide +kernel
theorem dX2_add_8 : decode cX2_add 8 = .ok (.getfield 34, 3) := by decide +kernel
theorem dX2_add_11 : decode cX2_add 11 = .ok (.sipush 256, 3) := by decide +kernel
theorem dX2_add_14 : decode cX2_add 14 = .ok (.if_icmp .ge 33, 3) := by decide +kernel
theorem dX2_add_17 : decode cX2_add 17 = .ok (.aload_n 0, 1) := by decide +kernel
theorem dX2_add_18 : decode cX2_add 18 = .ok (.getfield 21, 3) := by decide +kernel
theorem dX2_add_21 : decode cX2_add 21 = .ok (.aload_n 0, 1) := by decide +kernel
theorem dX2_add_22 : decode cX2_add 22 = .ok (.getfield 34, 3) := by decide +kernel
theorem dX2_add_25 : decode cX2_add 25 = .ok (.iload_n 1, 1) := by decide +kernel
theorem dX2_add_26 : decode cX2_add 26 = .ok (.iastore, 1) := by decide +kernel
theorem dX2_add_27 : decode cX2_add 27 = .ok (.aload_n 0, 1) := by decide +kernel
theorem dX2_add_28 : decode cX2_add 28 = .ok (.getfield 24, 3) := by decide +kernel
theorem dX2_add_31 : decode cX2_add 31 = .ok (.aload_n 0, 1) := by decide +kernel
theorem dX2_add_32 : decode cX2_add 32 = .ok (.getfield 34, 3) := by decide +kernel
theorem dX2_add_35 : decode cX2_add 35 = .ok (.iload_n 2, 1) := by decide +kernel
theorem dX2_add_36 : decode cX2_add 36 = .ok (.iastore, 1) := by decide +kernel
theorem dX2_add_37 : decode cX2_add 37 = .ok (.aload_n 0, 1) := by decide +kernel
theorem dX2_add_38 : decode cX2_add 38 = .ok (.dup, 1) := by decide +kernel
theorem dX2_add_39 : decode cX2_add 39 = .ok (.getfield 34, 3) := by decide +kernel
theorem dX2_add_42 : decode cX2_add 42 = .ok (.iconst 1, 1) := by decide +kernel
theorem dX2_add_43 : decode cX2_add 43 = .ok (.iadd, 1) := by decide +kernel
theorem dX2_add_44 : decode cX2_add 44 = .ok (.putfield 34, 3) := by decide +kernel
theorem dX2_add_47 : decode cX2_add 47 = .ok (.aload_n 0, 1) := by decide +kernel
theorem dX2_add_48 : decode cX2_add 48 = .ok (.getfield 34, 3) := by decide +kernel
theorem dX2_add_51 : decode cX2_add 51 = .ok (.iconst 1, 1) := by decide +kernel
theorem dX2_add_52 : decode cX2_add 52 = .ok (.isub, 1) := by decide +kernel
theorem dX2_add_53 : decode cX2_add 53 = .ok (.ireturn, 1) := by decide +kernel
theorem dX2_beginTest_0 : decode cX2_beginTest 0 = .ok (.aload_n 0, 1) := by decide +kernel
theorem dX2_beginTest_1 : decode cX2_beginTest 1 = .ok (.getfield 30, 3) := by decide +kernel
theorem dX2_beginTest_4 : decode cX2_beginTest 4 = .ok (.ifCond .le 27, 3) := by decide +kernel
theorem dX2_beginTest_7 : decode cX2_beginTest 7 = .ok (.aload_n 0, 1) := by decide +kernel
theorem dX2_beginTest_8 : decode cX2_beginTest 8 = .ok (.getfield 30, 3) := by decide +kernel
theorem dX2_beginTest_11 : decode cX2_beginTest 11 = .ok (.bipush 16, 2) := by decide +kernel
theorem dX2_beginTest_13 : decode cX2_beginTest 13 = .ok (.if_icmp .gt 18, 3) := by decide +kernel
theorem dX2_beginTest_16 : decode cX2_beginTest 16 = .ok (.aload_n 0, 1) := by decide +kernel
theorem dX2_beginTest_17 : decode cX2_beginTest 17 = .ok (.getfield 18, 3) := by decide +kernel
theorem dX2_beginTest_20 : decode cX2_beginTest 20 = .ok (.aload_n 0, 1) := by decide +kernel
theorem dX2_beginTest_21 : decode cX2_beginTest 21 = .ok (.getfield 30, 3) := by decide +kernel
theorem dX2_beginTest_24 : decode cX2_beginTest 24 = .ok (.iconst 1, 1) := by decide +kernel
theorem dX2_beginTest_25 : decode cX2_beginTest 25 = .ok (.isub, 1) := by decide +kernel
theorem dX2_beginTest_26 : decode cX2_beginTest 26 = .ok (.aload_n 0, 1) := by decide +kernel
theorem dX2_beginTest_27 : decode cX2_beginTest 27 = .ok (.getfield 34, 3) := by decide +kernel
theorem dX2_beginTest_30 : decode cX2_beginTest 30 = .ok (.iastore, 1) := by decide +kernel
theorem dX2_beginTest_31 : decode cX2_beginTest 31 = .ok (.return_, 1) := by decide +kernel
theorem dX3_readCondition_0 : decode cX3_readCondition 0 = .ok (.iload_n 3, 1) := by decide +kernel
theorem dX3_readCondition_1 : decode cX3_readCondition 1 = .ok (.ifCond .eq 8, 3) := by decide +kernel
theorem dX3_readCondition_4 : decode cX3_readCondition 4 = .ok (.bipush 38, 2) := by decide +kernel
theorem dX3_readCondition_6 : decode cX3_readCondition 6 = .ok (.goto 5, 3) := by decide +kernel
theorem dX3_readCondition_9 : decode cX3_readCondition 9 = .ok (.bipush 124, 2) := by decide +kernel
theorem dX3_readCondition_11 : decode cX3_readCondition 11 = .ok (.istore 4, 2) := by decide +kernel
theorem dX3_readCondition_13 : decode cX3_readCondition 13 = .ok (.iload_n 3, 1) := by decide +kernel
theorem dX3_readCondition_14 : decode cX3_readCondition 14 = .ok (.ifCond .eq 7, 3) := by decide +kernel
theorem dX3_readCondition_17 : decode cX3_readCondition 17 = .ok (.iconst 5, 1) := by decide +kernel
theorem dX3_readCondition_18 : decode cX3_readCondition 18 = .ok (.goto 4, 3) := by decide +kernel
theorem dX3_readCondition_21 : decode cX3_readCondition 21 = .ok (.iconst 4, 1) := by decide +kernel
theorem dX3_readCondition_22 : decode cX3_readCondition 22 = .ok (.istore 5, 2) := by decide +kernel
theorem dX3_readCondition_24 : decode cX3_readCondition 24 = .ok (.iconst (-1), 1) := by decide +kernel
theorem dX3_readCondition_25 : decode cX3_readCondition 25 = .ok (.istore 6, 2) := by decide +kernel
theorem dX3_readCondition_27 : decode cX3_readCondition 27 = .ok (.iconst 0, 1) := by decide +kernel
theorem dX3_readCondition_28 : decode cX3_readCondition 28 = .ok (.istore 7, 2) := by decide +kernel
theorem dX3_readCondition_30 : decode cX3_readCondition 30 = .ok (.iload 7, 2) := by decide +kernel
theorem dX3_readCondition_32 : decode cX3_readCondition 32 = .ok (.sipush 240, 3) := by decide +kernel
theorem dX3_readCondition_35 : decode cX3_readCondition 35 = .ok (.if_icmp .gt 69, 3) := by decide +kernel
theorem dX3_readCondition_38 : decode cX3_readCondition 38 = .ok (.iload_n 3, 1) := by decide +kernel
theorem dX3_readCondition_39 : decode cX3_readCondition 39 = .ok (.ifCond .eq 12, 3) := by decide +kernel
theorem dX3_readCondition_42 : decode cX3_readCondition 42 = .ok (.aload_n 0, 1) := by decide +kernel
theorem dX3_readCondition_43 : decode cX3_readCondition 43 = .ok (.aload_n 1, 1) := by decide +kernel
theorem dX3_readCondition_44 : decode cX3_readCondition 44 = .ok (.iload_n 2, 1) := by decide +kernel
theorem dX3_readCondition_45 : decode cX3_readCondition 45 = .ok (.invokestatic 62, 3) := by decide +kernel
theorem dX3_readCondition_48 : decode cX3_readCondition 48 = .ok (.goto 10, 3) := by decide +kernel
theorem dX3_readCondition_51 : decode cX3_readCondition 51 = .ok (.aload_n 0, 1) := by decide +kernel
theorem dX3_readCondition_52 : decode cX3_readCondition 52 = .ok (.aload_n 1, 1) := by decide +kernel
theorem dX3_readCondition_53 : decode cX3_readCondition 53 = .ok (.iload_n 2, 1) := by decide +kernel
theorem dX3_readCondition_54 : decode cX3_readCondition 54 = .ok (.iconst 1, 1) := by decide +kernel
theorem dX3_readCondition_55 : decode cX3_readCondition 55 = .ok (.invokestatic 59, 3) := by decide +kernel
theorem dX3_readCondition_58 : decode cX3_readCondition 58 = .ok (.istore 8, 2) := by decide +kernel
theorem dX3_readCondition_60 : decode cX3_readCondition 60 = .ok (.iload 8, 2) := by decide +kernel
theorem dX3_readCondition_62 : decode cX3_readCondition 62 = .ok (.ifCond .ne 5, 3) := by decide +kernel
theorem dX3_readCondition_65 : decode cX3_readCondition 65 = .ok (.iconst 0, 1) := by decide +kernel
theorem dX3_readCondition_66 : decode cX3_readCondition 66 = .ok (.ireturn, 1) := by decide +kernel
theorem dX3_readCondition_67 : decode cX3_readCondition 67 = .ok (.aload_n 0, 1) := by decide +kernel
theorem dX3_readCondition_68 : decode cX3_readCondition 68 = .ok (.getfield 20, 3) := by decide +kernel
theorem dX3_readCondition_71 : decode cX3_readCondition 71 = .ok (.iload 4, 2) := by decide +kernel
theorem dX3_readCondition_73 : decode cX3_readCondition 73 = .ok (.if_icmp .eq 11, 3) := by decide +kernel
theorem dX3_readCondition_76 : decode cX3_readCondition 76 = .ok (.aload_n 1, 1) := by decide +kernel
theorem dX3_readCondition_77 : decode cX3_readCondition 77 = .ok (.iload 6, 2) := by decide +kernel
theorem dX3_readCondition_79 : decode cX3_readCondition 79 = .ok (.invokevirtual 66, 3) := by decide +kernel
theorem dX3_readCondition_82 : decode cX3_readCondition 82 = .ok (.iconst 1, 1) := by decide +kernel
theorem dX3_readCondition_83 : decode cX3_readCondition 83 = .ok (.ireturn, 1) := by decide +kernel
theorem dX3_readCondition_84 : decode cX3_readCondition 84 = .ok (.aload_n 0, 1) := by decide +kernel
theorem dX3_readCondition_85 : decode cX3_readCondition 85 = .ok (.invokevirtual 41, 3) := by decide +kernel
theorem dX3_readCondition_88 : decode cX3_readCondition 88 = .ok (.aload_n 1, 1) := by decide +kernel
theorem dX3_readCondition_89 : decode cX3_readCondition 89 = .ok (.iload 5, 2) := by decide +kernel
theorem dX3_readCondition_91 : decode cX3_readCondition 91 = .ok (.iload 6, 2) := by decide +kernel
theorem dX3_readCondition_93 : decode cX3_readCondition 93 = .ok (.invokevirtual 52, 3) := by decide +kernel
theorem dX3_readCondition_96 : decode cX3_readCondition 96 = .ok (.istore 6, 2) := by decide +kernel
theorem dX3_readCondition_98 : decode cX3_readCondition 98 = .ok (.iinc 7 1, 3) := by decide +kernel
theorem dX3_readCondition_101 : decode cX3_readCondition 101 = .ok (.goto (-71), 3) := by decide +kernel
theorem dX3_readCondition_104 : decode cX3_readCondition 104 = .ok (.aload_n 0, 1) := by decide +kernel
theorem dX3_readCondition_105 : decode cX3_readCondition 105 = .ok (.iconst 1, 1) := by decide +kernel
theorem dX3_readCondition_106 : decode cX3_readCondition 106 = .ok (.aload_n 0, 1) := by decide +kernel
theorem dX3_readCondition_107 : decode cX3_readCondition 107 = .ok (.getfield 30, 3) := by decide +kernel
theorem dX3_readCondition_110 : decode cX3_readCondition 110 = .ok (.invokevirtual 33, 3) := by decide +kernel
theorem dX3_readCondition_113 : decode cX3_readCondition 113 = .ok (.ireturn, 1) := by decide +kernel
theorem dX3_readTest_0 : decode cX3_readTest 0 = .ok (.aload_n 0, 1) := by decide +kernel
theorem dX3_readTest_1 : decode cX3_readTest 1 = .ok (.getfield 20, 3) := by decide +kernel
theorem dX3_readTest_4 : decode cX3_readTest 4 = .ok (.istore_n 3, 1) := by decide +kernel
theorem dX3_readTest_5 : decode cX3_readTest 5 = .ok (.iload_n 3, 1) := by decide +kernel
theorem dX3_readTest_6 : decode cX3_readTest 6 = .ok (.bipush 33, 2) := by decide +kernel
theorem dX3_readTest_8 : decode cX3_readTest 8 = .ok (.if_icmp .eq 9, 3) := by decide +kernel
theorem dX3_readTest_11 : decode cX3_readTest 11 = .ok (.iload_n 3, 1) := by decide +kernel
theorem dX3_readTest_12 : decode cX3_readTest 12 = .ok (.bipush 40, 2) := by decide +kernel
theorem dX3_readTest_14 : decode cX3_readTest 14 = .ok (.if_icmp .ne 78, 3) := by decide +kernel
theorem dX3_readTest_17 : decode cX3_readTest 17 = .ok (.iload_n 2, 1) := by decide +kernel
theorem dX3_readTest_18 : decode cX3_readTest 18 = .ok (.bipush 6, 2) := by decide +kernel
theorem dX3_readTest_20 : decode cX3_readTest 20 = .ok (.if_icmp .lt 13, 3) := by decide +kernel
theorem dX3_readTest_23 : decode cX3_readTest 23 = .ok (.aload_n 0, 1) := by decide +kernel
theorem dX3_readTest_24 : decode cX3_readTest 24 = .ok (.iconst 5, 1) := by decide +kernel
theorem dX3_readTest_25 : decode cX3_readTest 25 = .ok (.aload_n 0, 1) := by decide +kernel
theorem dX3_readTest_26 : decode cX3_readTest 26 = .ok (.getfield 30, 3) := by decide +kernel
theorem dX3_readTest_29 : decode cX3_readTest 29 = .ok (.invokevirtual 33, 3) := by decide +kernel
theorem dX3_readTest_32 : decode cX3_readTest 32 = .ok (.ireturn, 1) := by decide +kernel
theorem dX3_readTest_33 : decode cX3_readTest 33 = .ok (.aload_n 0, 1) := by decide +kernel
theorem dX3_readTest_34 : decode cX3_readTest 34 = .ok (.invokevirtual 41, 3) := by decide +kernel
theorem dX3_readTest_37 : decode cX3_readTest 37 = .ok (.iload_n 3, 1) := by decide +kernel
theorem dX3_readTest_38 : decode cX3_readTest 38 = .ok (.bipush 40, 2) := by decide +kernel
theorem dX3_readTest_40 : decode cX3_readTest 40 = .ok (.if_icmp .ne 30, 3) := by decide +kernel
theorem dX3_readTest_43 : decode cX3_readTest 43 = .ok (.aload_n 0, 1) := by decide +kernel
theorem dX3_readTest_44 : decode cX3_readTest 44 = .ok (.aload_n 1, 1) := by decide +kernel
theorem dX3_readTest_45 : decode cX3_readTest 45 = .ok (.iload_n 2, 1) := by decide +kernel
theorem dX3_readTest_46 : decode cX3_readTest 46 = .ok (.iconst 1, 1) := by decide +kernel
theorem dX3_readTest_47 : decode cX3_readTest 47 = .ok (.iadd, 1) := by decide +kernel
theorem dX3_readTest_48 : decode cX3_readTest 48 = .ok (.iconst 0, 1) := by decide +kernel
theorem dX3_readTest_49 : decode cX3_readTest 49 = .ok (.invokestatic 59, 3) := by decide +kernel
theorem dX3_readTest_52 : decode cX3_readTest 52 = .ok (.ifCond .eq 16, 3) := by decide +kernel
theorem dX3_readTest_55 : decode cX3_readTest 55 = .ok (.aload_n 0, 1) := by decide +kernel
theorem dX3_readTest_56 : decode cX3_readTest 56 = .ok (.bipush 41, 2) := by decide +kernel
theorem dX3_readTest_58 : decode cX3_readTest 58 = .ok (.invokevirtual 26, 3) := by decide +kernel
theorem dX3_readTest_61 : decode cX3_readTest 61 = .ok (.ifCond .eq 7, 3) := by decide +kernel
theorem dX3_readTest_64 : decode cX3_readTest 64 = .ok (.iconst 1, 1) := by decide +kernel
theorem dX3_readTest_65 : decode cX3_readTest 65 = .ok (.goto 4, 3) := by decide +kernel
theorem dX3_readTest_68 : decode cX3_readTest 68 = .ok (.iconst 0, 1) := by decide +kernel
theorem dX3_readTest_69 : decode cX3_readTest 69 = .ok (.ireturn, 1) := by decide +kernel
theorem dX3_readTest_70 : decode cX3_readTest 70 = .ok (.aload_n 0, 1) := by decide +kernel
theorem dX3_readTest_71 : decode cX3_readTest 71 = .ok (.aload_n 1, 1) := by decide +kernel
theorem dX3_readTest_72 : decode cX3_readTest 72 = .ok (.iload_n 2, 1) := by decide +kernel
theorem dX3_readTest_73 : decode cX3_readTest 73 = .ok (.iconst 1, 1) := by decide +kernel
theorem dX3_readTest_74 : decode cX3_readTest 74 = .ok (.iadd, 1) := by decide +kernel
theorem dX3_readTest_75 : decode cX3_readTest 75 = .ok (.invokestatic 62, 3) := by decide +kernel
theorem dX3_readTest_78 : decode cX3_readTest 78 = .ok (.ifCond .ne 5, 3) := by decide +kernel
theorem dX3_readTest_81 : decode cX3_readTest 81 = .ok (.iconst 0, 1) := by decide +kernel
theorem dX3_readTest_82 : decode cX3_readTest 82 = .ok (.ireturn, 1) := by decide +kernel
theorem dX3_readTest_83 : decode cX3_readTest 83 = .ok (.aload_n 1, 1) := by decide +kernel
theorem dX3_readTest_84 : decode cX3_readTest 84 = .ok (.iconst 3, 1) := by decide +kernel
theorem dX3_readTest_85 : decode cX3_readTest 85 = .ok (.iconst 0, 1) := by decide +kernel
theorem dX3_readTest_86 : decode cX3_readTest 86 = .ok (.invokevirtual 52, 3) := by decide +kernel
theorem dX3_readTest_89 : decode cX3_readTest 89 = .ok (.pop, 1) := by decide +kernel
theorem dX3_readTest_90 : decode cX3_readTest 90 = .ok (.iconst 1, 1) := by decide +kernel
theorem dX3_readTest_91 : decode cX3_readTest 91 = .ok (.ireturn, 1) := by decide +kernel
theorem dX3_readTest_92 : decode cX3_readTest 92 = .ok (.aload_n 0, 1) := by decide +kernel
theorem dX3_readTest_93 : decode cX3_readTest 93 = .ok (.aload_n 1, 1) := by decide +kernel
theorem dX3_readTest_94 : decode cX3_readTest 94 = .ok (.iload_n 2, 1) := by decide +kernel
theorem dX3_readTest_95 : decode cX3_readTest 95 = .ok (.iconst 0, 1) := by decide +kernel
theorem dX3_readTest_96 : decode cX3_readTest 96 = .ok (.invokestatic 48, 3) := by decide +kernel
theorem dX3_readTest_99 : decode cX3_readTest 99 = .ok (.ifCond .ne 5, 3) := by decide +kernel
theorem dX3_readTest_102 : decode cX3_readTest 102 = .ok (.iconst 0, 1) := by decide +kernel
theorem dX3_readTest_103 : decode cX3_readTest 103 = .ok (.ireturn, 1) := by decide +kernel
theorem dX3_readTest_104 : decode cX3_readTest 104 = .ok (.aload_n 0, 1) := by decide +kernel
theorem dX3_readTest_105 : decode cX3_readTest 105 = .ok (.getfield 20, 3) := by decide +kernel
theorem dX3_readTest_108 : decode cX3_readTest 108 = .ok (.istore 4, 2) := by decide +kernel
theorem dX3_readTest_110 : decode cX3_readTest 110 = .ok (.iload 4, 2) := by decide +kernel
theorem dX3_readTest_112 : decode cX3_readTest 112 = .ok (.bipush 60, 2) := by decide +kernel
theorem dX3_readTest_114 : decode cX3_readTest 114 = .ok (.if_icmp .eq 27, 3) := by decide +kernel
theorem dX3_readTest_117 : decode cX3_readTest 117 = .ok (.iload 4, 2) := by decide +kernel
theorem dX3_readTest_119 : decode cX3_readTest 119 = .ok (.bipush 62, 2) := by decide +kernel
theorem dX3_readTest_121 : decode cX3_readTest 121 = .ok (.if_icmp .eq 20, 3) := by decide +kernel
theorem dX3_readTest_124 : decode cX3_readTest 124 = .ok (.iload 4, 2) := by decide +kernel
theorem dX3_readTest_126 : decode cX3_readTest 126 = .ok (.bipush 61, 2) := by decide +kernel
theorem dX3_readTest_128 : decode cX3_readTest 128 = .ok (.if_icmp .eq 13, 3) := by decide +kernel
theorem dX3_readTest_131 : decode cX3_readTest 131 = .ok (.aload_n 0, 1) := by decide +kernel
theorem dX3_readTest_132 : decode cX3_readTest 132 = .ok (.iconst 1, 1) := by decide +kernel
theorem dX3_readTest_133 : decode cX3_readTest 133 = .ok (.aload_n 0, 1) := by decide +kernel
theorem dX3_readTest_134 : decode cX3_readTest 134 = .ok (.getfield 30, 3) := by decide +kernel
theorem dX3_readTest_137 : decode cX3_readTest 137 = .ok (.invokevirtual 33, 3) := by decide +kernel
theorem dX3_readTest_140 : decode cX3_readTest 140 = .ok (.ireturn, 1) := by decide +kernel
theorem dX3_readTest_141 : decode cX3_readTest 141 = .ok (.aload_n 0, 1) := by decide +kernel
theorem dX3_readTest_142 : decode cX3_readTest 142 = .ok (.invokevirtual 41, 3) := by decide +kernel
theorem dX3_readTest_145 : decode cX3_readTest 145 = .ok (.aload_n 0, 1) := by decide +kernel
theorem dX3_readTest_146 : decode cX3_readTest 146 = .ok (.aload_n 1, 1) := by decide +kernel
theorem dX3_readTest_147 : decode cX3_readTest 147 = .ok (.iload_n 2, 1) := by decide +kernel
theorem dX3_readTest_148 : decode cX3_readTest 148 = .ok (.iconst 0, 1) := by decide +kernel
theorem dX3_readTest_149 : decode cX3_readTest 149 = .ok (.invokestatic 48, 3) := by decide +kernel
theorem dX3_readTest_152 : decode cX3_readTest 152 = .ok (.ifCond .ne 5, 3) := by decide +kernel
theorem dX3_readTest_155 : decode cX3_readTest 155 = .ok (.iconst 0, 1) := by decide +kernel
theorem dX3_readTest_156 : decode cX3_readTest 156 = .ok (.ireturn, 1) := by decide +kernel
theorem dX3_readTest_157 : decode cX3_readTest 157 = .ok (.aload_n 1, 1) := by decide +kernel
theorem dX3_readTest_158 : decode cX3_readTest 158 = .ok (.iload 4, 2) := by decide +kernel
theorem dX3_readTest_160 : decode cX3_readTest 160 = .ok (.iconst 0, 1) := by decide +kernel
theorem dX3_readTest_161 : decode cX3_readTest 161 = .ok (.invokevirtual 52, 3) := by decide +kernel
theorem dX3_readTest_164 : decode cX3_readTest 164 = .ok (.pop, 1) := by decide +kernel
theorem dX3_readTest_165 : decode cX3_readTest 165 = .ok (.iconst 1, 1) := by decide +kernel
theorem dX3_readTest_166 : decode cX3_readTest 166 = .ok (.ireturn, 1) := by decide +kernel
theorem dX2_land_0 : decode cX2_land 0 = .ok (.iload_n 1, 1) := by decide +kernel
theorem dX2_land_1 : decode cX2_land 1 = .ok (.istore_n 2, 1) := by decide +kernel
theorem dX2_land_2 : decode cX2_land 2 = .ok (.aload_n 0, 1) := by decide +kernel
theorem dX2_land_3 : decode cX2_land 3 = .ok (.getfield 34, 3) := by decide +kernel
theorem dX2_land_6 : decode cX2_land 6 = .ok (.istore_n 3, 1) := by decide +kernel
theorem dX2_land_7 : decode cX2_land 7 = .ok (.iload_n 3, 1) := by decide +kernel
theorem dX2_land_8 : decode cX2_land 8 = .ok (.ifCond .le 41, 3) := by decide +kernel
theorem dX2_land_11 : decode cX2_land 11 = .ok (.iload_n 2, 1) := by decide +kernel
theorem dX2_land_12 : decode cX2_land 12 = .ok (.ifCond .lt 37, 3) := by decide +kernel
theorem dX2_land_15 : decode cX2_land 15 = .ok (.iload_n 2, 1) := by decide +kernel
theorem dX2_land_16 : decode cX2_land 16 = .ok (.sipush 256, 3) := by decide +kernel
theorem dX2_land_19 : decode cX2_land 19 = .ok (.if_icmp .ge 30, 3) := by decide +kernel
theorem dX2_land_22 : decode cX2_land 22 = .ok (.aload_n 0, 1) := by decide +kernel
theorem dX2_land_23 : decode cX2_land 23 = .ok (.getfield 24, 3) := by decide +kernel
theorem dX2_land_26 : decode cX2_land 26 = .ok (.iload_n 2, 1) := by decide +kernel
theorem dX2_land_27 : decode cX2_land 27 = .ok (.iaload, 1) := by decide +kernel
theorem dX2_land_28 : decode cX2_land 28 = .ok (.istore 4, 2) := by decide +kernel
theorem dX2_land_30 : decode cX2_land 30 = .ok (.aload_n 0, 1) := by decide +kernel
theorem dX2_land_31 : decode cX2_land 31 = .ok (.getfield 24, 3) := by decide +kernel
theorem dX2_land_34 : decode cX2_land 34 = .ok (.iload_n 2, 1) := by decide +kernel
theorem dX2_land_35 : decode cX2_land 35 = .ok (.aload_n 0, 1) := by decide +kernel
theorem dX2_land_36 : decode cX2_land 36 = .ok (.getfield 34, 3) := by decide +kernel
theorem dX2_land_39 : decode cX2_land 39 = .ok (.iastore, 1) := by decide +kernel
theorem dX2_land_40 : decode cX2_land 40 = .ok (.iload 4, 2) := by decide +kernel
theorem dX2_land_42 : decode cX2_land 42 = .ok (.istore_n 2, 1) := by decide +kernel
theorem dX2_land_43 : decode cX2_land 43 = .ok (.iinc 3 (-1), 3) := by decide +kernel
theorem dX2_land_46 : decode cX2_land 46 = .ok (.goto (-39), 3) := by decide +kernel
theorem dX2_land_49 : decode cX2_land 49 = .ok (.return_, 1) := by decide +kernel
theorem dX7_clear_0 : decode cX7_clear 0 = .ok (.aload_n 0, 1) := by decide +kernel
theorem dX7_clear_1 : decode cX7_clear 1 = .ok (.iconst 0, 1) := by decide +kernel
theorem dX7_clear_2 : decode cX7_clear 2 = .ok (.putfield 15, 3) := by decide +kernel
theorem dX7_clear_5 : decode cX7_clear 5 = .ok (.return_, 1) := by decide +kernel
theorem dX11_valley_0 : decode cX11_valley 0 = .ok (.aload_n 0, 1) := by decide +kernel
theorem dX11_valley_1 : decode cX11_valley 1 = .ok (.iload_n 1, 1) := by decide +kernel
theorem dX11_valley_2 : decode cX11_valley 2 = .ok (.sipush 220, 3) := by decide +kernel
theorem dX11_valley_5 : decode cX11_valley 5 = .ok (.invokevirtual 108, 3) := by decide +kernel
theorem dX11_valley_8 : decode cX11_valley 8 = .ok (.ifCond .ne 5, 3) := by decide +kernel
theorem dX11_valley_11 : decode cX11_valley 11 = .ok (.iconst (-1), 1) := by decide +kernel
theorem dX11_valley_12 : decode cX11_valley 12 = .ok (.ireturn, 1) := by decide +kernel
theorem dX11_valley_13 : decode cX11_valley 13 = .ok (.aload_n 0, 1) := by decide +kernel
theorem dX11_valley_14 : decode cX11_valley 14 = .ok (.getfield 12, 3) := by decide +kernel
theorem dX11_valley_17 : decode cX11_valley 17 = .ok (.iload_n 1, 1) := by decide +kernel
theorem dX11_valley_18 : decode cX11_valley 18 = .ok (.invokevirtual 112, 3) := by decide +kernel
theorem dX11_valley_21 : decode cX11_valley 21 = .ok (.aload_n 0, 1) := by decide +kernel
theorem dX11_valley_22 : decode cX11_valley 22 = .ok (.getfield 12, 3) := by decide +kernel
theorem dX11_valley_25 : decode cX11_valley 25 = .ok (.aload_n 0, 1) := by decide +kernel
theorem dX11_valley_26 : decode cX11_valley 26 = .ok (.getfield 46, 3) := by decide +kernel
theorem dX11_valley_29 : decode cX11_valley 29 = .ok (.invokestatic 130, 3) := by decide +kernel
theorem dX11_valley_32 : decode cX11_valley 32 = .ok (.pop, 1) := by decide +kernel
theorem dX11_valley_33 : decode cX11_valley 33 = .ok (.aload_n 0, 1) := by decide +kernel
theorem dX11_valley_34 : decode cX11_valley 34 = .ok (.getfield 12, 3) := by decide +kernel
theorem dX11_valley_37 : decode cX11_valley 37 = .ok (.invokevirtual 121, 3) := by decide +kernel
theorem dX11_valley_40 : decode cX11_valley 40 = .ok (.aload_n 0, 1) := by decide +kernel
theorem dX11_valley_41 : decode cX11_valley 41 = .ok (.getfield 12, 3) := by decide +kernel
theorem dX11_valley_44 : decode cX11_valley 44 = .ok (.getfield 124, 3) := by decide +kernel
theorem dX11_valley_47 : decode cX11_valley 47 = .ok (.ifCond .eq 11, 3) := by decide +kernel
theorem dX11_valley_50 : decode cX11_valley 50 = .ok (.aload_n 0, 1) := by decide +kernel
theorem dX11_valley_51 : decode cX11_valley 51 = .ok (.getfield 12, 3) := by decide +kernel
theorem dX11_valley_54 : decode cX11_valley 54 = .ok (.getfield 124, 3) := by decide +kernel
theorem dX11_valley_57 : decode cX11_valley 57 = .ok (.ireturn, 1) := by decide +kernel
theorem dX11_valley_58 : decode cX11_valley 58 = .ok (.aload_n 0, 1) := by decide +kernel
theorem dX11_valley_59 : decode cX11_valley 59 = .ok (.getfield 42, 3) := by decide +kernel
theorem dX11_valley_62 : decode cX11_valley 62 = .ok (.astore_n 2, 1) := by decide +kernel
theorem dX11_valley_63 : decode cX11_valley 63 = .ok (.aload_n 0, 1) := by decide +kernel
theorem dX11_valley_64 : decode cX11_valley 64 = .ok (.aload_n 0, 1) := by decide +kernel
theorem dX11_valley_65 : decode cX11_valley 65 = .ok (.getfield 46, 3) := by decide +kernel
theorem dX11_valley_68 : decode cX11_valley 68 = .ok (.putfield 42, 3) := by decide +kernel
theorem dX11_valley_71 : decode cX11_valley 71 = .ok (.aload_n 0, 1) := by decide +kernel
theorem dX11_valley_72 : decode cX11_valley 72 = .ok (.aload_n 2, 1) := by decide +kernel
theorem dX11_valley_73 : decode cX11_valley 73 = .ok (.putfield 46, 3) := by decide +kernel
theorem dX11_valley_76 : decode cX11_valley 76 = .ok (.aload_n 0, 1) := by decide +kernel
theorem dX11_valley_77 : decode cX11_valley 77 = .ok (.getfield 29, 3) := by decide +kernel
theorem dX11_valley_80 : decode cX11_valley 80 = .ok (.iconst 0, 1) := by decide +kernel
theorem dX11_valley_81 : decode cX11_valley 81 = .ok (.putfield 91, 3) := by decide +kernel
theorem dX11_valley_84 : decode cX11_valley 84 = .ok (.aload_n 0, 1) := by decide +kernel
theorem dX11_valley_85 : decode cX11_valley 85 = .ok (.getfield 29, 3) := by decide +kernel
theorem dX11_valley_88 : decode cX11_valley 88 = .ok (.iconst 0, 1) := by decide +kernel
theorem dX11_valley_89 : decode cX11_valley 89 = .ok (.putfield 135, 3) := by decide +kernel
theorem dX11_valley_92 : decode cX11_valley 92 = .ok (.aload_n 0, 1) := by decide +kernel
theorem dX11_valley_93 : decode cX11_valley 93 = .ok (.getfield 29, 3) := by decide +kernel
theorem dX11_valley_96 : decode cX11_valley 96 = .ok (.bipush 8, 2) := by decide +kernel
theorem dX11_valley_98 : decode cX11_valley 98 = .ok (.putfield 138, 3) := by decide +kernel
theorem dX11_valley_101 : decode cX11_valley 101 = .ok (.aload_n 0, 1) := by decide +kernel
theorem dX11_valley_102 : decode cX11_valley 102 = .ok (.getfield 42, 3) := by decide +kernel
theorem dX11_valley_105 : decode cX11_valley 105 = .ok (.getfield 141, 3) := by decide +kernel
theorem dX11_valley_108 : decode cX11_valley 108 = .ok (.ireturn, 1) := by decide +kernel
theorem dX9_read_0 : decode cX9_read 0 = .ok (.aload_n 1, 1) := by decide +kernel
theorem dX9_read_1 : decode cX9_read 1 = .ok (.invokevirtual 9, 3) := by decide +kernel
theorem dX9_read_4 : decode cX9_read 4 = .ok (.aload_n 0, 1) := by decide +kernel
theorem dX9_read_5 : decode cX9_read 5 = .ok (.aload_n 1, 1) := by decide +kernel
theorem dX9_read_6 : decode cX9_read 6 = .ok (.invokestatic 14, 3) := by decide +kernel
theorem dX9_read_9 : decode cX9_read 9 = .ok (.ifCond .ne 5, 3) := by decide +kernel
theorem dX9_read_12 : decode cX9_read 12 = .ok (.iconst 0, 1) := by decide +kernel
theorem dX9_read_13 : decode cX9_read 13 = .ok (.ireturn, 1) := by decide +kernel
theorem dX9_read_14 : decode cX9_read 14 = .ok (.iconst 0, 1) := by decide +kernel
theorem dX9_read_15 : decode cX9_read 15 = .ok (.istore_n 2, 1) := by decide +kernel
theorem dX9_read_16 : decode cX9_read 16 = .ok (.iconst 0, 1) := by decide +kernel
theorem dX9_read_17 : decode cX9_read 17 = .ok (.istore_n 3, 1) := by decide +kernel
theorem dX9_read_18 : decode cX9_read 18 = .ok (.iload_n 3, 1) := by decide +kernel
theorem dX9_read_19 : decode cX9_read 19 = .ok (.bipush 8, 2) := by decide +kernel
theorem dX9_read_21 : decode cX9_read 21 = .ok (.if_icmp .gt 107, 3) := by decide +kernel
theorem dX9_read_24 : decode cX9_read 24 = .ok (.aload_n 0, 1) := by decide +kernel
theorem dX9_read_25 : decode cX9_read 25 = .ok (.getfield 20, 3) := by decide +kernel
theorem dX9_read_28 : decode cX9_read 28 = .ok (.iconst (-1), 1) := by decide +kernel
theorem dX9_read_29 : decode cX9_read 29 = .ok (.if_icmp .eq 99, 3) := by decide +kernel
theorem dX9_read_32 : decode cX9_read 32 = .ok (.aload_n 0, 1) := by decide +kernel
theorem dX9_read_33 : decode cX9_read 33 = .ok (.bipush 59, 2) := by decide +kernel
theorem dX9_read_35 : decode cX9_read 35 = .ok (.invokevirtual 26, 3) := by decide +kernel
theorem dX9_read_38 : decode cX9_read 38 = .ok (.ifCond .ne 5, 3) := by decide +kernel
theorem dX9_read_41 : decode cX9_read 41 = .ok (.iconst 0, 1) := by decide +kernel
theorem dX9_read_42 : decode cX9_read 42 = .ok (.ireturn, 1) := by decide +kernel
theorem dX9_read_43 : decode cX9_read 43 = .ok (.aload_n 0, 1) := by decide +kernel
theorem dX9_read_44 : decode cX9_read 44 = .ok (.getfield 20, 3) := by decide +kernel
theorem dX9_read_47 : decode cX9_read 47 = .ok (.bipush 97, 2) := by decide +kernel
theorem dX9_read_49 : decode cX9_read 49 = .ok (.isub, 1) := by decide +kernel
theorem dX9_read_50 : decode cX9_read 50 = .ok (.istore 4, 2) := by decide +kernel
theorem dX9_read_52 : decode cX9_read 52 = .ok (.iload 4, 2) := by decide +kernel
theorem dX9_read_54 : decode cX9_read 54 = .ok (.invokestatic 30, 3) := by decide +kernel
theorem dX9_read_57 : decode cX9_read 57 = .ok (.ifCond .ne 13, 3) := by decide +kernel
theorem dX9_read_60 : decode cX9_read 60 = .ok (.aload_n 0, 1) := by decide +kernel
theorem dX9_read_61 : decode cX9_read 61 = .ok (.iconst 1, 1) := by decide +kernel
theorem dX9_read_62 : decode cX9_read 62 = .ok (.aload_n 0, 1) := by decide +kernel
theorem dX9_read_63 : decode cX9_read 63 = .ok (.getfield 33, 3) := by decide +kernel
theorem dX9_read_66 : decode cX9_read 66 = .ok (.invokevirtual 36, 3) := by decide +kernel
theorem dX9_read_69 : decode cX9_read 69 = .ok (.ireturn, 1) := by decide +kernel
theorem dX9_read_70 : decode cX9_read 70 = .ok (.iload_n 2, 1) := by decide +kernel
theorem dX9_read_71 : decode cX9_read 71 = .ok (.iload 4, 2) := by decide +kernel
theorem dX9_read_73 : decode cX9_read 73 = .ok (.ishr, 1) := by decide +kernel
theorem dX9_read_74 : decode cX9_read 74 = .ok (.iconst 1, 1) := by decide +kernel
theorem dX9_read_75 : decode cX9_read 75 = .ok (.iand, 1) := by decide +kernel
theorem dX9_read_76 : decode cX9_read 76 = .ok (.ifCond .eq 14, 3) := by decide +kernel
theorem dX9_read_79 : decode cX9_read 79 = .ok (.aload_n 0, 1) := by decide +kernel
theorem dX9_read_80 : decode cX9_read 80 = .ok (.bipush 6, 2) := by decide +kernel
theorem dX9_read_82 : decode cX9_read 82 = .ok (.aload_n 0, 1) := by decide +kernel
theorem dX9_read_83 : decode cX9_read 83 = .ok (.getfield 33, 3) := by decide +kernel
theorem dX9_read_86 : decode cX9_read 86 = .ok (.invokevirtual 36, 3) := by decide +kernel
theorem dX9_read_89 : decode cX9_read 89 = .ok (.ireturn, 1) := by decide +kernel
theorem dX9_read_90 : decode cX9_read 90 = .ok (.iload_n 2, 1) := by decide +kernel
theorem dX9_read_91 : decode cX9_read 91 = .ok (.iconst 1, 1) := by decide +kernel
theorem dX9_read_92 : decode cX9_read 92 = .ok (.iload 4, 2) := by decide +kernel
theorem dX9_read_94 : decode cX9_read 94 = .ok (.ishl, 1) := by decide +kernel
theorem dX9_read_95 : decode cX9_read 95 = .ok (.ior, 1) := by decide +kernel
theorem dX9_read_96 : decode cX9_read 96 = .ok (.istore_n 2, 1) := by decide +kernel
theorem dX9_read_97 : decode cX9_read 97 = .ok (.aload_n 0, 1) := by decide +kernel
theorem dX9_read_98 : decode cX9_read 98 = .ok (.invokevirtual 40, 3) := by decide +kernel
theorem dX9_read_101 : decode cX9_read 101 = .ok (.aload_n 0, 1) := by decide +kernel
theorem dX9_read_102 : decode cX9_read 102 = .ok (.bipush 58, 2) := by decide +kernel
theorem dX9_read_104 : decode cX9_read 104 = .ok (.invokevirtual 26, 3) := by decide +kernel
theorem dX9_read_107 : decode cX9_read 107 = .ok (.ifCond .eq 13, 3) := by decide +kernel
theorem dX9_read_110 : decode cX9_read 110 = .ok (.aload_n 0, 1) := by decide +kernel
theorem dX9_read_111 : decode cX9_read 111 = .ok (.aload_n 1, 1) := by decide +kernel
theorem dX9_read_112 : decode cX9_read 112 = .ok (.iload 4, 2) := by decide +kernel
theorem dX9_read_114 : decode cX9_read 114 = .ok (.invokestatic 43, 3) := by decide +kernel
theorem dX9_read_117 : decode cX9_read 117 = .ok (.ifCond .ne 5, 3) := by decide +kernel
theorem dX9_read_120 : decode cX9_read 120 = .ok (.iconst 0, 1) := by decide +kernel
theorem dX9_read_121 : decode cX9_read 121 = .ok (.ireturn, 1) := by decide +kernel
theorem dX9_read_122 : decode cX9_read 122 = .ok (.iinc 3 1, 3) := by decide +kernel
theorem dX9_read_125 : decode cX9_read 125 = .ok (.goto (-107), 3) := by decide +kernel
theorem dX9_read_128 : decode cX9_read 128 = .ok (.iconst 1, 1) := by decide +kernel
theorem dX9_read_129 : decode cX9_read 129 = .ok (.ireturn, 1) := by decide +kernel
theorem dX8_clear_0 : decode cX8_clear 0 = .ok (.aload_n 0, 1) := by decide +kernel
theorem dX8_clear_1 : decode cX8_clear 1 = .ok (.iconst 0, 1) := by decide +kernel
theorem dX8_clear_2 : decode cX8_clear 2 = .ok (.putfield 18, 3) := by decide +kernel
theorem dX8_clear_5 : decode cX8_clear 5 = .ok (.iconst 0, 1) := by decide +kernel
theorem dX8_clear_6 : decode cX8_clear 6 = .ok (.istore_n 1, 1) := by decide +kernel
theorem dX8_clear_7 : decode cX8_clear 7 = .ok (.iload_n 1, 1) := by decide +kernel
theorem dX8_clear_8 : decode cX8_clear 8 = .ok (.bipush 80, 2) := by decide +kernel
theorem dX8_clear_10 : decode cX8_clear 10 = .ok (.if_icmp .ge 26, 3) := by decide +kernel
theorem dX8_clear_13 : decode cX8_clear 13 = .ok (.aload_n 0, 1) := by decide +kernel
theorem dX8_clear_14 : decode cX8_clear 14 = .ok (.getfield 9, 3) := by decide +kernel
theorem dX8_clear_17 : decode cX8_clear 17 = .ok (.iload_n 1, 1) := by decide +kernel
theorem dX8_clear_18 : decode cX8_clear 18 = .ok (.iconst 0, 1) := by decide +kernel
theorem dX8_clear_19 : decode cX8_clear 19 = .ok (.iastore, 1) := by decide +kernel
theorem dX8_clear_20 : decode cX8_clear 20 = .ok (.aload_n 0, 1) := by decide +kernel
theorem dX8_clear_21 : decode cX8_clear 21 = .ok (.getfield 15, 3) := by decide +kernel
theorem dX8_clear_24 : decode cX8_clear 24 = .ok (.iload_n 1, 1) := by decide +kernel
theorem dX8_clear_25 : decode cX8_clear 25 = .ok (.iload_n 1, 1) := by decide +kernel
theorem dX8_clear_26 : decode cX8_clear 26 = .ok (.bipush 10, 2) := by decide +kernel
theorem dX8_clear_28 : decode cX8_clear 28 = .ok (.irem, 1) := by decide +kernel
theorem dX8_clear_29 : decode cX8_clear 29 = .ok (.iastore, 1) := by decide +kernel
theorem dX8_clear_30 : decode cX8_clear 30 = .ok (.iinc 1 1, 3) := by decide +kernel
theorem dX8_clear_33 : decode cX8_clear 33 = .ok (.goto (-26), 3) := by decide +kernel
theorem dX8_clear_36 : decode cX8_clear 36 = .ok (.return_, 1) := by decide +kernel
theorem dX9_readStates_0 : decode cX9_readStates 0 = .ok (.aload_n 0, 1) := by decide +kernel
theorem dX9_readStates_1 : decode cX9_readStates 1 = .ok (.invokevirtual 47, 3) := by decide +kernel
theorem dX9_readStates_4 : decode cX9_readStates 4 = .ok (.ifCond .ne 13, 3) := by decide +kernel
theorem dX9_readStates_7 : decode cX9_readStates 7 = .ok (.aload_n 0, 1) := by decide +kernel
theorem dX9_readStates_8 : decode cX9_readStates 8 = .ok (.iconst 1, 1) := by decide +kernel
theorem dX9_readStates_9 : decode cX9_readStates 9 = .ok (.aload_n 0, 1) := by decide +kernel
theorem dX9_readStates_10 : decode cX9_readStates 10 = .ok (.getfield 33, 3) := by decide +kernel
theorem dX9_readStates_13 : decode cX9_readStates 13 = .ok (.invokevirtual 36, 3) := by decide +kernel
theorem dX9_readStates_16 : decode cX9_readStates 16 = .ok (.ireturn, 1) := by decide +kernel
theorem dX9_readStates_17 : decode cX9_readStates 17 = .ok (.aload_n 0, 1) := by decide +kernel
theorem dX9_readStates_18 : decode cX9_readStates 18 = .ok (.getfield 20, 3) := by decide +kernel
theorem dX9_readStates_21 : decode cX9_readStates 21 = .ok (.bipush 48, 2) := by decide +kernel
theorem dX9_readStates_23 : decode cX9_readStates 23 = .ok (.isub, 1) := by decide +kernel
theorem dX9_readStates_24 : decode cX9_readStates 24 = .ok (.istore_n 2, 1) := by decide +kernel
theorem dX9_readStates_25 : decode cX9_readStates 25 = .ok (.aload_n 0, 1) := by decide +kernel
theorem dX9_readStates_26 : decode cX9_readStates 26 = .ok (.invokevirtual 40, 3) := by decide +kernel
theorem dX9_readStates_29 : decode cX9_readStates 29 = .ok (.aload_n 0, 1) := by decide +kernel
theorem dX9_readStates_30 : decode cX9_readStates 30 = .ok (.invokevirtual 47, 3) := by decide +kernel
theorem dX9_readStates_33 : decode cX9_readStates 33 = .ok (.ifCond .eq 20, 3) := by decide +kernel
theorem dX9_readStates_36 : decode cX9_readStates 36 = .ok (.iload_n 2, 1) := by decide +kernel
theorem dX9_readStates_37 : decode cX9_readStates 37 = .ok (.bipush 10, 2) := by decide +kernel
theorem dX9_readStates_39 : decode cX9_readStates 39 = .ok (.imul, 1) := by decide +kernel
theorem dX9_readStates_40 : decode cX9_readStates 40 = .ok (.aload_n 0, 1) := by decide +kernel
theorem dX9_readStates_41 : decode cX9_readStates 41 = .ok (.getfield 20, 3) := by decide +kernel
theorem dX9_readStates_44 : decode cX9_readStates 44 = .ok (.iadd, 1) := by decide +kernel
theorem dX9_readStates_45 : decode cX9_readStates 45 = .ok (.bipush 48, 2) := by decide +kernel
theorem dX9_readStates_47 : decode cX9_readStates 47 = .ok (.isub, 1) := by decide +kernel
theorem dX9_readStates_48 : decode cX9_readStates 48 = .ok (.istore_n 2, 1) := by decide +kernel
theorem dX9_readStates_49 : decode cX9_readStates 49 = .ok (.aload_n 0, 1) := by decide +kernel
theorem dX9_readStates_50 : decode cX9_readStates 50 = .ok (.invokevirtual 40, 3) := by decide +kernel
theorem dX9_readStates_53 : decode cX9_readStates 53 = .ok (.aload_n 0, 1) := by decide +kernel
theorem dX9_readStates_54 : decode cX9_readStates 54 = .ok (.invokevirtual 47, 3) := by decide +kernel
theorem dX9_readStates_57 : decode cX9_readStates 57 = .ok (.ifCond .eq 13, 3) := by decide +kernel
theorem dX9_readStates_60 : decode cX9_readStates 60 = .ok (.aload_n 0, 1) := by decide +kernel
theorem dX9_readStates_61 : decode cX9_readStates 61 = .ok (.iconst 2, 1) := by decide +kernel
theorem dX9_readStates_62 : decode cX9_readStates 62 = .ok (.aload_n 0, 1) := by decide +kernel
theorem dX9_readStates_63 : decode cX9_readStates 63 = .ok (.getfield 33, 3) := by decide +kernel
theorem dX9_readStates_66 : decode cX9_readStates 66 = .ok (.invokevirtual 36, 3) := by decide +kernel
theorem dX9_readStates_69 : decode cX9_readStates 69 = .ok (.ireturn, 1) := by decide +kernel
theorem dX9_readStates_70 : decode cX9_readStates 70 = .ok (.iload_n 2, 1) := by decide +kernel
theorem dX9_readStates_71 : decode cX9_readStates 71 = .ok (.iconst 2, 1) := by decide +kernel
theorem dX9_readStates_72 : decode cX9_readStates 72 = .ok (.if_icmp .lt 9, 3) := by decide +kernel
theorem dX9_readStates_75 : decode cX9_readStates 75 = .ok (.iload_n 2, 1) := by decide +kernel
theorem dX9_readStates_76 : decode cX9_readStates 76 = .ok (.bipush 10, 2) := by decide +kernel
theorem dX9_readStates_78 : decode cX9_readStates 78 = .ok (.if_icmp .le 10, 3) := by decide +kernel
theorem dX9_readStates_81 : decode cX9_readStates 81 = .ok (.aload_n 0, 1) := by decide +kernel
theorem dX9_readStates_82 : decode cX9_readStates 82 = .ok (.iconst 3, 1) := by decide +kernel
theorem dX9_readStates_83 : decode cX9_readStates 83 = .ok (.iconst 0, 1) := by decide +kernel
theorem dX9_readStates_84 : decode cX9_readStates 84 = .ok (.invokevirtual 36, 3) := by decide +kernel
theorem dX9_readStates_87 : decode cX9_readStates 87 = .ok (.ireturn, 1) := by decide +kernel
theorem dX9_readStates_88 : decode cX9_readStates 88 = .ok (.aload_n 1, 1) := by decide +kernel
theorem dX9_readStates_89 : decode cX9_readStates 89 = .ok (.iload_n 2, 1) := by decide +kernel
theorem dX9_readStates_90 : decode cX9_readStates 90 = .ok (.putfield 51, 3) := by decide +kernel
theorem dX9_readStates_93 : decode cX9_readStates 93 = .ok (.iconst 1, 1) := by decide +kernel
theorem dX9_readStates_94 : decode cX9_readStates 94 = .ok (.ireturn, 1) := by decide +kernel
theorem dX9_readLine_0 : decode cX9_readLine 0 = .ok (.aload_n 1, 1) := by decide +kernel
theorem dX9_readLine_1 : decode cX9_readLine 1 = .ok (.invokevirtual 54, 3) := by decide +kernel
theorem dX9_readLine_4 : decode cX9_readLine 4 = .ok (.istore_n 3, 1) := by decide +kernel
theorem dX9_readLine_5 : decode cX9_readLine 5 = .ok (.iconst 0, 1) := by decide +kernel
theorem dX9_readLine_6 : decode cX9_readLine 6 = .ok (.istore 4, 2) := by decide +kernel
theorem dX9_readLine_8 : decode cX9_readLine 8 = .ok (.iconst 0, 1) := by decide +kernel
theorem dX9_readLine_9 : decode cX9_readLine 9 = .ok (.istore 5, 2) := by decide +kernel
theorem dX9_readLine_11 : decode cX9_readLine 11 = .ok (.iload 5, 2) := by decide +kernel
theorem dX9_readLine_13 : decode cX9_readLine 13 = .ok (.bipush 11, 2) := by decide +kernel
theorem dX9_readLine_15 : decode cX9_readLine 15 = .ok (.if_icmp .gt 128, 3) := by decide +kernel
theorem dX9_readLine_18 : decode cX9_readLine 18 = .ok (.aload_n 0, 1) := by decide +kernel
theorem dX9_readLine_19 : decode cX9_readLine 19 = .ok (.getfield 20, 3) := by decide +kernel
theorem dX9_readLine_22 : decode cX9_readLine 22 = .ok (.bipush 42, 2) := by decide +kernel
theorem dX9_readLine_24 : decode cX9_readLine 24 = .ok (.if_icmp .ne 7, 3) := by decide +kernel
theorem dX9_readLine_27 : decode cX9_readLine 27 = .ok (.iconst 1, 1) := by decide +kernel
theorem dX9_readLine_28 : decode cX9_readLine 28 = .ok (.goto 4, 3) := by decide +kernel
theorem dX9_readLine_31 : decode cX9_readLine 31 = .ok (.iconst 0, 1) := by decide +kernel
theorem dX9_readLine_32 : decode cX9_readLine 32 = .ok (.istore 6, 2) := by decide +kernel
theorem dX9_readLine_34 : decode cX9_readLine 34 = .ok (.iload 6, 2) := by decide +kernel
theorem dX9_readLine_36 : decode cX9_readLine 36 = .ok (.ifCond .ne 13, 3) := by decide +kernel
theorem dX9_readLine_39 : decode cX9_readLine 39 = .ok (.aload_n 0, 1) := by decide +kernel
theorem dX9_readLine_40 : decode cX9_readLine 40 = .ok (.aload_n 1, 1) := by decide +kernel
theorem dX9_readLine_41 : decode cX9_readLine 41 = .ok (.invokestatic 58, 3) := by decide +kernel
theorem dX9_readLine_44 : decode cX9_readLine 44 = .ok (.ifCond .ne 5, 3) := by decide +kernel
theorem dX9_readLine_47 : decode cX9_readLine 47 = .ok (.iconst 0, 1) := by decide +kernel
theorem dX9_readLine_48 : decode cX9_readLine 48 = .ok (.ireturn, 1) := by decide +kernel
theorem dX9_readLine_49 : decode cX9_readLine 49 = .ok (.iload 6, 2) := by decide +kernel
theorem dX9_readLine_51 : decode cX9_readLine 51 = .ok (.ifCond .eq 7, 3) := by decide +kernel
theorem dX9_readLine_54 : decode cX9_readLine 54 = .ok (.iload_n 3, 1) := by decide +kernel
theorem dX9_readLine_55 : decode cX9_readLine 55 = .ok (.goto 12, 3) := by decide +kernel
theorem dX9_readLine_58 : decode cX9_readLine 58 = .ok (.iconst 1, 1) := by decide +kernel
theorem dX9_readLine_59 : decode cX9_readLine 59 = .ok (.aload_n 0, 1) := by decide +kernel
theorem dX9_readLine_60 : decode cX9_readLine 60 = .ok (.getfield 20, 3) := by decide +kernel
theorem dX9_readLine_63 : decode cX9_readLine 63 = .ok (.bipush 48, 2) := by decide +kernel
theorem dX9_readLine_65 : decode cX9_readLine 65 = .ok (.isub, 1) := by decide +kernel
theorem dX9_readLine_66 : decode cX9_readLine 66 = .ok (.ishl, 1) := by decide +kernel
theorem dX9_readLine_67 : decode cX9_readLine 67 = .ok (.istore 7, 2) := by decide +kernel
theorem dX9_readLine_69 : decode cX9_readLine 69 = .ok (.iload 4, 2) := by decide +kernel
theorem dX9_readLine_71 : decode cX9_readLine 71 = .ok (.ifCond .ne 12, 3) := by decide +kernel
theorem dX9_readLine_74 : decode cX9_readLine 74 = .ok (.iload 7, 2) := by decide +kernel
theorem dX9_readLine_76 : decode cX9_readLine 76 = .ok (.iload_n 3, 1) := by decide +kernel
theorem dX9_readLine_77 : decode cX9_readLine 77 = .ok (.iand, 1) := by decide +kernel
theorem dX9_readLine_78 : decode cX9_readLine 78 = .ok (.iload 7, 2) := by decide +kernel
theorem dX9_readLine_80 : decode cX9_readLine 80 = .ok (.if_icmp .eq 14, 3) := by decide +kernel
theorem dX9_readLine_83 : decode cX9_readLine 83 = .ok (.aload_n 0, 1) := by decide +kernel
theorem dX9_readLine_84 : decode cX9_readLine 84 = .ok (.bipush 7, 2) := by decide +kernel
theorem dX9_readLine_86 : decode cX9_readLine 86 = .ok (.aload_n 0, 1) := by decide +kernel
theorem dX9_readLine_87 : decode cX9_readLine 87 = .ok (.getfield 33, 3) := by decide +kernel
theorem dX9_readLine_90 : decode cX9_readLine 90 = .ok (.invokevirtual 36, 3) := by decide +kernel
theorem dX9_readLine_93 : decode cX9_readLine 93 = .ok (.ireturn, 1) := by decide +kernel
theorem dX9_readLine_94 : decode cX9_readLine 94 = .ok (.iload 6, 2) := by decide +kernel
theorem dX9_readLine_96 : decode cX9_readLine 96 = .ok (.istore 4, 2) := by decide +kernel
theorem dX9_readLine_98 : decode cX9_readLine 98 = .ok (.iload_n 3, 1) := by decide +kernel
theorem dX9_readLine_99 : decode cX9_readLine 99 = .ok (.iload 7, 2) := by decide +kernel
theorem dX9_readLine_101 : decode cX9_readLine 101 = .ok (.iconst (-1), 1) := by decide +kernel
theorem dX9_readLine_102 : decode cX9_readLine 102 = .ok (.ixor, 1) := by decide +kernel
theorem dX9_readLine_103 : decode cX9_readLine 103 = .ok (.iand, 1) := by decide +kernel
theorem dX9_readLine_104 : decode cX9_readLine 104 = .ok (.istore_n 3, 1) := by decide +kernel
theorem dX9_readLine_105 : decode cX9_readLine 105 = .ok (.aload_n 0, 1) := by decide +kernel
theorem dX9_readLine_106 : decode cX9_readLine 106 = .ok (.invokevirtual 40, 3) := by decide +kernel
theorem dX9_readLine_109 : decode cX9_readLine 109 = .ok (.aload_n 0, 1) := by decide +kernel
theorem dX9_readLine_110 : decode cX9_readLine 110 = .ok (.aload_n 1, 1) := by decide +kernel
theorem dX9_readLine_111 : decode cX9_readLine 111 = .ok (.iload_n 2, 1) := by decide +kernel
theorem dX9_readLine_112 : decode cX9_readLine 112 = .ok (.iload 7, 2) := by decide +kernel
theorem dX9_readLine_114 : decode cX9_readLine 114 = .ok (.invokestatic 61, 3) := by decide +kernel
theorem dX9_readLine_117 : decode cX9_readLine 117 = .ok (.ifCond .ne 5, 3) := by decide +kernel
theorem dX9_readLine_120 : decode cX9_readLine 120 = .ok (.iconst 0, 1) := by decide +kernel
theorem dX9_readLine_121 : decode cX9_readLine 121 = .ok (.ireturn, 1) := by decide +kernel
theorem dX9_readLine_122 : decode cX9_readLine 122 = .ok (.aload_n 0, 1) := by decide +kernel
theorem dX9_readLine_123 : decode cX9_readLine 123 = .ok (.getfield 20, 3) := by decide +kernel
theorem dX9_readLine_126 : decode cX9_readLine 126 = .ok (.bipush 44, 2) := by decide +kernel
theorem dX9_readLine_128 : decode cX9_readLine 128 = .ok (.if_icmp .eq 5, 3) := by decide +kernel
theorem dX9_readLine_131 : decode cX9_readLine 131 = .ok (.iconst 1, 1) := by decide +kernel
theorem dX9_readLine_132 : decode cX9_readLine 132 = .ok (.ireturn, 1) := by decide +kernel
theorem dX9_readLine_133 : decode cX9_readLine 133 = .ok (.aload_n 0, 1) := by decide +kernel
theorem dX9_readLine_134 : decode cX9_readLine 134 = .ok (.invokevirtual 40, 3) := by decide +kernel
theorem dX9_readLine_137 : decode cX9_readLine 137 = .ok (.iinc 5 1, 3) := by decide +kernel
theorem dX9_readLine_140 : decode cX9_readLine 140 = .ok (.goto (-129), 3) := by decide +kernel
theorem dX9_readLine_143 : decode cX9_readLine 143 = .ok (.aload_n 0, 1) := by decide +kernel
theorem dX9_readLine_144 : decode cX9_readLine 144 = .ok (.bipush 7, 2) := by decide +kernel
theorem dX9_readLine_146 : decode cX9_readLine 146 = .ok (.aload_n 0, 1) := by decide +kernel
theorem dX9_readLine_147 : decode cX9_readLine 147 = .ok (.getfield 33, 3) := by decide +kernel
theorem dX9_readLine_150 : decode cX9_readLine 150 = .ok (.invokevirtual 36, 3) := by decide +kernel
theorem dX9_readLine_153 : decode cX9_readLine 153 = .ok (.ireturn, 1) := by decide +kernel
theorem dX8_everyState_0 : decode cX8_everyState 0 = .ok (.iconst 1, 1) := by decide +kernel
theorem dX8_everyState_1 : decode cX8_everyState 1 = .ok (.aload_n 0, 1) := by decide +kernel
theorem dX8_everyState_2 : decode cX8_everyState 2 = .ok (.getfield 18, 3) := by decide +kernel
theorem dX8_everyState_5 : decode cX8_everyState 5 = .ok (.ishl, 1) := by decide +kernel
theorem dX8_everyState_6 : decode cX8_everyState 6 = .ok (.iconst 1, 1) := by decide +kernel
theorem dX8_everyState_7 : decode cX8_everyState 7 = .ok (.isub, 1) := by decide +kernel
theorem dX8_everyState_8 : decode cX8_everyState 8 = .ok (.ireturn, 1) := by decide +kernel
theorem dX9_readsState_0 : decode cX9_readsState 0 = .ok (.aload_n 0, 1) := by decide +kernel
theorem dX9_readsState_1 : decode cX9_readsState 1 = .ok (.invokevirtual 47, 3) := by decide +kernel
theorem dX9_readsState_4 : decode cX9_readsState 4 = .ok (.ifCond .ne 13, 3) := by decide +kernel
theorem dX9_readsState_7 : decode cX9_readsState 7 = .ok (.aload_n 0, 1) := by decide +kernel
theorem dX9_readsState_8 : decode cX9_readsState 8 = .ok (.iconst 1, 1) := by decide +kernel
theorem dX9_readsState_9 : decode cX9_readsState 9 = .ok (.aload_n 0, 1) := by decide +kernel
theorem dX9_readsState_10 : decode cX9_readsState 10 = .ok (.getfield 33, 3) := by decide +kernel
theorem dX9_readsState_13 : decode cX9_readsState 13 = .ok (.invokevirtual 36, 3) := by decide +kernel
theorem dX9_readsState_16 : decode cX9_readsState 16 = .ok (.ireturn, 1) := by decide +kernel
theorem dX9_readsState_17 : decode cX9_readsState 17 = .ok (.aload_n 1, 1) := by decide +kernel
theorem dX9_readsState_18 : decode cX9_readsState 18 = .ok (.aload_n 0, 1) := by decide +kernel
theorem dX9_readsState_19 : decode cX9_readsState 19 = .ok (.getfield 20, 3) := by decide +kernel
theorem dX9_readsState_22 : decode cX9_readsState 22 = .ok (.bipush 48, 2) := by decide +kernel
theorem dX9_readsState_24 : decode cX9_readsState 24 = .ok (.isub, 1) := by decide +kernel
theorem dX9_readsState_25 : decode cX9_readsState 25 = .ok (.invokevirtual 65, 3) := by decide +kernel
theorem dX9_readsState_28 : decode cX9_readsState 28 = .ok (.ifCond .ne 15, 3) := by decide +kernel
theorem dX9_readsState_31 : decode cX9_readsState 31 = .ok (.aload_n 0, 1) := by decide +kernel
theorem dX9_readsState_32 : decode cX9_readsState 32 = .ok (.iconst 3, 1) := by decide +kernel
theorem dX9_readsState_33 : decode cX9_readsState 33 = .ok (.aload_n 0, 1) := by decide +kernel
theorem dX9_readsState_34 : decode cX9_readsState 34 = .ok (.getfield 33, 3) := by decide +kernel
theorem dX9_readsState_37 : decode cX9_readsState 37 = .ok (.invokevirtual 36, 3) := by decide +kernel
theorem dX9_readsState_40 : decode cX9_readsState 40 = .ok (.ifCond .eq 7, 3) := by decide +kernel
theorem dX9_readsState_43 : decode cX9_readsState 43 = .ok (.iconst 1, 1) := by decide +kernel
theorem dX9_readsState_44 : decode cX9_readsState 44 = .ok (.goto 4, 3) := by decide +kernel
theorem dX9_readsState_47 : decode cX9_readsState 47 = .ok (.iconst 0, 1) := by decide +kernel
theorem dX9_readsState_48 : decode cX9_readsState 48 = .ok (.ireturn, 1) := by decide +kernel
theorem dX9_readOutcome_0 : decode cX9_readOutcome 0 = .ok (.aload_n 0, 1) := by decide +kernel
theorem dX9_readOutcome_1 : decode cX9_readOutcome 1 = .ok (.bipush 62, 2) := by decide +kernel
theorem dX9_readOutcome_3 : decode cX9_readOutcome 3 = .ok (.invokevirtual 26, 3) := by decide +kernel
theorem dX9_readOutcome_6 : decode cX9_readOutcome 6 = .ok (.ifCond .ne 5, 3) := by decide +kernel
theorem dX9_readOutcome_9 : decode cX9_readOutcome 9 = .ok (.iconst 0, 1) := by decide +kernel
theorem dX9_readOutcome_10 : decode cX9_readOutcome 10 = .ok (.ireturn, 1) := by decide +kernel
theorem dX9_readOutcome_11 : decode cX9_readOutcome 11 = .ok (.aload_n 0, 1) := by decide +kernel
theorem dX9_readOutcome_12 : decode cX9_readOutcome 12 = .ok (.getfield 20, 3) := by decide +kernel
theorem dX9_readOutcome_15 : decode cX9_readOutcome 15 = .ok (.bipush 46, 2) := by decide +kernel
theorem dX9_readOutcome_17 : decode cX9_readOutcome 17 = .ok (.if_icmp .ne 7, 3) := by decide +kernel
theorem dX9_readOutcome_20 : decode cX9_readOutcome 20 = .ok (.iconst 1, 1) := by decide +kernel
theorem dX9_readOutcome_21 : decode cX9_readOutcome 21 = .ok (.goto 4, 3) := by decide +kernel
theorem dX9_readOutcome_24 : decode cX9_readOutcome 24 = .ok (.iconst 0, 1) := by decide +kernel
theorem dX9_readOutcome_25 : decode cX9_readOutcome 25 = .ok (.istore 4, 2) := by decide +kernel
theorem dX9_readOutcome_27 : decode cX9_readOutcome 27 = .ok (.iload 4, 2) := by decide +kernel
theorem dX9_readOutcome_29 : decode cX9_readOutcome 29 = .ok (.ifCond .ne 13, 3) := by decide +kernel
theorem dX9_readOutcome_32 : decode cX9_readOutcome 32 = .ok (.aload_n 0, 1) := by decide +kernel
theorem dX9_readOutcome_33 : decode cX9_readOutcome 33 = .ok (.aload_n 1, 1) := by decide +kernel
theorem dX9_readOutcome_34 : decode cX9_readOutcome 34 = .ok (.invokestatic 58, 3) := by decide +kernel
theorem dX9_readOutcome_37 : decode cX9_readOutcome 37 = .ok (.ifCond .ne 5, 3) := by decide +kernel
theorem dX9_readOutcome_40 : decode cX9_readOutcome 40 = .ok (.iconst 0, 1) := by decide +kernel
theorem dX9_readOutcome_41 : decode cX9_readOutcome 41 = .ok (.ireturn, 1) := by decide +kernel
theorem dX9_readOutcome_42 : decode cX9_readOutcome 42 = .ok (.aload_n 0, 1) := by decide +kernel
theorem dX9_readOutcome_43 : decode cX9_readOutcome 43 = .ok (.getfield 20, 3) := by decide +kernel
theorem dX9_readOutcome_46 : decode cX9_readOutcome 46 = .ok (.bipush 48, 2) := by decide +kernel
theorem dX9_readOutcome_48 : decode cX9_readOutcome 48 = .ok (.isub, 1) := by decide +kernel
theorem dX9_readOutcome_49 : decode cX9_readOutcome 49 = .ok (.istore 5, 2) := by decide +kernel
theorem dX9_readOutcome_51 : decode cX9_readOutcome 51 = .ok (.aload_n 0, 1) := by decide +kernel
theorem dX9_readOutcome_52 : decode cX9_readOutcome 52 = .ok (.invokevirtual 40, 3) := by decide +kernel
theorem dX9_readOutcome_55 : decode cX9_readOutcome 55 = .ok (.aload_n 0, 1) := by decide +kernel
theorem dX9_readOutcome_56 : decode cX9_readOutcome 56 = .ok (.bipush 61, 2) := by decide +kernel
theorem dX9_readOutcome_58 : decode cX9_readOutcome 58 = .ok (.invokevirtual 26, 3) := by decide +kernel
theorem dX9_readOutcome_61 : decode cX9_readOutcome 61 = .ok (.ifCond .ne 5, 3) := by decide +kernel
theorem dX9_readOutcome_64 : decode cX9_readOutcome 64 = .ok (.iconst 0, 1) := by decide +kernel
theorem dX9_readOutcome_65 : decode cX9_readOutcome 65 = .ok (.ireturn, 1) := by decide +kernel
theorem dX9_readOutcome_66 : decode cX9_readOutcome 66 = .ok (.aload_n 0, 1) := by decide +kernel
theorem dX9_readOutcome_67 : decode cX9_readOutcome 67 = .ok (.invokevirtual 47, 3) := by decide +kernel
theorem dX9_readOutcome_70 : decode cX9_readOutcome 70 = .ok (.ifCond .ne 13, 3) := by decide +kernel
theorem dX9_readOutcome_73 : decode cX9_readOutcome 73 = .ok (.aload_n 0, 1) := by decide +kernel
theorem dX9_readOutcome_74 : decode cX9_readOutcome 74 = .ok (.iconst 1, 1) := by decide +kernel
theorem dX9_readOutcome_75 : decode cX9_readOutcome 75 = .ok (.aload_n 0, 1) := by decide +kernel
theorem dX9_readOutcome_76 : decode cX9_readOutcome 76 = .ok (.getfield 33, 3) := by decide +kernel
theorem dX9_readOutcome_79 : decode cX9_readOutcome 79 = .ok (.invokevirtual 36, 3) := by decide +kernel
theorem dX9_readOutcome_82 : decode cX9_readOutcome 82 = .ok (.ireturn, 1) := by decide +kernel
theorem dX9_readOutcome_83 : decode cX9_readOutcome 83 = .ok (.aload_n 0, 1) := by decide +kernel
theorem dX9_readOutcome_84 : decode cX9_readOutcome 84 = .ok (.getfield 20, 3) := by decide +kernel
theorem dX9_readOutcome_87 : decode cX9_readOutcome 87 = .ok (.bipush 48, 2) := by decide +kernel
theorem dX9_readOutcome_89 : decode cX9_readOutcome 89 = .ok (.isub, 1) := by decide +kernel
theorem dX9_readOutcome_90 : decode cX9_readOutcome 90 = .ok (.istore 6, 2) := by decide +kernel
theorem dX9_readOutcome_92 : decode cX9_readOutcome 92 = .ok (.aload_n 0, 1) := by decide +kernel
theorem dX9_readOutcome_93 : decode cX9_readOutcome 93 = .ok (.invokevirtual 40, 3) := by decide +kernel
theorem dX9_readOutcome_96 : decode cX9_readOutcome 96 = .ok (.iconst 0, 1) := by decide +kernel
theorem dX9_readOutcome_97 : decode cX9_readOutcome 97 = .ok (.istore 7, 2) := by decide +kernel
theorem dX9_readOutcome_99 : decode cX9_readOutcome 99 = .ok (.iload 7, 2) := by decide +kernel
theorem dX9_readOutcome_101 : decode cX9_readOutcome 101 = .ok (.bipush 10, 2) := by decide +kernel
theorem dX9_readOutcome_103 : decode cX9_readOutcome 103 = .ok (.if_icmp .ge 39, 3) := by decide +kernel
theorem dX9_readOutcome_106 : decode cX9_readOutcome 106 = .ok (.iload_n 3, 1) := by decide +kernel
theorem dX9_readOutcome_107 : decode cX9_readOutcome 107 = .ok (.iload 7, 2) := by decide +kernel
theorem dX9_readOutcome_109 : decode cX9_readOutcome 109 = .ok (.ishr, 1) := by decide +kernel
theorem dX9_readOutcome_110 : decode cX9_readOutcome 110 = .ok (.iconst 1, 1) := by decide +kernel
theorem dX9_readOutcome_111 : decode cX9_readOutcome 111 = .ok (.iand, 1) := by decide +kernel
theorem dX9_readOutcome_112 : decode cX9_readOutcome 112 = .ok (.ifCond .eq 24, 3) := by decide +kernel
theorem dX9_readOutcome_115 : decode cX9_readOutcome 115 = .ok (.aload_n 1, 1) := by decide +kernel
theorem dX9_readOutcome_116 : decode cX9_readOutcome 116 = .ok (.iload_n 2, 1) := by decide +kernel
theorem dX9_readOutcome_117 : decode cX9_readOutcome 117 = .ok (.iload 7, 2) := by decide +kernel
theorem dX9_readOutcome_119 : decode cX9_readOutcome 119 = .ok (.iload 4, 2) := by decide +kernel
theorem dX9_readOutcome_121 : decode cX9_readOutcome 121 = .ok (.ifCond .eq 8, 3) := by decide +kernel
theorem dX9_readOutcome_124 : decode cX9_readOutcome 124 = .ok (.iload 7, 2) := by decide +kernel
theorem dX9_readOutcome_126 : decode cX9_readOutcome 126 = .ok (.goto 5, 3) := by decide +kernel
theorem dX9_readOutcome_129 : decode cX9_readOutcome 129 = .ok (.iload 5, 2) := by decide +kernel
theorem dX9_readOutcome_131 : decode cX9_readOutcome 131 = .ok (.iload 6, 2) := by decide +kernel
theorem dX9_readOutcome_133 : decode cX9_readOutcome 133 = .ok (.invokevirtual 68, 3) := by decide +kernel
theorem dX9_readOutcome_136 : decode cX9_readOutcome 136 = .ok (.iinc 7 1, 3) := by decide +kernel
theorem dX9_readOutcome_139 : decode cX9_readOutcome 139 = .ok (.goto (-40), 3) := by decide +kernel
theorem dX9_readOutcome_142 : decode cX9_readOutcome 142 = .ok (.iconst 1, 1) := by decide +kernel
theorem dX9_readOutcome_143 : decode cX9_readOutcome 143 = .ok (.ireturn, 1) := by decide +kernel
theorem dX8_tell_0 : decode cX8_tell 0 = .ok (.iload_n 1, 1) := by decide +kernel
theorem dX8_tell_1 : decode cX8_tell 1 = .ok (.bipush 10, 2) := by decide +kernel
theorem dX8_tell_3 : decode cX8_tell 3 = .ok (.imul, 1) := by decide +kernel
theorem dX8_tell_4 : decode cX8_tell 4 = .ok (.iload_n 2, 1) := by decide +kernel
theorem dX8_tell_5 : decode cX8_tell 5 = .ok (.iadd, 1) := by decide +kernel
theorem dX8_tell_6 : decode cX8_tell 6 = .ok (.istore 5, 2) := by decide +kernel
theorem dX8_tell_8 : decode cX8_tell 8 = .ok (.iload 5, 2) := by decide +kernel
theorem dX8_tell_10 : decode cX8_tell 10 = .ok (.ifCond .lt 27, 3) := by decide +kernel
theorem dX8_tell_13 : decode cX8_tell 13 = .ok (.iload 5, 2) := by decide +kernel
theorem dX8_tell_15 : decode cX8_tell 15 = .ok (.bipush 80, 2) := by decide +kernel
theorem dX8_tell_17 : decode cX8_tell 17 = .ok (.if_icmp .ge 20, 3) := by decide +kernel
theorem dX8_tell_20 : decode cX8_tell 20 = .ok (.aload_n 0, 1) := by decide +kernel
theorem dX8_tell_21 : decode cX8_tell 21 = .ok (.getfield 9, 3) := by decide +kernel
theorem dX8_tell_24 : decode cX8_tell 24 = .ok (.iload 5, 2) := by decide +kernel
theorem dX8_tell_26 : decode cX8_tell 26 = .ok (.iload 4, 2) := by decide +kernel
theorem dX8_tell_28 : decode cX8_tell 28 = .ok (.iastore, 1) := by decide +kernel
theorem dX8_tell_29 : decode cX8_tell 29 = .ok (.aload_n 0, 1) := by decide +kernel
theorem dX8_tell_30 : decode cX8_tell 30 = .ok (.getfield 15, 3) := by decide +kernel
theorem dX8_tell_33 : decode cX8_tell 33 = .ok (.iload 5, 2) := by decide +kernel
theorem dX8_tell_35 : decode cX8_tell 35 = .ok (.iload_n 3, 1) := by decide +kernel
theorem dX8_tell_36 : decode cX8_tell 36 = .ok (.iastore, 1) := by decide +kernel
