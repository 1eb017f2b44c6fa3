theorem dX12_readsCompared_52 : decode cX12_readsCompared 52 = .ok (.istore_n 1, 1) := by decide +kernel
theorem dX12_readsCompared_53 : decode cX12_readsCompared 53 = .ok (.iload_n 1, 1) := by decide +kernel
theorem dX12_readsCompared_54 : decode cX12_readsCompared 54 = .ok (.iconst (-1), 1) := by decide +kernel
theorem dX12_readsCompared_55 : decode cX12_readsCompared 55 = .ok (.if_icmp .ne 13, 3) := by decide +kernel
theorem dX12_readsCompared_58 : decode cX12_readsCompared 58 = .ok (.aload_n 0, 1) := by decide +kernel
theorem dX12_readsCompared_59 : decode cX12_readsCompared 59 = .ok (.iconst 1, 1) := by decide +kernel
theorem dX12_readsCompared_60 : decode cX12_readsCompared 60 = .ok (.aload_n 0, 1) := by decide +kernel
theorem dX12_readsCompared_61 : decode cX12_readsCompared 61 = .ok (.getfield 145, 3) := by decide +kernel
theorem dX12_readsCompared_64 : decode cX12_readsCompared 64 = .ok (.invokevirtual 158, 3) := by decide +kernel
theorem dX12_readsCompared_67 : decode cX12_readsCompared 67 = .ok (.ireturn, 1) := by decide +kernel
theorem dX12_readsCompared_68 : decode cX12_readsCompared 68 = .ok (.aload_n 0, 1) := by decide +kernel
theorem dX12_readsCompared_69 : decode cX12_readsCompared 69 = .ok (.aload_n 0, 1) := by decide +kernel
theorem dX12_readsCompared_70 : decode cX12_readsCompared 70 = .ok (.getfield 145, 3) := by decide +kernel
theorem dX12_readsCompared_73 : decode cX12_readsCompared 73 = .ok (.iconst 1, 1) := by decide +kernel
theorem dX12_readsCompared_74 : decode cX12_readsCompared 74 = .ok (.iadd, 1) := by decide +kernel
theorem dX12_readsCompared_75 : decode cX12_readsCompared 75 = .ok (.putfield 145, 3) := by decide +kernel
theorem dX12_readsCompared_78 : decode cX12_readsCompared 78 = .ok (.aload_n 0, 1) := by decide +kernel
theorem dX12_readsCompared_79 : decode cX12_readsCompared 79 = .ok (.invokevirtual 208, 3) := by decide +kernel
theorem dX12_readsCompared_82 : decode cX12_readsCompared 82 = .ok (.ifCond .ne 5, 3) := by decide +kernel
theorem dX12_readsCompared_85 : decode cX12_readsCompared 85 = .ok (.iconst 0, 1) := by decide +kernel
theorem dX12_readsCompared_86 : decode cX12_readsCompared 86 = .ok (.ireturn, 1) := by decide +kernel
theorem dX12_readsCompared_87 : decode cX12_readsCompared 87 = .ok (.aload_n 0, 1) := by decide +kernel
theorem dX12_readsCompared_88 : decode cX12_readsCompared 88 = .ok (.iload_n 1, 1) := by decide +kernel
theorem dX12_readsCompared_89 : decode cX12_readsCompared 89 = .ok (.iconst 0, 1) := by decide +kernel
theorem dX12_readsCompared_90 : decode cX12_readsCompared 90 = .ok (.invokevirtual 181, 3) := by decide +kernel
theorem dX12_readsCompared_93 : decode cX12_readsCompared 93 = .ok (.aload_n 0, 1) := by decide +kernel
theorem dX12_readsCompared_94 : decode cX12_readsCompared 94 = .ok (.invokevirtual 211, 3) := by decide +kernel
theorem dX12_readsCompared_97 : decode cX12_readsCompared 97 = .ok (.iconst 1, 1) := by decide +kernel
theorem dX12_readsCompared_98 : decode cX12_readsCompared 98 = .ok (.ireturn, 1) := by decide +kernel
theorem dX12_endsPiece_0 : decode cX12_endsPiece 0 = .ok (.aload_n 0, 1) := by decide +kernel
theorem dX12_endsPiece_1 : decode cX12_endsPiece 1 = .ok (.invokevirtual 178, 3) := by decide +kernel
theorem dX12_endsPiece_4 : decode cX12_endsPiece 4 = .ok (.bipush 10, 2) := by decide +kernel
theorem dX12_endsPiece_6 : decode cX12_endsPiece 6 = .ok (.if_icmp .ne 33, 3) := by decide +kernel
theorem dX12_endsPiece_9 : decode cX12_endsPiece 9 = .ok (.aload_n 0, 1) := by decide +kernel
theorem dX12_endsPiece_10 : decode cX12_endsPiece 10 = .ok (.bipush 10, 2) := by decide +kernel
theorem dX12_endsPiece_12 : decode cX12_endsPiece 12 = .ok (.iconst 0, 1) := by decide +kernel
theorem dX12_endsPiece_13 : decode cX12_endsPiece 13 = .ok (.invokevirtual 181, 3) := by decide +kernel
theorem dX12_endsPiece_16 : decode cX12_endsPiece 16 = .ok (.aload_n 0, 1) := by decide +kernel
theorem dX12_endsPiece_17 : decode cX12_endsPiece 17 = .ok (.aload_n 0, 1) := by decide +kernel
theorem dX12_endsPiece_18 : decode cX12_endsPiece 18 = .ok (.getfield 175, 3) := by decide +kernel
theorem dX12_endsPiece_21 : decode cX12_endsPiece 21 = .ok (.iconst 1, 1) := by decide +kernel
theorem dX12_endsPiece_22 : decode cX12_endsPiece 22 = .ok (.isub, 1) := by decide +kernel
theorem dX12_endsPiece_23 : decode cX12_endsPiece 23 = .ok (.putfield 175, 3) := by decide +kernel
theorem dX12_endsPiece_26 : decode cX12_endsPiece 26 = .ok (.aload_n 0, 1) := by decide +kernel
theorem dX12_endsPiece_27 : decode cX12_endsPiece 27 = .ok (.aload_n 0, 1) := by decide +kernel
theorem dX12_endsPiece_28 : decode cX12_endsPiece 28 = .ok (.getfield 172, 3) := by decide +kernel
theorem dX12_endsPiece_31 : decode cX12_endsPiece 31 = .ok (.iconst 1, 1) := by decide +kernel
theorem dX12_endsPiece_32 : decode cX12_endsPiece 32 = .ok (.isub, 1) := by decide +kernel
theorem dX12_endsPiece_33 : decode cX12_endsPiece 33 = .ok (.putfield 172, 3) := by decide +kernel
theorem dX12_endsPiece_36 : decode cX12_endsPiece 36 = .ok (.goto (-36), 3) := by decide +kernel
theorem dX12_endsPiece_39 : decode cX12_endsPiece 39 = .ok (.return_, 1) := by decide +kernel
theorem dX12_lands_0 : decode cX12_lands 0 = .ok (.aload_n 0, 1) := by decide +kernel
theorem dX12_lands_1 : decode cX12_lands 1 = .ok (.invokevirtual 178, 3) := by decide +kernel
theorem dX12_lands_4 : decode cX12_lands 4 = .ok (.bipush 11, 2) := by decide +kernel
theorem dX12_lands_6 : decode cX12_lands 6 = .ok (.if_icmp .eq 16, 3) := by decide +kernel
theorem dX12_lands_9 : decode cX12_lands 9 = .ok (.iload_n 1, 1) := by decide +kernel
theorem dX12_lands_10 : decode cX12_lands 10 = .ok (.ifCond .eq 63, 3) := by decide +kernel
theorem dX12_lands_13 : decode cX12_lands 13 = .ok (.aload_n 0, 1) := by decide +kernel
theorem dX12_lands_14 : decode cX12_lands 14 = .ok (.invokevirtual 178, 3) := by decide +kernel
theorem dX12_lands_17 : decode cX12_lands 17 = .ok (.bipush 12, 2) := by decide +kernel
theorem dX12_lands_19 : decode cX12_lands 19 = .ok (.if_icmp .ne 54, 3) := by decide +kernel
theorem dX12_lands_22 : decode cX12_lands 22 = .ok (.aload_n 0, 1) := by decide +kernel
theorem dX12_lands_23 : decode cX12_lands 23 = .ok (.getfield 35, 3) := by decide +kernel
theorem dX12_lands_26 : decode cX12_lands 26 = .ok (.aload_n 0, 1) := by decide +kernel
theorem dX12_lands_27 : decode cX12_lands 27 = .ok (.getfield 175, 3) := by decide +kernel
theorem dX12_lands_30 : decode cX12_lands 30 = .ok (.iconst 1, 1) := by decide +kernel
theorem dX12_lands_31 : decode cX12_lands 31 = .ok (.isub, 1) := by decide +kernel
theorem dX12_lands_32 : decode cX12_lands 32 = .ok (.iaload, 1) := by decide +kernel
theorem dX12_lands_33 : decode cX12_lands 33 = .ok (.ldc 171, 2) := by decide +kernel
theorem dX12_lands_35 : decode cX12_lands 35 = .ok (.irem, 1) := by decide +kernel
theorem dX12_lands_36 : decode cX12_lands 36 = .ok (.istore_n 2, 1) := by decide +kernel
theorem dX12_lands_37 : decode cX12_lands 37 = .ok (.aload_n 0, 1) := by decide +kernel
theorem dX12_lands_38 : decode cX12_lands 38 = .ok (.getfield 32, 3) := by decide +kernel
theorem dX12_lands_41 : decode cX12_lands 41 = .ok (.iload_n 2, 1) := by decide +kernel
theorem dX12_lands_42 : decode cX12_lands 42 = .ok (.ldc 171, 2) := by decide +kernel
theorem dX12_lands_44 : decode cX12_lands 44 = .ok (.aload_n 0, 1) := by decide +kernel
theorem dX12_lands_45 : decode cX12_lands 45 = .ok (.getfield 32, 3) := by decide +kernel
theorem dX12_lands_48 : decode cX12_lands 48 = .ok (.iload_n 2, 1) := by decide +kernel
theorem dX12_lands_49 : decode cX12_lands 49 = .ok (.iaload, 1) := by decide +kernel
theorem dX12_lands_50 : decode cX12_lands 50 = .ok (.ldc 171, 2) := by decide +kernel
theorem dX12_lands_52 : decode cX12_lands 52 = .ok (.idiv, 1) := by decide +kernel
theorem dX12_lands_53 : decode cX12_lands 53 = .ok (.imul, 1) := by decide +kernel
theorem dX12_lands_54 : decode cX12_lands 54 = .ok (.aload_n 0, 1) := by decide +kernel
theorem dX12_lands_55 : decode cX12_lands 55 = .ok (.getfield 168, 3) := by decide +kernel
theorem dX12_lands_58 : decode cX12_lands 58 = .ok (.iadd, 1) := by decide +kernel
theorem dX12_lands_59 : decode cX12_lands 59 = .ok (.iastore, 1) := by decide +kernel
theorem dX12_lands_60 : decode cX12_lands 60 = .ok (.aload_n 0, 1) := by decide +kernel
theorem dX12_lands_61 : decode cX12_lands 61 = .ok (.aload_n 0, 1) := by decide +kernel
theorem dX12_lands_62 : decode cX12_lands 62 = .ok (.getfield 175, 3) := by decide +kernel
theorem dX12_lands_65 : decode cX12_lands 65 = .ok (.iconst 1, 1) := by decide +kernel
theorem dX12_lands_66 : decode cX12_lands 66 = .ok (.isub, 1) := by decide +kernel
theorem dX12_lands_67 : decode cX12_lands 67 = .ok (.putfield 175, 3) := by decide +kernel
theorem dX12_lands_70 : decode cX12_lands 70 = .ok (.goto (-70), 3) := by decide +kernel
theorem dX12_lands_73 : decode cX12_lands 73 = .ok (.return_, 1) := by decide +kernel
theorem dX12_jumps_0 : decode cX12_jumps 0 = .ok (.aload_n 0, 1) := by decide +kernel
theorem dX12_jumps_1 : decode cX12_jumps 1 = .ok (.getfield 35, 3) := by decide +kernel
theorem dX12_jumps_4 : decode cX12_jumps 4 = .ok (.aload_n 0, 1) := by decide +kernel
theorem dX12_jumps_5 : decode cX12_jumps 5 = .ok (.getfield 175, 3) := by decide +kernel
theorem dX12_jumps_8 : decode cX12_jumps 8 = .ok (.ldc 171, 2) := by decide +kernel
theorem dX12_jumps_10 : decode cX12_jumps 10 = .ok (.iload_n 1, 1) := by decide +kernel
theorem dX12_jumps_11 : decode cX12_jumps 11 = .ok (.imul, 1) := by decide +kernel
theorem dX12_jumps_12 : decode cX12_jumps 12 = .ok (.aload_n 0, 1) := by decide +kernel
theorem dX12_jumps_13 : decode cX12_jumps 13 = .ok (.getfield 168, 3) := by decide +kernel
theorem dX12_jumps_16 : decode cX12_jumps 16 = .ok (.iadd, 1) := by decide +kernel
theorem dX12_jumps_17 : decode cX12_jumps 17 = .ok (.iastore, 1) := by decide +kernel
theorem dX12_jumps_18 : decode cX12_jumps 18 = .ok (.aload_n 0, 1) := by decide +kernel
theorem dX12_jumps_19 : decode cX12_jumps 19 = .ok (.aload_n 0, 1) := by decide +kernel
theorem dX12_jumps_20 : decode cX12_jumps 20 = .ok (.getfield 175, 3) := by decide +kernel
theorem dX12_jumps_23 : decode cX12_jumps 23 = .ok (.iconst 1, 1) := by decide +kernel
theorem dX12_jumps_24 : decode cX12_jumps 24 = .ok (.iadd, 1) := by decide +kernel
theorem dX12_jumps_25 : decode cX12_jumps 25 = .ok (.putfield 175, 3) := by decide +kernel
theorem dX12_jumps_28 : decode cX12_jumps 28 = .ok (.aload_n 0, 1) := by decide +kernel
theorem dX12_jumps_29 : decode cX12_jumps 29 = .ok (.iload_n 1, 1) := by decide +kernel
theorem dX12_jumps_30 : decode cX12_jumps 30 = .ok (.iconst 0, 1) := by decide +kernel
theorem dX12_jumps_31 : decode cX12_jumps 31 = .ok (.invokevirtual 181, 3) := by decide +kernel
theorem dX12_jumps_34 : decode cX12_jumps 34 = .ok (.aload_n 0, 1) := by decide +kernel
theorem dX12_jumps_35 : decode cX12_jumps 35 = .ok (.aload_n 0, 1) := by decide +kernel
theorem dX12_jumps_36 : decode cX12_jumps 36 = .ok (.getfield 145, 3) := by decide +kernel
theorem dX12_jumps_39 : decode cX12_jumps 39 = .ok (.iconst 1, 1) := by decide +kernel
theorem dX12_jumps_40 : decode cX12_jumps 40 = .ok (.iadd, 1) := by decide +kernel
theorem dX12_jumps_41 : decode cX12_jumps 41 = .ok (.putfield 145, 3) := by decide +kernel
theorem dX12_jumps_44 : decode cX12_jumps 44 = .ok (.return_, 1) := by decide +kernel
theorem dX12_takes_0 : decode cX12_takes 0 = .ok (.aload_n 0, 1) := by decide +kernel
theorem dX12_takes_1 : decode cX12_takes 1 = .ok (.invokevirtual 151, 3) := by decide +kernel
theorem dX12_takes_4 : decode cX12_takes 4 = .ok (.iload_n 1, 1) := by decide +kernel
theorem dX12_takes_5 : decode cX12_takes 5 = .ok (.if_icmp .eq 13, 3) := by decide +kernel
theorem dX12_takes_8 : decode cX12_takes 8 = .ok (.aload_n 0, 1) := by decide +kernel
theorem dX12_takes_9 : decode cX12_takes 9 = .ok (.iconst 1, 1) := by decide +kernel
theorem dX12_takes_10 : decode cX12_takes 10 = .ok (.aload_n 0, 1) := by decide +kernel
theorem dX12_takes_11 : decode cX12_takes 11 = .ok (.getfield 145, 3) := by decide +kernel
theorem dX12_takes_14 : decode cX12_takes 14 = .ok (.invokevirtual 158, 3) := by decide +kernel
theorem dX12_takes_17 : decode cX12_takes 17 = .ok (.ireturn, 1) := by decide +kernel
theorem dX12_takes_18 : decode cX12_takes 18 = .ok (.aload_n 0, 1) := by decide +kernel
theorem dX12_takes_19 : decode cX12_takes 19 = .ok (.aload_n 0, 1) := by decide +kernel
theorem dX12_takes_20 : decode cX12_takes 20 = .ok (.getfield 145, 3) := by decide +kernel
theorem dX12_takes_23 : decode cX12_takes 23 = .ok (.iconst 1, 1) := by decide +kernel
theorem dX12_takes_24 : decode cX12_takes 24 = .ok (.iadd, 1) := by decide +kernel
theorem dX12_takes_25 : decode cX12_takes 25 = .ok (.putfield 145, 3) := by decide +kernel
theorem dX12_takes_28 : decode cX12_takes 28 = .ok (.iconst 1, 1) := by decide +kernel
theorem dX12_takes_29 : decode cX12_takes 29 = .ok (.ireturn, 1) := by decide +kernel
theorem dX12_valley_0 : decode cX12_valley 0 = .ok (.iload_n 1, 1) := by decide +kernel
theorem dX12_valley_1 : decode cX12_valley 1 = .ok (.iconst 1, 1) := by decide +kernel
theorem dX12_valley_2 : decode cX12_valley 2 = .ok (.sipush 220, 3) := by decide +kernel
theorem dX12_valley_5 : decode cX12_valley 5 = .ok (.invokestatic 127, 3) := by decide +kernel
theorem dX12_valley_8 : decode cX12_valley 8 = .ok (.ifCond .eq 11, 3) := by decide +kernel
theorem dX12_valley_11 : decode cX12_valley 11 = .ok (.iload_n 1, 1) := by decide +kernel
theorem dX12_valley_12 : decode cX12_valley 12 = .ok (.aload_n 0, 1) := by decide +kernel
theorem dX12_valley_13 : decode cX12_valley 13 = .ok (.getfield 138, 3) := by decide +kernel
theorem dX12_valley_16 : decode cX12_valley 16 = .ok (.if_icmp .le 5, 3) := by decide +kernel
theorem dX12_valley_19 : decode cX12_valley 19 = .ok (.iconst (-1), 1) := by decide +kernel
theorem dX12_valley_20 : decode cX12_valley 20 = .ok (.ireturn, 1) := by decide +kernel
theorem dX12_valley_21 : decode cX12_valley 21 = .ok (.aload_n 0, 1) := by decide +kernel
theorem dX12_valley_22 : decode cX12_valley 22 = .ok (.iload_n 1, 1) := by decide +kernel
theorem dX12_valley_23 : decode cX12_valley 23 = .ok (.invokevirtual 229, 3) := by decide +kernel
theorem dX12_valley_26 : decode cX12_valley 26 = .ok (.aload_n 0, 1) := by decide +kernel
theorem dX12_valley_27 : decode cX12_valley 27 = .ok (.iconst 0, 1) := by decide +kernel
theorem dX12_valley_28 : decode cX12_valley 28 = .ok (.putfield 266, 3) := by decide +kernel
theorem dX12_valley_31 : decode cX12_valley 31 = .ok (.iconst 0, 1) := by decide +kernel
theorem dX12_valley_32 : decode cX12_valley 32 = .ok (.istore_n 2, 1) := by decide +kernel
theorem dX12_valley_33 : decode cX12_valley 33 = .ok (.iload_n 2, 1) := by decide +kernel
theorem dX12_valley_34 : decode cX12_valley 34 = .ok (.bipush 80, 2) := by decide +kernel
theorem dX12_valley_36 : decode cX12_valley 36 = .ok (.if_icmp .ge 26, 3) := by decide +kernel
theorem dX12_valley_39 : decode cX12_valley 39 = .ok (.aload_n 0, 1) := by decide +kernel
theorem dX12_valley_40 : decode cX12_valley 40 = .ok (.getfield 71, 3) := by decide +kernel
theorem dX12_valley_43 : decode cX12_valley 43 = .ok (.iload_n 2, 1) := by decide +kernel
theorem dX12_valley_44 : decode cX12_valley 44 = .ok (.iconst 0, 1) := by decide +kernel
theorem dX12_valley_45 : decode cX12_valley 45 = .ok (.iastore, 1) := by decide +kernel
theorem dX12_valley_46 : decode cX12_valley 46 = .ok (.aload_n 0, 1) := by decide +kernel
theorem dX12_valley_47 : decode cX12_valley 47 = .ok (.getfield 74, 3) := by decide +kernel
theorem dX12_valley_50 : decode cX12_valley 50 = .ok (.iload_n 2, 1) := by decide +kernel
theorem dX12_valley_51 : decode cX12_valley 51 = .ok (.iload_n 2, 1) := by decide +kernel
theorem dX12_valley_52 : decode cX12_valley 52 = .ok (.bipush 10, 2) := by decide +kernel
theorem dX12_valley_54 : decode cX12_valley 54 = .ok (.irem, 1) := by decide +kernel
theorem dX12_valley_55 : decode cX12_valley 55 = .ok (.iastore, 1) := by decide +kernel
theorem dX12_valley_56 : decode cX12_valley 56 = .ok (.iinc 2 1, 3) := by decide +kernel
theorem dX12_valley_59 : decode cX12_valley 59 = .ok (.goto (-26), 3) := by decide +kernel
theorem dX12_valley_62 : decode cX12_valley 62 = .ok (.aload_n 0, 1) := by decide +kernel
theorem dX12_valley_63 : decode cX12_valley 63 = .ok (.invokevirtual 272, 3) := by decide +kernel
theorem dX12_valley_66 : decode cX12_valley 66 = .ok (.istore_n 2, 1) := by decide +kernel
theorem dX12_valley_67 : decode cX12_valley 67 = .ok (.iload_n 2, 1) := by decide +kernel
theorem dX12_valley_68 : decode cX12_valley 68 = .ok (.ifCond .eq 22, 3) := by decide +kernel
theorem dX12_valley_71 : decode cX12_valley 71 = .ok (.aload_n 0, 1) := by decide +kernel
theorem dX12_valley_72 : decode cX12_valley 72 = .ok (.getfield 145, 3) := by decide +kernel
theorem dX12_valley_75 : decode cX12_valley 75 = .ok (.aload_n 0, 1) := by decide +kernel
theorem dX12_valley_76 : decode cX12_valley 76 = .ok (.getfield 148, 3) := by decide +kernel
theorem dX12_valley_79 : decode cX12_valley 79 = .ok (.if_icmp .ge 11, 3) := by decide +kernel
theorem dX12_valley_82 : decode cX12_valley 82 = .ok (.aload_n 0, 1) := by decide +kernel
theorem dX12_valley_83 : decode cX12_valley 83 = .ok (.invokevirtual 275, 3) := by decide +kernel
theorem dX12_valley_86 : decode cX12_valley 86 = .ok (.istore_n 2, 1) := by decide +kernel
theorem dX12_valley_87 : decode cX12_valley 87 = .ok (.goto (-20), 3) := by decide +kernel
theorem dX12_valley_90 : decode cX12_valley 90 = .ok (.aload_n 0, 1) := by decide +kernel
theorem dX12_valley_91 : decode cX12_valley 91 = .ok (.iconst 0, 1) := by decide +kernel
theorem dX12_valley_92 : decode cX12_valley 92 = .ok (.putfield 138, 3) := by decide +kernel
theorem dX12_valley_95 : decode cX12_valley 95 = .ok (.iload_n 2, 1) := by decide +kernel
theorem dX12_valley_96 : decode cX12_valley 96 = .ok (.ifCond .ne 8, 3) := by decide +kernel
theorem dX12_valley_99 : decode cX12_valley 99 = .ok (.aload_n 0, 1) := by decide +kernel
theorem dX12_valley_100 : decode cX12_valley 100 = .ok (.getfield 155, 3) := by decide +kernel
theorem dX12_valley_103 : decode cX12_valley 103 = .ok (.ireturn, 1) := by decide +kernel
theorem dX12_valley_104 : decode cX12_valley 104 = .ok (.aload_n 0, 1) := by decide +kernel
theorem dX12_valley_105 : decode cX12_valley 105 = .ok (.aload_n 0, 1) := by decide +kernel
theorem dX12_valley_106 : decode cX12_valley 106 = .ok (.getfield 249, 3) := by decide +kernel
theorem dX12_valley_109 : decode cX12_valley 109 = .ok (.putfield 123, 3) := by decide +kernel
theorem dX12_valley_112 : decode cX12_valley 112 = .ok (.iconst 0, 1) := by decide +kernel
theorem dX12_valley_113 : decode cX12_valley 113 = .ok (.istore_n 3, 1) := by decide +kernel
theorem dX12_valley_114 : decode cX12_valley 114 = .ok (.iload_n 3, 1) := by decide +kernel
theorem dX12_valley_115 : decode cX12_valley 115 = .ok (.bipush 80, 2) := by decide +kernel
theorem dX12_valley_117 : decode cX12_valley 117 = .ok (.if_icmp .ge 33, 3) := by decide +kernel
theorem dX12_valley_120 : decode cX12_valley 120 = .ok (.aload_n 0, 1) := by decide +kernel
theorem dX12_valley_121 : decode cX12_valley 121 = .ok (.getfield 22, 3) := by decide +kernel
theorem dX12_valley_124 : decode cX12_valley 124 = .ok (.iload_n 3, 1) := by decide +kernel
theorem dX12_valley_125 : decode cX12_valley 125 = .ok (.aload_n 0, 1) := by decide +kernel
theorem dX12_valley_126 : decode cX12_valley 126 = .ok (.getfield 71, 3) := by decide +kernel
theorem dX12_valley_129 : decode cX12_valley 129 = .ok (.iload_n 3, 1) := by decide +kernel
theorem dX12_valley_130 : decode cX12_valley 130 = .ok (.iaload, 1) := by decide +kernel
theorem dX12_valley_131 : decode cX12_valley 131 = .ok (.iastore, 1) := by decide +kernel
theorem dX12_valley_132 : decode cX12_valley 132 = .ok (.aload_n 0, 1) := by decide +kernel
theorem dX12_valley_133 : decode cX12_valley 133 = .ok (.getfield 25, 3) := by decide +kernel
theorem dX12_valley_136 : decode cX12_valley 136 = .ok (.iload_n 3, 1) := by decide +kernel
theorem dX12_valley_137 : decode cX12_valley 137 = .ok (.aload_n 0, 1) := by decide +kernel
theorem dX12_valley_138 : decode cX12_valley 138 = .ok (.getfield 74, 3) := by decide +kernel
theorem dX12_valley_141 : decode cX12_valley 141 = .ok (.iload_n 3, 1) := by decide +kernel
theorem dX12_valley_142 : decode cX12_valley 142 = .ok (.iaload, 1) := by decide +kernel
theorem dX12_valley_143 : decode cX12_valley 143 = .ok (.iastore, 1) := by decide +kernel
theorem dX12_valley_144 : decode cX12_valley 144 = .ok (.iinc 3 1, 3) := by decide +kernel
theorem dX12_valley_147 : decode cX12_valley 147 = .ok (.goto (-33), 3) := by decide +kernel
theorem dX12_valley_150 : decode cX12_valley 150 = .ok (.aload_n 0, 1) := by decide +kernel
theorem dX12_valley_151 : decode cX12_valley 151 = .ok (.getfield 7, 3) := by decide +kernel
theorem dX12_valley_154 : decode cX12_valley 154 = .ok (.iconst 0, 1) := by decide +kernel
theorem dX12_valley_155 : decode cX12_valley 155 = .ok (.iconst 0, 1) := by decide +kernel
theorem dX12_valley_156 : decode cX12_valley 156 = .ok (.iastore, 1) := by decide +kernel
theorem dX12_valley_157 : decode cX12_valley 157 = .ok (.aload_n 0, 1) := by decide +kernel
theorem dX12_valley_158 : decode cX12_valley 158 = .ok (.getfield 7, 3) := by decide +kernel
theorem dX12_valley_161 : decode cX12_valley 161 = .ok (.iconst 1, 1) := by decide +kernel
theorem dX12_valley_162 : decode cX12_valley 162 = .ok (.iconst 0, 1) := by decide +kernel
theorem dX12_valley_163 : decode cX12_valley 163 = .ok (.iastore, 1) := by decide +kernel
theorem dX12_valley_164 : decode cX12_valley 164 = .ok (.aload_n 0, 1) := by decide +kernel
theorem dX12_valley_165 : decode cX12_valley 165 = .ok (.getfield 7, 3) := by decide +kernel
theorem dX12_valley_168 : decode cX12_valley 168 = .ok (.iconst 2, 1) := by decide +kernel
theorem dX12_valley_169 : decode cX12_valley 169 = .ok (.bipush 8, 2) := by decide +kernel
theorem dX12_valley_171 : decode cX12_valley 171 = .ok (.iastore, 1) := by decide +kernel
theorem dX12_valley_172 : decode cX12_valley 172 = .ok (.aload_n 0, 1) := by decide +kernel
theorem dX12_valley_173 : decode cX12_valley 173 = .ok (.getfield 123, 3) := by decide +kernel
theorem dX12_valley_176 : decode cX12_valley 176 = .ok (.ireturn, 1) := by decide +kernel
theorem dX12_readsStates_0 : decode cX12_readsStates 0 = .ok (.aload_n 0, 1) := by decide +kernel
theorem dX12_readsStates_1 : decode cX12_readsStates 1 = .ok (.getfield 145, 3) := by decide +kernel
theorem dX12_readsStates_4 : decode cX12_readsStates 4 = .ok (.istore_n 1, 1) := by decide +kernel
theorem dX12_readsStates_5 : decode cX12_readsStates 5 = .ok (.aload_n 0, 1) := by decide +kernel
theorem dX12_readsStates_6 : decode cX12_readsStates 6 = .ok (.invokevirtual 164, 3) := by decide +kernel
theorem dX12_readsStates_9 : decode cX12_readsStates 9 = .ok (.ifCond .ne 13, 3) := by decide +kernel
theorem dX12_readsStates_12 : decode cX12_readsStates 12 = .ok (.aload_n 0, 1) := by decide +kernel
theorem dX12_readsStates_13 : decode cX12_readsStates 13 = .ok (.iconst 1, 1) := by decide +kernel
theorem dX12_readsStates_14 : decode cX12_readsStates 14 = .ok (.aload_n 0, 1) := by decide +kernel
theorem dX12_readsStates_15 : decode cX12_readsStates 15 = .ok (.getfield 145, 3) := by decide +kernel
theorem dX12_readsStates_18 : decode cX12_readsStates 18 = .ok (.invokevirtual 158, 3) := by decide +kernel
theorem dX12_readsStates_21 : decode cX12_readsStates 21 = .ok (.ireturn, 1) := by decide +kernel
theorem dX12_readsStates_22 : decode cX12_readsStates 22 = .ok (.aload_n 0, 1) := by decide +kernel
theorem dX12_readsStates_23 : decode cX12_readsStates 23 = .ok (.iconst 0, 1) := by decide +kernel
theorem dX12_readsStates_24 : decode cX12_readsStates 24 = .ok (.putfield 249, 3) := by decide +kernel
theorem dX12_readsStates_27 : decode cX12_readsStates 27 = .ok (.aload_n 0, 1) := by decide +kernel
theorem dX12_readsStates_28 : decode cX12_readsStates 28 = .ok (.invokevirtual 164, 3) := by decide +kernel
theorem dX12_readsStates_31 : decode cX12_readsStates 31 = .ok (.ifCond .eq 55, 3) := by decide +kernel
theorem dX12_readsStates_34 : decode cX12_readsStates 34 = .ok (.aload_n 0, 1) := by decide +kernel
theorem dX12_readsStates_35 : decode cX12_readsStates 35 = .ok (.getfield 145, 3) := by decide +kernel
theorem dX12_readsStates_38 : decode cX12_readsStates 38 = .ok (.iload_n 1, 1) := by decide +kernel
theorem dX12_readsStates_39 : decode cX12_readsStates 39 = .ok (.iconst 2, 1) := by decide +kernel
theorem dX12_readsStates_40 : decode cX12_readsStates 40 = .ok (.iadd, 1) := by decide +kernel
theorem dX12_readsStates_41 : decode cX12_readsStates 41 = .ok (.if_icmp .ne 13, 3) := by decide +kernel
theorem dX12_readsStates_44 : decode cX12_readsStates 44 = .ok (.aload_n 0, 1) := by decide +kernel
theorem dX12_readsStates_45 : decode cX12_readsStates 45 = .ok (.iconst 2, 1) := by decide +kernel
theorem dX12_readsStates_46 : decode cX12_readsStates 46 = .ok (.aload_n 0, 1) := by decide +kernel
theorem dX12_readsStates_47 : decode cX12_readsStates 47 = .ok (.getfield 145, 3) := by decide +kernel
theorem dX12_readsStates_50 : decode cX12_readsStates 50 = .ok (.invokevirtual 158, 3) := by decide +kernel
theorem dX12_readsStates_53 : decode cX12_readsStates 53 = .ok (.ireturn, 1) := by decide +kernel
theorem dX12_readsStates_54 : decode cX12_readsStates 54 = .ok (.aload_n 0, 1) := by decide +kernel
theorem dX12_readsStates_55 : decode cX12_readsStates 55 = .ok (.bipush 10, 2) := by decide +kernel
theorem dX12_readsStates_57 : decode cX12_readsStates 57 = .ok (.aload_n 0, 1) := by decide +kernel
theorem dX12_readsStates_58 : decode cX12_readsStates 58 = .ok (.getfield 249, 3) := by decide +kernel
theorem dX12_readsStates_61 : decode cX12_readsStates 61 = .ok (.imul, 1) := by decide +kernel
theorem dX12_readsStates_62 : decode cX12_readsStates 62 = .ok (.aload_n 0, 1) := by decide +kernel
theorem dX12_readsStates_63 : decode cX12_readsStates 63 = .ok (.invokevirtual 151, 3) := by decide +kernel
theorem dX12_readsStates_66 : decode cX12_readsStates 66 = .ok (.iadd, 1) := by decide +kernel
theorem dX12_readsStates_67 : decode cX12_readsStates 67 = .ok (.bipush 48, 2) := by decide +kernel
theorem dX12_readsStates_69 : decode cX12_readsStates 69 = .ok (.isub, 1) := by decide +kernel
theorem dX12_readsStates_70 : decode cX12_readsStates 70 = .ok (.putfield 249, 3) := by decide +kernel
theorem dX12_readsStates_73 : decode cX12_readsStates 73 = .ok (.aload_n 0, 1) := by decide +kernel
theorem dX12_readsStates_74 : decode cX12_readsStates 74 = .ok (.aload_n 0, 1) := by decide +kernel
theorem dX12_readsStates_75 : decode cX12_readsStates 75 = .ok (.getfield 145, 3) := by decide +kernel
theorem dX12_readsStates_78 : decode cX12_readsStates 78 = .ok (.iconst 1, 1) := by decide +kernel
theorem dX12_readsStates_79 : decode cX12_readsStates 79 = .ok (.iadd, 1) := by decide +kernel
theorem dX12_readsStates_80 : decode cX12_readsStates 80 = .ok (.putfield 145, 3) := by decide +kernel
theorem dX12_readsStates_83 : decode cX12_readsStates 83 = .ok (.goto (-56), 3) := by decide +kernel
theorem dX12_readsStates_86 : decode cX12_readsStates 86 = .ok (.aload_n 0, 1) := by decide +kernel
theorem dX12_readsStates_87 : decode cX12_readsStates 87 = .ok (.getfield 249, 3) := by decide +kernel
theorem dX12_readsStates_90 : decode cX12_readsStates 90 = .ok (.iconst 2, 1) := by decide +kernel
theorem dX12_readsStates_91 : decode cX12_readsStates 91 = .ok (.bipush 10, 2) := by decide +kernel
theorem dX12_readsStates_93 : decode cX12_readsStates 93 = .ok (.invokestatic 127, 3) := by decide +kernel
theorem dX12_readsStates_96 : decode cX12_readsStates 96 = .ok (.ifCond .ne 12, 3) := by decide +kernel
theorem dX12_readsStates_99 : decode cX12_readsStates 99 = .ok (.aload_n 0, 1) := by decide +kernel
theorem dX12_readsStates_100 : decode cX12_readsStates 100 = .ok (.iconst 3, 1) := by decide +kernel
theorem dX12_readsStates_101 : decode cX12_readsStates 101 = .ok (.iload_n 1, 1) := by decide +kernel
theorem dX12_readsStates_102 : decode cX12_readsStates 102 = .ok (.invokevirtual 158, 3) := by decide +kernel
theorem dX12_readsStates_105 : decode cX12_readsStates 105 = .ok (.ifCond .eq 7, 3) := by decide +kernel
theorem dX12_readsStates_108 : decode cX12_readsStates 108 = .ok (.iconst 1, 1) := by decide +kernel
theorem dX12_readsStates_109 : decode cX12_readsStates 109 = .ok (.goto 4, 3) := by decide +kernel
theorem dX12_readsStates_112 : decode cX12_readsStates 112 = .ok (.iconst 0, 1) := by decide +kernel
theorem dX12_readsStates_113 : decode cX12_readsStates 113 = .ok (.ireturn, 1) := by decide +kernel
theorem dX12_readsLine_0 : decode cX12_readsLine 0 = .ok (.aload_n 0, 1) := by decide +kernel
theorem dX12_readsLine_1 : decode cX12_readsLine 1 = .ok (.bipush 59, 2) := by decide +kernel
theorem dX12_readsLine_3 : decode cX12_readsLine 3 = .ok (.invokevirtual 235, 3) := by decide +kernel
theorem dX12_readsLine_6 : decode cX12_readsLine 6 = .ok (.ifCond .ne 5, 3) := by decide +kernel
theorem dX12_readsLine_9 : decode cX12_readsLine 9 = .ok (.iconst 0, 1) := by decide +kernel
theorem dX12_readsLine_10 : decode cX12_readsLine 10 = .ok (.ireturn, 1) := by decide +kernel
theorem dX12_readsLine_11 : decode cX12_readsLine 11 = .ok (.aload_n 0, 1) := by decide +kernel
theorem dX12_readsLine_12 : decode cX12_readsLine 12 = .ok (.invokevirtual 263, 3) := by decide +kernel
theorem dX12_readsLine_15 : decode cX12_readsLine 15 = .ok (.ifCond .ne 13, 3) := by decide +kernel
theorem dX12_readsLine_18 : decode cX12_readsLine 18 = .ok (.aload_n 0, 1) := by decide +kernel
theorem dX12_readsLine_19 : decode cX12_readsLine 19 = .ok (.iconst 1, 1) := by decide +kernel
theorem dX12_readsLine_20 : decode cX12_readsLine 20 = .ok (.aload_n 0, 1) := by decide +kernel
theorem dX12_readsLine_21 : decode cX12_readsLine 21 = .ok (.getfield 145, 3) := by decide +kernel
theorem dX12_readsLine_24 : decode cX12_readsLine 24 = .ok (.invokevirtual 158, 3) := by decide +kernel
theorem dX12_readsLine_27 : decode cX12_readsLine 27 = .ok (.ireturn, 1) := by decide +kernel
theorem dX12_readsLine_28 : decode cX12_readsLine 28 = .ok (.aload_n 0, 1) := by decide +kernel
theorem dX12_readsLine_29 : decode cX12_readsLine 29 = .ok (.invokevirtual 151, 3) := by decide +kernel
theorem dX12_readsLine_32 : decode cX12_readsLine 32 = .ok (.bipush 97, 2) := by decide +kernel
theorem dX12_readsLine_34 : decode cX12_readsLine 34 = .ok (.isub, 1) := by decide +kernel
theorem dX12_readsLine_35 : decode cX12_readsLine 35 = .ok (.istore_n 1, 1) := by decide +kernel
theorem dX12_readsLine_36 : decode cX12_readsLine 36 = .ok (.aload_n 0, 1) := by decide +kernel
theorem dX12_readsLine_37 : decode cX12_readsLine 37 = .ok (.getfield 266, 3) := by decide +kernel
theorem dX12_readsLine_40 : decode cX12_readsLine 40 = .ok (.iload_n 1, 1) := by decide +kernel
theorem dX12_readsLine_41 : decode cX12_readsLine 41 = .ok (.invokestatic 119, 3) := by decide +kernel
theorem dX12_readsLine_44 : decode cX12_readsLine 44 = .ok (.ifCond .eq 14, 3) := by decide +kernel
theorem dX12_readsLine_47 : decode cX12_readsLine 47 = .ok (.aload_n 0, 1) := by decide +kernel
theorem dX12_readsLine_48 : decode cX12_readsLine 48 = .ok (.bipush 6, 2) := by decide +kernel
theorem dX12_readsLine_50 : decode cX12_readsLine 50 = .ok (.aload_n 0, 1) := by decide +kernel
theorem dX12_readsLine_51 : decode cX12_readsLine 51 = .ok (.getfield 145, 3) := by decide +kernel
theorem dX12_readsLine_54 : decode cX12_readsLine 54 = .ok (.invokevirtual 158, 3) := by decide +kernel
theorem dX12_readsLine_57 : decode cX12_readsLine 57 = .ok (.ireturn, 1) := by decide +kernel
theorem dX12_readsLine_58 : decode cX12_readsLine 58 = .ok (.aload_n 0, 1) := by decide +kernel
theorem dX12_readsLine_59 : decode cX12_readsLine 59 = .ok (.aload_n 0, 1) := by decide +kernel
theorem dX12_readsLine_60 : decode cX12_readsLine 60 = .ok (.getfield 266, 3) := by decide +kernel
theorem dX12_readsLine_63 : decode cX12_readsLine 63 = .ok (.iconst 1, 1) := by decide +kernel
theorem dX12_readsLine_64 : decode cX12_readsLine 64 = .ok (.iload_n 1, 1) := by decide +kernel
theorem dX12_readsLine_65 : decode cX12_readsLine 65 = .ok (.ishl, 1) := by decide +kernel
theorem dX12_readsLine_66 : decode cX12_readsLine 66 = .ok (.ior, 1) := by decide +kernel
theorem dX12_readsLine_67 : decode cX12_readsLine 67 = .ok (.putfield 266, 3) := by decide +kernel
theorem dX12_readsLine_70 : decode cX12_readsLine 70 = .ok (.aload_n 0, 1) := by decide +kernel
theorem dX12_readsLine_71 : decode cX12_readsLine 71 = .ok (.aload_n 0, 1) := by decide +kernel
theorem dX12_readsLine_72 : decode cX12_readsLine 72 = .ok (.getfield 145, 3) := by decide +kernel
theorem dX12_readsLine_75 : decode cX12_readsLine 75 = .ok (.iconst 1, 1) := by decide +kernel
theorem dX12_readsLine_76 : decode cX12_readsLine 76 = .ok (.iadd, 1) := by decide +kernel
theorem dX12_readsLine_77 : decode cX12_readsLine 77 = .ok (.putfield 145, 3) := by decide +kernel
theorem dX12_readsLine_80 : decode cX12_readsLine 80 = .ok (.aload_n 0, 1) := by decide +kernel
theorem dX12_readsLine_81 : decode cX12_readsLine 81 = .ok (.bipush 58, 2) := by decide +kernel
theorem dX12_readsLine_83 : decode cX12_readsLine 83 = .ok (.invokevirtual 235, 3) := by decide +kernel
theorem dX12_readsLine_86 : decode cX12_readsLine 86 = .ok (.ifCond .ne 5, 3) := by decide +kernel
theorem dX12_readsLine_89 : decode cX12_readsLine 89 = .ok (.iconst 0, 1) := by decide +kernel
theorem dX12_readsLine_90 : decode cX12_readsLine 90 = .ok (.ireturn, 1) := by decide +kernel
theorem dX12_readsLine_91 : decode cX12_readsLine 91 = .ok (.aload_n 0, 1) := by decide +kernel
theorem dX12_readsLine_92 : decode cX12_readsLine 92 = .ok (.iconst 0, 1) := by decide +kernel
theorem dX12_readsLine_93 : decode cX12_readsLine 93 = .ok (.putfield 252, 3) := by decide +kernel
theorem dX12_readsLine_96 : decode cX12_readsLine 96 = .ok (.aload_n 0, 1) := by decide +kernel
theorem dX12_readsLine_97 : decode cX12_readsLine 97 = .ok (.iconst 0, 1) := by decide +kernel
theorem dX12_readsLine_98 : decode cX12_readsLine 98 = .ok (.putfield 255, 3) := by decide +kernel
theorem dX12_readsLine_101 : decode cX12_readsLine 101 = .ok (.aload_n 0, 1) := by decide +kernel
theorem dX12_readsLine_102 : decode cX12_readsLine 102 = .ok (.iload_n 1, 1) := by decide +kernel
theorem dX12_readsLine_103 : decode cX12_readsLine 103 = .ok (.invokevirtual 269, 3) := by decide +kernel
theorem dX12_readsLine_106 : decode cX12_readsLine 106 = .ok (.istore_n 2, 1) := by decide +kernel
theorem dX12_readsLine_107 : decode cX12_readsLine 107 = .ok (.iload_n 2, 1) := by decide +kernel
theorem dX12_readsLine_108 : decode cX12_readsLine 108 = .ok (.ifCond .eq 31, 3) := by decide +kernel
theorem dX12_readsLine_111 : decode cX12_readsLine 111 = .ok (.aload_n 0, 1) := by decide +kernel
theorem dX12_readsLine_112 : decode cX12_readsLine 112 = .ok (.invokevirtual 151, 3) := by decide +kernel
theorem dX12_readsLine_115 : decode cX12_readsLine 115 = .ok (.bipush 44, 2) := by decide +kernel
theorem dX12_readsLine_117 : decode cX12_readsLine 117 = .ok (.if_icmp .ne 22, 3) := by decide +kernel
theorem dX12_readsLine_120 : decode cX12_readsLine 120 = .ok (.aload_n 0, 1) := by decide +kernel
theorem dX12_readsLine_121 : decode cX12_readsLine 121 = .ok (.aload_n 0, 1) := by decide +kernel
theorem dX12_readsLine_122 : decode cX12_readsLine 122 = .ok (.getfield 145, 3) := by decide +kernel
theorem dX12_readsLine_125 : decode cX12_readsLine 125 = .ok (.iconst 1, 1) := by decide +kernel
theorem dX12_readsLine_126 : decode cX12_readsLine 126 = .ok (.iadd, 1) := by decide +kernel
theorem dX12_readsLine_127 : decode cX12_readsLine 127 = .ok (.putfield 145, 3) := by decide +kernel
theorem dX12_readsLine_130 : decode cX12_readsLine 130 = .ok (.aload_n 0, 1) := by decide +kernel
theorem dX12_readsLine_131 : decode cX12_readsLine 131 = .ok (.iload_n 1, 1) := by decide +kernel
theorem dX12_readsLine_132 : decode cX12_readsLine 132 = .ok (.invokevirtual 269, 3) := by decide +kernel
theorem dX12_readsLine_135 : decode cX12_readsLine 135 = .ok (.istore_n 2, 1) := by decide +kernel
theorem dX12_readsLine_136 : decode cX12_readsLine 136 = .ok (.goto (-29), 3) := by decide +kernel
theorem dX12_readsLine_139 : decode cX12_readsLine 139 = .ok (.iload_n 2, 1) := by decide +kernel
theorem dX12_readsLine_140 : decode cX12_readsLine 140 = .ok (.ireturn, 1) := by decide +kernel
theorem dX12_isLetter_0 : decode cX12_isLetter 0 = .ok (.aload_n 0, 1) := by decide +kernel
theorem dX12_isLetter_1 : decode cX12_isLetter 1 = .ok (.invokevirtual 151, 3) := by decide +kernel
theorem dX12_isLetter_4 : decode cX12_isLetter 4 = .ok (.bipush 97, 2) := by decide +kernel
theorem dX12_isLetter_6 : decode cX12_isLetter 6 = .ok (.isub, 1) := by decide +kernel
theorem dX12_isLetter_7 : decode cX12_isLetter 7 = .ok (.iconst 0, 1) := by decide +kernel
theorem dX12_isLetter_8 : decode cX12_isLetter 8 = .ok (.bipush 7, 2) := by decide +kernel
theorem dX12_isLetter_10 : decode cX12_isLetter 10 = .ok (.invokestatic 127, 3) := by decide +kernel
theorem dX12_isLetter_13 : decode cX12_isLetter 13 = .ok (.ireturn, 1) := by decide +kernel
theorem dX12_has_0 : decode cX12_has 0 = .ok (.iload_n 0, 1) := by decide +kernel
theorem dX12_has_1 : decode cX12_has 1 = .ok (.iload_n 1, 1) := by decide +kernel
theorem dX12_has_2 : decode cX12_has 2 = .ok (.ishr, 1) := by decide +kernel
theorem dX12_has_3 : decode cX12_has 3 = .ok (.iconst 1, 1) := by decide +kernel
theorem dX12_has_4 : decode cX12_has 4 = .ok (.iand, 1) := by decide +kernel
theorem dX12_has_5 : decode cX12_has 5 = .ok (.iconst 1, 1) := by decide +kernel
theorem dX12_has_6 : decode cX12_has 6 = .ok (.if_icmp .ne 7, 3) := by decide +kernel
theorem dX12_has_9 : decode cX12_has 9 = .ok (.iconst 1, 1) := by decide +kernel
theorem dX12_has_10 : decode cX12_has 10 = .ok (.goto 4, 3) := by decide +kernel
theorem dX12_has_13 : decode cX12_has 13 = .ok (.iconst 0, 1) := by decide +kernel
theorem dX12_has_14 : decode cX12_has 14 = .ok (.ireturn, 1) := by decide +kernel
theorem dX12_readsStateRule_0 : decode cX12_readsStateRule 0 = .ok (.aload_n 0, 1) := by decide +kernel
theorem dX12_readsStateRule_1 : decode cX12_readsStateRule 1 = .ok (.invokevirtual 151, 3) := by decide +kernel
theorem dX12_readsStateRule_4 : decode cX12_readsStateRule 4 = .ok (.bipush 42, 2) := by decide +kernel
theorem dX12_readsStateRule_6 : decode cX12_readsStateRule 6 = .ok (.if_icmp .ne 7, 3) := by decide +kernel
theorem dX12_readsStateRule_9 : decode cX12_readsStateRule 9 = .ok (.iconst (-1), 1) := by decide +kernel
theorem dX12_readsStateRule_10 : decode cX12_readsStateRule 10 = .ok (.goto 10, 3) := by decide +kernel
theorem dX12_readsStateRule_13 : decode cX12_readsStateRule 13 = .ok (.aload_n 0, 1) := by decide +kernel
theorem dX12_readsStateRule_14 : decode cX12_readsStateRule 14 = .ok (.invokevirtual 151, 3) := by decide +kernel
theorem dX12_readsStateRule_17 : decode cX12_readsStateRule 17 = .ok (.bipush 48, 2) := by decide +kernel
theorem dX12_readsStateRule_19 : decode cX12_readsStateRule 19 = .ok (.isub, 1) := by decide +kernel
theorem dX12_readsStateRule_20 : decode cX12_readsStateRule 20 = .ok (.istore_n 2, 1) := by decide +kernel
theorem dX12_readsStateRule_21 : decode cX12_readsStateRule 21 = .ok (.iload_n 2, 1) := by decide +kernel
theorem dX12_readsStateRule_22 : decode cX12_readsStateRule 22 = .ok (.iconst (-1), 1) := by decide +kernel
theorem dX12_readsStateRule_23 : decode cX12_readsStateRule 23 = .ok (.if_icmp .eq 20, 3) := by decide +kernel
theorem dX12_readsStateRule_26 : decode cX12_readsStateRule 26 = .ok (.aload_n 0, 1) := by decide +kernel
theorem dX12_readsStateRule_27 : decode cX12_readsStateRule 27 = .ok (.invokevirtual 164, 3) := by decide +kernel
theorem dX12_readsStateRule_30 : decode cX12_readsStateRule 30 = .ok (.ifCond .ne 13, 3) := by decide +kernel
theorem dX12_readsStateRule_33 : decode cX12_readsStateRule 33 = .ok (.aload_n 0, 1) := by decide +kernel
theorem dX12_readsStateRule_34 : decode cX12_readsStateRule 34 = .ok (.iconst 1, 1) := by decide +kernel
theorem dX12_readsStateRule_35 : decode cX12_readsStateRule 35 = .ok (.aload_n 0, 1) := by decide +kernel
theorem dX12_readsStateRule_36 : decode cX12_readsStateRule 36 = .ok (.getfield 145, 3) := by decide +kernel
theorem dX12_readsStateRule_39 : decode cX12_readsStateRule 39 = .ok (.invokevirtual 158, 3) := by decide +kernel
theorem dX12_readsStateRule_42 : decode cX12_readsStateRule 42 = .ok (.ireturn, 1) := by decide +kernel
theorem dX12_readsStateRule_43 : decode cX12_readsStateRule 43 = .ok (.iload_n 2, 1) := by decide +kernel
theorem dX12_readsStateRule_44 : decode cX12_readsStateRule 44 = .ok (.aload_n 0, 1) := by decide +kernel
theorem dX12_readsStateRule_45 : decode cX12_readsStateRule 45 = .ok (.getfield 249, 3) := by decide +kernel
theorem dX12_readsStateRule_48 : decode cX12_readsStateRule 48 = .ok (.if_icmp .lt 13, 3) := by decide +kernel
theorem dX12_readsStateRule_51 : decode cX12_readsStateRule 51 = .ok (.aload_n 0, 1) := by decide +kernel
theorem dX12_readsStateRule_52 : decode cX12_readsStateRule 52 = .ok (.iconst 3, 1) := by decide +kernel
theorem dX12_readsStateRule_53 : decode cX12_readsStateRule 53 = .ok (.aload_n 0, 1) := by decide +kernel
theorem dX12_readsStateRule_54 : decode cX12_readsStateRule 54 = .ok (.getfield 145, 3) := by decide +kernel
theorem dX12_readsStateRule_57 : decode cX12_readsStateRule 57 = .ok (.invokevirtual 158, 3) := by decide +kernel
theorem dX12_readsStateRule_60 : decode cX12_readsStateRule 60 = .ok (.ireturn, 1) := by decide +kernel
theorem dX12_readsStateRule_61 : decode cX12_readsStateRule 61 = .ok (.aload_n 0, 1) := by decide +kernel
theorem dX12_readsStateRule_62 : decode cX12_readsStateRule 62 = .ok (.getfield 255, 3) := by decide +kernel
theorem dX12_readsStateRule_65 : decode cX12_readsStateRule 65 = .ok (.ifCond .ne 19, 3) := by decide +kernel
theorem dX12_readsStateRule_68 : decode cX12_readsStateRule 68 = .ok (.iload_n 2, 1) := by decide +kernel
theorem dX12_readsStateRule_69 : decode cX12_readsStateRule 69 = .ok (.iconst (-1), 1) := by decide +kernel
theorem dX12_readsStateRule_70 : decode cX12_readsStateRule 70 = .ok (.if_icmp .eq 25, 3) := by decide +kernel
theorem dX12_readsStateRule_73 : decode cX12_readsStateRule 73 = .ok (.aload_n 0, 1) := by decide +kernel
theorem dX12_readsStateRule_74 : decode cX12_readsStateRule 74 = .ok (.getfield 252, 3) := by decide +kernel
theorem dX12_readsStateRule_77 : decode cX12_readsStateRule 77 = .ok (.iload_n 2, 1) := by decide +kernel
theorem dX12_readsStateRule_78 : decode cX12_readsStateRule 78 = .ok (.invokestatic 119, 3) := by decide +kernel
theorem dX12_readsStateRule_81 : decode cX12_readsStateRule 81 = .ok (.ifCond .eq 14, 3) := by decide +kernel
theorem dX12_readsStateRule_84 : decode cX12_readsStateRule 84 = .ok (.aload_n 0, 1) := by decide +kernel
theorem dX12_readsStateRule_85 : decode cX12_readsStateRule 85 = .ok (.bipush 7, 2) := by decide +kernel
theorem dX12_readsStateRule_87 : decode cX12_readsStateRule 87 = .ok (.aload_n 0, 1) := by decide +kernel
theorem dX12_readsStateRule_88 : decode cX12_readsStateRule 88 = .ok (.getfield 145, 3) := by decide +kernel
theorem dX12_readsStateRule_91 : decode cX12_readsStateRule 91 = .ok (.invokevirtual 158, 3) := by decide +kernel
theorem dX12_readsStateRule_94 : decode cX12_readsStateRule 94 = .ok (.ireturn, 1) := by decide +kernel
theorem dX12_readsStateRule_95 : decode cX12_readsStateRule 95 = .ok (.aload_n 0, 1) := by decide +kernel
theorem dX12_readsStateRule_96 : decode cX12_readsStateRule 96 = .ok (.aload_n 0, 1) := by decide +kernel
theorem dX12_readsStateRule_97 : decode cX12_readsStateRule 97 = .ok (.getfield 145, 3) := by decide +kernel
theorem dX12_readsStateRule_100 : decode cX12_readsStateRule 100 = .ok (.iconst 1, 1) := by decide +kernel
theorem dX12_readsStateRule_101 : decode cX12_readsStateRule 101 = .ok (.iadd, 1) := by decide +kernel
theorem dX12_readsStateRule_102 : decode cX12_readsStateRule 102 = .ok (.putfield 145, 3) := by decide +kernel
theorem dX12_readsStateRule_105 : decode cX12_readsStateRule 105 = .ok (.aload_n 0, 1) := by decide +kernel
theorem dX12_readsStateRule_106 : decode cX12_readsStateRule 106 = .ok (.bipush 62, 2) := by decide +kernel
theorem dX12_readsStateRule_108 : decode cX12_readsStateRule 108 = .ok (.invokevirtual 235, 3) := by decide +kernel
theorem dX12_readsStateRule_111 : decode cX12_readsStateRule 111 = .ok (.ifCond .ne 5, 3) := by decide +kernel
theorem dX12_readsStateRule_114 : decode cX12_readsStateRule 114 = .ok (.iconst 0, 1) := by decide +kernel
theorem dX12_readsStateRule_115 : decode cX12_readsStateRule 115 = .ok (.ireturn, 1) := by decide +kernel
theorem dX12_readsStateRule_116 : decode cX12_readsStateRule 116 = .ok (.aload_n 0, 1) := by decide +kernel
theorem dX12_readsStateRule_117 : decode cX12_readsStateRule 117 = .ok (.invokevirtual 151, 3) := by decide +kernel
theorem dX12_readsStateRule_120 : decode cX12_readsStateRule 120 = .ok (.bipush 46, 2) := by decide +kernel
theorem dX12_readsStateRule_122 : decode cX12_readsStateRule 122 = .ok (.if_icmp .ne 7, 3) := by decide +kernel
theorem dX12_readsStateRule_125 : decode cX12_readsStateRule 125 = .ok (.iconst (-1), 1) := by decide +kernel
theorem dX12_readsStateRule_126 : decode cX12_readsStateRule 126 = .ok (.goto 10, 3) := by decide +kernel
theorem dX12_readsStateRule_129 : decode cX12_readsStateRule 129 = .ok (.aload_n 0, 1) := by decide +kernel
theorem dX12_readsStateRule_130 : decode cX12_readsStateRule 130 = .ok (.invokevirtual 151, 3) := by decide +kernel
theorem dX12_readsStateRule_133 : decode cX12_readsStateRule 133 = .ok (.bipush 48, 2) := by decide +kernel
theorem dX12_readsStateRule_135 : decode cX12_readsStateRule 135 = .ok (.isub, 1) := by decide +kernel
theorem dX12_readsStateRule_136 : decode cX12_readsStateRule 136 = .ok (.istore_n 3, 1) := by decide +kernel
theorem dX12_readsStateRule_137 : decode cX12_readsStateRule 137 = .ok (.iload_n 3, 1) := by decide +kernel
theorem dX12_readsStateRule_138 : decode cX12_readsStateRule 138 = .ok (.iconst (-1), 1) := by decide +kernel
theorem dX12_readsStateRule_139 : decode cX12_readsStateRule 139 = .ok (.if_icmp .eq 20, 3) := by decide +kernel
theorem dX12_readsStateRule_142 : decode cX12_readsStateRule 142 = .ok (.aload_n 0, 1) := by decide +kernel
theorem dX12_readsStateRule_143 : decode cX12_readsStateRule 143 = .ok (.invokevirtual 164, 3) := by decide +kernel
theorem dX12_readsStateRule_146 : decode cX12_readsStateRule 146 = .ok (.ifCond .ne 13, 3) := by decide +kernel
theorem dX12_readsStateRule_149 : decode cX12_readsStateRule 149 = .ok (.aload_n 0, 1) := by decide +kernel
theorem dX12_readsStateRule_150 : decode cX12_readsStateRule 150 = .ok (.iconst 1, 1) := by decide +kernel
theorem dX12_readsStateRule_151 : decode cX12_readsStateRule 151 = .ok (.aload_n 0, 1) := by decide +kernel
theorem dX12_readsStateRule_152 : decode cX12_readsStateRule 152 = .ok (.getfield 145, 3) := by decide +kernel
theorem dX12_readsStateRule_155 : decode cX12_readsStateRule 155 = .ok (.invokevirtual 158, 3) := by decide +kernel
theorem dX12_readsStateRule_158 : decode cX12_readsStateRule 158 = .ok (.ireturn, 1) := by decide +kernel
theorem dX12_readsStateRule_159 : decode cX12_readsStateRule 159 = .ok (.iload_n 3, 1) := by decide +kernel
theorem dX12_readsStateRule_160 : decode cX12_readsStateRule 160 = .ok (.aload_n 0, 1) := by decide +kernel
theorem dX12_readsStateRule_161 : decode cX12_readsStateRule 161 = .ok (.getfield 249, 3) := by decide +kernel
theorem dX12_readsStateRule_164 : decode cX12_readsStateRule 164 = .ok (.if_icmp .lt 13, 3) := by decide +kernel
theorem dX12_readsStateRule_167 : decode cX12_readsStateRule 167 = .ok (.aload_n 0, 1) := by decide +kernel
theorem dX12_readsStateRule_168 : decode cX12_readsStateRule 168 = .ok (.iconst 3, 1) := by decide +kernel
theorem dX12_readsStateRule_169 : decode cX12_readsStateRule 169 = .ok (.aload_n 0, 1) := by decide +kernel
theorem dX12_readsStateRule_170 : decode cX12_readsStateRule 170 = .ok (.getfield 145, 3) := by decide +kernel
theorem dX12_readsStateRule_173 : decode cX12_readsStateRule 173 = .ok (.invokevirtual 158, 3) := by decide +kernel
theorem dX12_readsStateRule_176 : decode cX12_readsStateRule 176 = .ok (.ireturn, 1) := by decide +kernel
theorem dX12_readsStateRule_177 : decode cX12_readsStateRule 177 = .ok (.aload_n 0, 1) := by decide +kernel
theorem dX12_readsStateRule_178 : decode cX12_readsStateRule 178 = .ok (.aload_n 0, 1) := by decide +kernel
theorem dX12_readsStateRule_179 : decode cX12_readsStateRule 179 = .ok (.getfield 145, 3) := by decide +kernel
theorem dX12_readsStateRule_182 : decode cX12_readsStateRule 182 = .ok (.iconst 1, 1) := by decide +kernel
theorem dX12_readsStateRule_183 : decode cX12_readsStateRule 183 = .ok (.iadd, 1) := by decide +kernel
theorem dX12_readsStateRule_184 : decode cX12_readsStateRule 184 = .ok (.putfield 145, 3) := by decide +kernel
theorem dX12_readsStateRule_187 : decode cX12_readsStateRule 187 = .ok (.aload_n 0, 1) := by decide +kernel
theorem dX12_readsStateRule_188 : decode cX12_readsStateRule 188 = .ok (.bipush 61, 2) := by decide +kernel
theorem dX12_readsStateRule_190 : decode cX12_readsStateRule 190 = .ok (.invokevirtual 235, 3) := by decide +kernel
theorem dX12_readsStateRule_193 : decode cX12_readsStateRule 193 = .ok (.ifCond .ne 5, 3) := by decide +kernel
theorem dX12_readsStateRule_196 : decode cX12_readsStateRule 196 = .ok (.iconst 0, 1) := by decide +kernel
theorem dX12_readsStateRule_197 : decode cX12_readsStateRule 197 = .ok (.ireturn, 1) := by decide +kernel
theorem dX12_readsStateRule_198 : decode cX12_readsStateRule 198 = .ok (.aload_n 0, 1) := by decide +kernel
theorem dX12_readsStateRule_199 : decode cX12_readsStateRule 199 = .ok (.invokevirtual 164, 3) := by decide +kernel
theorem dX12_readsStateRule_202 : decode cX12_readsStateRule 202 = .ok (.ifCond .ne 13, 3) := by decide +kernel
theorem dX12_readsStateRule_205 : decode cX12_readsStateRule 205 = .ok (.aload_n 0, 1) := by decide +kernel
theorem dX12_readsStateRule_206 : decode cX12_readsStateRule 206 = .ok (.iconst 1, 1) := by decide +kernel
theorem dX12_readsStateRule_207 : decode cX12_readsStateRule 207 = .ok (.aload_n 0, 1) := by decide +kernel
theorem dX12_readsStateRule_208 : decode cX12_readsStateRule 208 = .ok (.getfield 145, 3) := by decide +kernel
theorem dX12_readsStateRule_211 : decode cX12_readsStateRule 211 = .ok (.invokevirtual 158, 3) := by decide +kernel
theorem dX12_readsStateRule_214 : decode cX12_readsStateRule 214 = .ok (.ireturn, 1) := by decide +kernel
theorem dX12_readsStateRule_215 : decode cX12_readsStateRule 215 = .ok (.aload_n 0, 1) := by decide +kernel
theorem dX12_readsStateRule_216 : decode cX12_readsStateRule 216 = .ok (.iload_n 1, 1) := by decide +kernel
theorem dX12_readsStateRule_217 : decode cX12_readsStateRule 217 = .ok (.iload_n 2, 1) := by decide +kernel
theorem dX12_readsStateRule_218 : decode cX12_readsStateRule 218 = .ok (.iload_n 3, 1) := by decide +kernel
theorem dX12_readsStateRule_219 : decode cX12_readsStateRule 219 = .ok (.aload_n 0, 1) := by decide +kernel
theorem dX12_readsStateRule_220 : decode cX12_readsStateRule 220 = .ok (.invokevirtual 151, 3) := by decide +kernel
theorem dX12_readsStateRule_223 : decode cX12_readsStateRule 223 = .ok (.bipush 48, 2) := by decide +kernel
theorem dX12_readsStateRule_225 : decode cX12_readsStateRule 225 = .ok (.isub, 1) := by decide +kernel
theorem dX12_readsStateRule_226 : decode cX12_readsStateRule 226 = .ok (.invokevirtual 259, 3) := by decide +kernel
theorem dX12_readsStateRule_229 : decode cX12_readsStateRule 229 = .ok (.aload_n 0, 1) := by decide +kernel
theorem dX12_readsStateRule_230 : decode cX12_readsStateRule 230 = .ok (.aload_n 0, 1) := by decide +kernel
theorem dX12_readsStateRule_231 : decode cX12_readsStateRule 231 = .ok (.getfield 145, 3) := by decide +kernel
theorem dX12_readsStateRule_234 : decode cX12_readsStateRule 234 = .ok (.iconst 1, 1) := by decide +kernel
theorem dX12_readsStateRule_235 : decode cX12_readsStateRule 235 = .ok (.iadd, 1) := by decide +kernel
theorem dX12_readsStateRule_236 : decode cX12_readsStateRule 236 = .ok (.putfield 145, 3) := by decide +kernel
theorem dX12_readsStateRule_239 : decode cX12_readsStateRule 239 = .ok (.aload_n 0, 1) := by decide +kernel
theorem dX12_readsStateRule_240 : decode cX12_readsStateRule 240 = .ok (.iload_n 2, 1) := by decide +kernel
theorem dX12_readsStateRule_241 : decode cX12_readsStateRule 241 = .ok (.iconst (-1), 1) := by decide +kernel
theorem dX12_readsStateRule_242 : decode cX12_readsStateRule 242 = .ok (.if_icmp .ne 7, 3) := by decide +kernel
theorem dX12_readsStateRule_245 : decode cX12_readsStateRule 245 = .ok (.iconst 1, 1) := by decide +kernel
theorem dX12_readsStateRule_246 : decode cX12_readsStateRule 246 = .ok (.goto 4, 3) := by decide +kernel
theorem dX12_readsStateRule_249 : decode cX12_readsStateRule 249 = .ok (.iconst 0, 1) := by decide +kernel
theorem dX12_readsStateRule_250 : decode cX12_readsStateRule 250 = .ok (.putfield 255, 3) := by decide +kernel
theorem dX12_readsStateRule_253 : decode cX12_readsStateRule 253 = .ok (.iconst 1, 1) := by decide +kernel
theorem dX12_readsStateRule_254 : decode cX12_readsStateRule 254 = .ok (.ireturn, 1) := by decide +kernel
theorem dX12_rules_0 : decode cX12_rules 0 = .ok (.iconst 0, 1) := by decide +kernel
theorem dX12_rules_1 : decode cX12_rules 1 = .ok (.istore 5, 2) := by decide +kernel
theorem dX12_rules_3 : decode cX12_rules 3 = .ok (.iload 5, 2) := by decide +kernel
theorem dX12_rules_5 : decode cX12_rules 5 = .ok (.aload_n 0, 1) := by decide +kernel
theorem dX12_rules_6 : decode cX12_rules 6 = .ok (.getfield 249, 3) := by decide +kernel
theorem dX12_rules_9 : decode cX12_rules 9 = .ok (.if_icmp .ge 75, 3) := by decide +kernel
theorem dX12_rules_12 : decode cX12_rules 12 = .ok (.iload_n 2, 1) := by decide +kernel
theorem dX12_rules_13 : decode cX12_rules 13 = .ok (.iconst (-1), 1) := by decide +kernel
theorem dX12_rules_14 : decode cX12_rules 14 = .ok (.if_icmp .eq 12, 3) := by decide +kernel
theorem dX12_rules_17 : decode cX12_rules 17 = .ok (.iload 5, 2) := by decide +kernel
theorem dX12_rules_19 : decode cX12_rules 19 = .ok (.iload_n 2, 1) := by decide +kernel
theorem dX12_rules_20 : decode cX12_rules 20 = .ok (.if_icmp .eq 21, 3) := by decide +kernel
theorem dX12_rules_23 : decode cX12_rules 23 = .ok (.goto 55, 3) := by decide +kernel
theorem dX12_rules_26 : decode cX12_rules 26 = .ok (.aload_n 0, 1) := by decide +kernel
theorem dX12_rules_27 : decode cX12_rules 27 = .ok (.getfield 252, 3) := by decide +kernel
theorem dX12_rules_30 : decode cX12_rules 30 = .ok (.iload 5, 2) := by decide +kernel
theorem dX12_rules_32 : decode cX12_rules 32 = .ok (.invokestatic 119, 3) := by decide +kernel
theorem dX12_rules_35 : decode cX12_rules 35 = .ok (.ifCond .eq 6, 3) := by decide +kernel
theorem dX12_rules_38 : decode cX12_rules 38 = .ok (.goto 40, 3) := by decide +kernel
theorem dX12_rules_41 : decode cX12_rules 41 = .ok (.aload_n 0, 1) := by decide +kernel
theorem dX12_rules_42 : decode cX12_rules 42 = .ok (.getfield 74, 3) := by decide +kernel
theorem dX12_rules_45 : decode cX12_rules 45 = .ok (.bipush 10, 2) := by decide +kernel
theorem dX12_rules_47 : decode cX12_rules 47 = .ok (.iload_n 1, 1) := by decide +kernel
theorem dX12_rules_48 : decode cX12_rules 48 = .ok (.imul, 1) := by decide +kernel
theorem dX12_rules_49 : decode cX12_rules 49 = .ok (.iload 5, 2) := by decide +kernel
theorem dX12_rules_51 : decode cX12_rules 51 = .ok (.iadd, 1) := by decide +kernel
theorem dX12_rules_52 : decode cX12_rules 52 = .ok (.iload_n 3, 1) := by decide +kernel
theorem dX12_rules_53 : decode cX12_rules 53 = .ok (.iconst (-1), 1) := by decide +kernel
theorem dX12_rules_54 : decode cX12_rules 54 = .ok (.if_icmp .ne 8, 3) := by decide +kernel
theorem dX12_rules_57 : decode cX12_rules 57 = .ok (.iload 5, 2) := by decide +kernel
theorem dX12_rules_59 : decode cX12_rules 59 = .ok (.goto 4, 3) := by decide +kernel
theorem dX12_rules_62 : decode cX12_rules 62 = .ok (.iload_n 3, 1) := by decide +kernel
theorem dX12_rules_63 : decode cX12_rules 63 = .ok (.iastore, 1) := by decide +kernel
theorem dX12_rules_64 : decode cX12_rules 64 = .ok (.aload_n 0, 1) := by decide +kernel
theorem dX12_rules_65 : decode cX12_rules 65 = .ok (.getfield 71, 3) := by decide +kernel
theorem dX12_rules_68 : decode cX12_rules 68 = .ok (.bipush 10, 2) := by decide +kernel
theorem dX12_rules_70 : decode cX12_rules 70 = .ok (.iload_n 1, 1) := by decide +kernel
theorem dX12_rules_71 : decode cX12_rules 71 = .ok (.imul, 1) := by decide +kernel
theorem dX12_rules_72 : decode cX12_rules 72 = .ok (.iload 5, 2) := by decide +kernel
theorem dX12_rules_74 : decode cX12_rules 74 = .ok (.iadd, 1) := by decide +kernel
theorem dX12_rules_75 : decode cX12_rules 75 = .ok (.iload 4, 2) := by decide +kernel
theorem dX12_rules_77 : decode cX12_rules 77 = .ok (.iastore, 1) := by decide +kernel
theorem dX12_rules_78 : decode cX12_rules 78 = .ok (.iinc 5 1, 3) := by decide +kernel
theorem dX12_rules_81 : decode cX12_rules 81 = .ok (.goto (-78), 3) := by decide +kernel
theorem dX12_rules_84 : decode cX12_rules 84 = .ok (.iload_n 2, 1) := by decide +kernel
theorem dX12_rules_85 : decode cX12_rules 85 = .ok (.iconst (-1), 1) := by decide +kernel
theorem dX12_rules_86 : decode cX12_rules 86 = .ok (.if_icmp .eq 15, 3) := by decide +kernel
theorem dX12_rules_89 : decode cX12_rules 89 = .ok (.aload_n 0, 1) := by decide +kernel
theorem dX12_rules_90 : decode cX12_rules 90 = .ok (.aload_n 0, 1) := by decide +kernel
theorem dX12_rules_91 : decode cX12_rules 91 = .ok (.getfield 252, 3) := by decide +kernel
theorem dX12_rules_94 : decode cX12_rules 94 = .ok (.iconst 1, 1) := by decide +kernel
theorem dX12_rules_95 : decode cX12_rules 95 = .ok (.iload_n 2, 1) := by decide +kernel
theorem dX12_rules_96 : decode cX12_rules 96 = .ok (.ishl, 1) := by decide +kernel
theorem dX12_rules_97 : decode cX12_rules 97 = .ok (.ior, 1) := by decide +kernel
theorem dX12_rules_98 : decode cX12_rules 98 = .ok (.putfield 252, 3) := by decide +kernel
theorem dX12_rules_101 : decode cX12_rules 101 = .ok (.return_, 1) := by decide +kernel
theorem dX12_census_0 : decode cX12_census 0 = .ok (.aload_n 0, 1) := by decide +kernel
theorem dX12_census_1 : decode cX12_census 1 = .ok (.getfield 123, 3) := by decide +kernel
theorem dX12_census_4 : decode cX12_census 4 = .ok (.ifCond .eq 21, 3) := by decide +kernel
theorem dX12_census_7 : decode cX12_census 7 = .ok (.iload_n 1, 1) := by decide +kernel
theorem dX12_census_8 : decode cX12_census 8 = .ok (.iconst 1, 1) := by decide +kernel
theorem dX12_census_9 : decode cX12_census 9 = .ok (.bipush 60, 2) := by decide +kernel
theorem dX12_census_11 : decode cX12_census 11 = .ok (.invokestatic 127, 3) := by decide +kernel
theorem dX12_census_14 : decode cX12_census 14 = .ok (.ifCond .eq 11, 3) := by decide +kernel
theorem dX12_census_17 : decode cX12_census 17 = .ok (.iload_n 1, 1) := by decide +kernel
theorem dX12_census_18 : decode cX12_census 18 = .ok (.aload_n 0, 1) := by decide +kernel
theorem dX12_census_19 : decode cX12_census 19 = .ok (.getfield 138, 3) := by decide +kernel
theorem dX12_census_22 : decode cX12_census 22 = .ok (.if_icmp .le 5, 3) := by decide +kernel
theorem dX12_census_25 : decode cX12_census 25 = .ok (.iconst (-1), 1) := by decide +kernel
theorem dX12_census_26 : decode cX12_census 26 = .ok (.ireturn, 1) := by decide +kernel
theorem dX12_census_27 : decode cX12_census 27 = .ok (.aload_n 0, 1) := by decide +kernel
theorem dX12_census_28 : decode cX12_census 28 = .ok (.iload_n 1, 1) := by decide +kernel
theorem dX12_census_29 : decode cX12_census 29 = .ok (.invokevirtual 312, 3) := by decide +kernel
theorem dX12_census_32 : decode cX12_census 32 = .ok (.ifCond .ne 8, 3) := by decide +kernel
theorem dX12_census_35 : decode cX12_census 35 = .ok (.aload_n 0, 1) := by decide +kernel
theorem dX12_census_36 : decode cX12_census 36 = .ok (.getfield 155, 3) := by decide +kernel
theorem dX12_census_39 : decode cX12_census 39 = .ok (.ireturn, 1) := by decide +kernel
theorem dX12_census_40 : decode cX12_census 40 = .ok (.iconst 0, 1) := by decide +kernel
theorem dX12_census_41 : decode cX12_census 41 = .ok (.istore_n 2, 1) := by decide +kernel
theorem dX12_census_42 : decode cX12_census 42 = .ok (.iload_n 2, 1) := by decide +kernel
theorem dX12_census_43 : decode cX12_census 43 = .ok (.aload_n 0, 1) := by decide +kernel
theorem dX12_census_44 : decode cX12_census 44 = .ok (.getfield 284, 3) := by decide +kernel
theorem dX12_census_47 : decode cX12_census 47 = .ok (.if_icmp .ge 19, 3) := by decide +kernel
theorem dX12_census_50 : decode cX12_census 50 = .ok (.aload_n 0, 1) := by decide +kernel
theorem dX12_census_51 : decode cX12_census 51 = .ok (.aload_n 0, 1) := by decide +kernel
theorem dX12_census_52 : decode cX12_census 52 = .ok (.getfield 77, 3) := by decide +kernel
theorem dX12_census_55 : decode cX12_census 55 = .ok (.iload_n 2, 1) := by decide +kernel
theorem dX12_census_56 : decode cX12_census 56 = .ok (.iaload, 1) := by decide +kernel
theorem dX12_census_57 : decode cX12_census 57 = .ok (.invokevirtual 315, 3) := by decide +kernel
theorem dX12_census_60 : decode cX12_census 60 = .ok (.iinc 2 1, 3) := by decide +kernel
theorem dX12_census_63 : decode cX12_census 63 = .ok (.goto (-21), 3) := by decide +kernel
theorem dX12_census_66 : decode cX12_census 66 = .ok (.aload_n 0, 1) := by decide +kernel
theorem dX12_census_67 : decode cX12_census 67 = .ok (.getfield 7, 3) := by decide +kernel
theorem dX12_census_70 : decode cX12_census 70 = .ok (.iconst 1, 1) := by decide +kernel
theorem dX12_census_71 : decode cX12_census 71 = .ok (.iaload, 1) := by decide +kernel
theorem dX12_census_72 : decode cX12_census 72 = .ok (.ireturn, 1) := by decide +kernel
theorem dX12_readsCensus_0 : decode cX12_readsCensus 0 = .ok (.aload_n 0, 1) := by decide +kernel
theorem dX12_readsCensus_1 : decode cX12_readsCensus 1 = .ok (.iload_n 1, 1) := by decide +kernel
theorem dX12_readsCensus_2 : decode cX12_readsCensus 2 = .ok (.invokevirtual 229, 3) := by decide +kernel
theorem dX12_readsCensus_5 : decode cX12_readsCensus 5 = .ok (.aload_n 0, 1) := by decide +kernel
theorem dX12_readsCensus_6 : decode cX12_readsCensus 6 = .ok (.iconst 0, 1) := by decide +kernel
theorem dX12_readsCensus_7 : decode cX12_readsCensus 7 = .ok (.putfield 284, 3) := by decide +kernel
theorem dX12_readsCensus_10 : decode cX12_readsCensus 10 = .ok (.aload_n 0, 1) := by decide +kernel
theorem dX12_readsCensus_11 : decode cX12_readsCensus 11 = .ok (.iconst 0, 1) := by decide +kernel
theorem dX12_readsCensus_12 : decode cX12_readsCensus 12 = .ok (.putfield 290, 3) := by decide +kernel
theorem dX12_readsCensus_15 : decode cX12_readsCensus 15 = .ok (.aload_n 0, 1) := by decide +kernel
theorem dX12_readsCensus_16 : decode cX12_readsCensus 16 = .ok (.invokevirtual 296, 3) := by decide +kernel
theorem dX12_readsCensus_19 : decode cX12_readsCensus 19 = .ok (.istore_n 2, 1) := by decide +kernel
theorem dX12_readsCensus_20 : decode cX12_readsCensus 20 = .ok (.iload_n 2, 1) := by decide +kernel
theorem dX12_readsCensus_21 : decode cX12_readsCensus 21 = .ok (.ifCond .eq 29, 3) := by decide +kernel
theorem dX12_readsCensus_24 : decode cX12_readsCensus 24 = .ok (.aload_n 0, 1) := by decide +kernel
theorem dX12_readsCensus_25 : decode cX12_readsCensus 25 = .ok (.getfield 145, 3) := by decide +kernel
theorem dX12_readsCensus_28 : decode cX12_readsCensus 28 = .ok (.aload_n 0, 1) := by decide +kernel
theorem dX12_readsCensus_29 : decode cX12_readsCensus 29 = .ok (.getfield 148, 3) := by decide +kernel
theorem dX12_readsCensus_32 : decode cX12_readsCensus 32 = .ok (.if_icmp .lt 10, 3) := by decide +kernel
theorem dX12_readsCensus_35 : decode cX12_readsCensus 35 = .ok (.aload_n 0, 1) := by decide +kernel
theorem dX12_readsCensus_36 : decode cX12_readsCensus 36 = .ok (.getfield 290, 3) := by decide +kernel
theorem dX12_readsCensus_39 : decode cX12_readsCensus 39 = .ok (.ifCond .le 11, 3) := by decide +kernel
theorem dX12_readsCensus_42 : decode cX12_readsCensus 42 = .ok (.aload_n 0, 1) := by decide +kernel
theorem dX12_readsCensus_43 : decode cX12_readsCensus 43 = .ok (.invokevirtual 296, 3) := by decide +kernel
theorem dX12_readsCensus_46 : decode cX12_readsCensus 46 = .ok (.istore_n 2, 1) := by decide +kernel
theorem dX12_readsCensus_47 : decode cX12_readsCensus 47 = .ok (.goto (-27), 3) := by decide +kernel
theorem dX12_readsCensus_50 : decode cX12_readsCensus 50 = .ok (.aload_n 0, 1) := by decide +kernel
theorem dX12_readsCensus_51 : decode cX12_readsCensus 51 = .ok (.iconst 0, 1) := by decide +kernel
theorem dX12_readsCensus_52 : decode cX12_readsCensus 52 = .ok (.putfield 138, 3) := by decide +kernel
theorem dX12_readsCensus_55 : decode cX12_readsCensus 55 = .ok (.iload_n 2, 1) := by decide +kernel
theorem dX12_readsCensus_56 : decode cX12_readsCensus 56 = .ok (.ireturn, 1) := by decide +kernel
theorem dX12_readsAsked_0 : decode cX12_readsAsked 0 = .ok (.aload_n 0, 1) := by decide +kernel
theorem dX12_readsAsked_1 : decode cX12_readsAsked 1 = .ok (.invokevirtual 287, 3) := by decide +kernel
theorem dX12_readsAsked_4 : decode cX12_readsAsked 4 = .ok (.aload_n 0, 1) := by decide +kernel
theorem dX12_readsAsked_5 : decode cX12_readsAsked 5 = .ok (.invokevirtual 151, 3) := by decide +kernel
theorem dX12_readsAsked_8 : decode cX12_readsAsked 8 = .ok (.bipush 40, 2) := by decide +kernel
theorem dX12_readsAsked_10 : decode cX12_readsAsked 10 = .ok (.if_icmp .ne 87, 3) := by decide +kernel
theorem dX12_readsAsked_13 : decode cX12_readsAsked 13 = .ok (.aload_n 0, 1) := by decide +kernel
theorem dX12_readsAsked_14 : decode cX12_readsAsked 14 = .ok (.getfield 290, 3) := by decide +kernel
theorem dX12_readsAsked_17 : decode cX12_readsAsked 17 = .ok (.iconst 2, 1) := by decide +kernel
theorem dX12_readsAsked_18 : decode cX12_readsAsked 18 = .ok (.if_icmp .ne 13, 3) := by decide +kernel
theorem dX12_readsAsked_21 : decode cX12_readsAsked 21 = .ok (.aload_n 0, 1) := by decide +kernel
theorem dX12_readsAsked_22 : decode cX12_readsAsked 22 = .ok (.iconst 5, 1) := by decide +kernel
theorem dX12_readsAsked_23 : decode cX12_readsAsked 23 = .ok (.aload_n 0, 1) := by decide +kernel
theorem dX12_readsAsked_24 : decode cX12_readsAsked 24 = .ok (.getfield 145, 3) := by decide +kernel
theorem dX12_readsAsked_27 : decode cX12_readsAsked 27 = .ok (.invokevirtual 158, 3) := by decide +kernel
theorem dX12_readsAsked_30 : decode cX12_readsAsked 30 = .ok (.ireturn, 1) := by decide +kernel
theorem dX12_readsAsked_31 : decode cX12_readsAsked 31 = .ok (.aload_n 0, 1) := by decide +kernel
theorem dX12_readsAsked_32 : decode cX12_readsAsked 32 = .ok (.getfield 80, 3) := by decide +kernel
theorem dX12_readsAsked_35 : decode cX12_readsAsked 35 = .ok (.aload_n 0, 1) := by decide +kernel
theorem dX12_readsAsked_36 : decode cX12_readsAsked 36 = .ok (.getfield 290, 3) := by decide +kernel
theorem dX12_readsAsked_39 : decode cX12_readsAsked 39 = .ok (.aload_n 0, 1) := by decide +kernel
theorem dX12_readsAsked_40 : decode cX12_readsAsked 40 = .ok (.getfield 278, 3) := by decide +kernel
theorem dX12_readsAsked_43 : decode cX12_readsAsked 43 = .ok (.iastore, 1) := by decide +kernel
theorem dX12_readsAsked_44 : decode cX12_readsAsked 44 = .ok (.aload_n 0, 1) := by decide +kernel
theorem dX12_readsAsked_45 : decode cX12_readsAsked 45 = .ok (.getfield 83, 3) := by decide +kernel
theorem dX12_readsAsked_48 : decode cX12_readsAsked 48 = .ok (.aload_n 0, 1) := by decide +kernel
theorem dX12_readsAsked_49 : decode cX12_readsAsked 49 = .ok (.getfield 290, 3) := by decide +kernel
theorem dX12_readsAsked_52 : decode cX12_readsAsked 52 = .ok (.aload_n 0, 1) := by decide +kernel
theorem dX12_readsAsked_53 : decode cX12_readsAsked 53 = .ok (.getfield 284, 3) := by decide +kernel
theorem dX12_readsAsked_56 : decode cX12_readsAsked 56 = .ok (.iastore, 1) := by decide +kernel
theorem dX12_readsAsked_57 : decode cX12_readsAsked 57 = .ok (.aload_n 0, 1) := by decide +kernel
theorem dX12_readsAsked_58 : decode cX12_readsAsked 58 = .ok (.getfield 86, 3) := by decide +kernel
theorem dX12_readsAsked_61 : decode cX12_readsAsked 61 = .ok (.aload_n 0, 1) := by decide +kernel
theorem dX12_readsAsked_62 : decode cX12_readsAsked 62 = .ok (.getfield 290, 3) := by decide +kernel
theorem dX12_readsAsked_65 : decode cX12_readsAsked 65 = .ok (.aload_n 0, 1) := by decide +kernel
theorem dX12_readsAsked_66 : decode cX12_readsAsked 66 = .ok (.getfield 281, 3) := by decide +kernel
theorem dX12_readsAsked_69 : decode cX12_readsAsked 69 = .ok (.iastore, 1) := by decide +kernel
theorem dX12_readsAsked_70 : decode cX12_readsAsked 70 = .ok (.aload_n 0, 1) := by decide +kernel
theorem dX12_readsAsked_71 : decode cX12_readsAsked 71 = .ok (.aload_n 0, 1) := by decide +kernel
theorem dX12_readsAsked_72 : decode cX12_readsAsked 72 = .ok (.getfield 290, 3) := by decide +kernel
theorem dX12_readsAsked_75 : decode cX12_readsAsked 75 = .ok (.iconst 1, 1) := by decide +kernel
theorem dX12_readsAsked_76 : decode cX12_readsAsked 76 = .ok (.iadd, 1) := by decide +kernel
theorem dX12_readsAsked_77 : decode cX12_readsAsked 77 = .ok (.putfield 290, 3) := by decide +kernel
theorem dX12_readsAsked_80 : decode cX12_readsAsked 80 = .ok (.aload_n 0, 1) := by decide +kernel
theorem dX12_readsAsked_81 : decode cX12_readsAsked 81 = .ok (.aload_n 0, 1) := by decide +kernel
theorem dX12_readsAsked_82 : decode cX12_readsAsked 82 = .ok (.getfield 145, 3) := by decide +kernel
theorem dX12_readsAsked_85 : decode cX12_readsAsked 85 = .ok (.iconst 1, 1) := by decide +kernel
theorem dX12_readsAsked_86 : decode cX12_readsAsked 86 = .ok (.iadd, 1) := by decide +kernel
theorem dX12_readsAsked_87 : decode cX12_readsAsked 87 = .ok (.putfield 145, 3) := by decide +kernel
theorem dX12_readsAsked_90 : decode cX12_readsAsked 90 = .ok (.aload_n 0, 1) := by decide +kernel
theorem dX12_readsAsked_91 : decode cX12_readsAsked 91 = .ok (.invokevirtual 287, 3) := by decide +kernel
theorem dX12_readsAsked_94 : decode cX12_readsAsked 94 = .ok (.goto (-90), 3) := by decide +kernel
theorem dX12_readsAsked_97 : decode cX12_readsAsked 97 = .ok (.aload_n 0, 1) := by decide +kernel
theorem dX12_readsAsked_98 : decode cX12_readsAsked 98 = .ok (.getfield 278, 3) := by decide +kernel
theorem dX12_readsAsked_101 : decode cX12_readsAsked 101 = .ok (.istore_n 1, 1) := by decide +kernel
theorem dX12_readsAsked_102 : decode cX12_readsAsked 102 = .ok (.aload_n 0, 1) := by decide +kernel
theorem dX12_readsAsked_103 : decode cX12_readsAsked 103 = .ok (.getfield 281, 3) := by decide +kernel
theorem dX12_readsAsked_106 : decode cX12_readsAsked 106 = .ok (.istore_n 2, 1) := by decide +kernel
theorem dX12_readsAsked_107 : decode cX12_readsAsked 107 = .ok (.aload_n 0, 1) := by decide +kernel
theorem dX12_readsAsked_108 : decode cX12_readsAsked 108 = .ok (.invokevirtual 263, 3) := by decide +kernel
theorem dX12_readsAsked_111 : decode cX12_readsAsked 111 = .ok (.ifCond .ne 13, 3) := by decide +kernel
theorem dX12_readsAsked_114 : decode cX12_readsAsked 114 = .ok (.aload_n 0, 1) := by decide +kernel
theorem dX12_readsAsked_115 : decode cX12_readsAsked 115 = .ok (.iconst 1, 1) := by decide +kernel
theorem dX12_readsAsked_116 : decode cX12_readsAsked 116 = .ok (.aload_n 0, 1) := by decide +kernel
theorem dX12_readsAsked_117 : decode cX12_readsAsked 117 = .ok (.getfield 145, 3) := by decide +kernel
theorem dX12_readsAsked_120 : decode cX12_readsAsked 120 = .ok (.invokevirtual 158, 3) := by decide +kernel
theorem dX12_readsAsked_123 : decode cX12_readsAsked 123 = .ok (.ireturn, 1) := by decide +kernel
theorem dX12_readsAsked_124 : decode cX12_readsAsked 124 = .ok (.aload_n 0, 1) := by decide +kernel
theorem dX12_readsAsked_125 : decode cX12_readsAsked 125 = .ok (.getfield 284, 3) := by decide +kernel
theorem dX12_readsAsked_128 : decode cX12_readsAsked 128 = .ok (.iload_n 2, 1) := by decide +kernel
theorem dX12_readsAsked_129 : decode cX12_readsAsked 129 = .ok (.iadd, 1) := by decide +kernel
theorem dX12_readsAsked_130 : decode cX12_readsAsked 130 = .ok (.bipush 40, 2) := by decide +kernel
theorem dX12_readsAsked_132 : decode cX12_readsAsked 132 = .ok (.if_icmp .le 11, 3) := by decide +kernel
theorem dX12_readsAsked_135 : decode cX12_readsAsked 135 = .ok (.aload_n 0, 1) := by decide +kernel
theorem dX12_readsAsked_136 : decode cX12_readsAsked 136 = .ok (.bipush 6, 2) := by decide +kernel
theorem dX12_readsAsked_138 : decode cX12_readsAsked 138 = .ok (.iload_n 1, 1) := by decide +kernel
theorem dX12_readsAsked_139 : decode cX12_readsAsked 139 = .ok (.invokevirtual 158, 3) := by decide +kernel
theorem dX12_readsAsked_142 : decode cX12_readsAsked 142 = .ok (.ireturn, 1) := by decide +kernel
theorem dX12_readsAsked_143 : decode cX12_readsAsked 143 = .ok (.aload_n 0, 1) := by decide +kernel
theorem dX12_readsAsked_144 : decode cX12_readsAsked 144 = .ok (.getfield 77, 3) := by decide +kernel
theorem dX12_readsAsked_147 : decode cX12_readsAsked 147 = .ok (.aload_n 0, 1) := by decide +kernel
theorem dX12_readsAsked_148 : decode cX12_readsAsked 148 = .ok (.getfield 284, 3) := by decide +kernel
theorem dX12_readsAsked_151 : decode cX12_readsAsked 151 = .ok (.aload_n 0, 1) := by decide +kernel
theorem dX12_readsAsked_152 : decode cX12_readsAsked 152 = .ok (.invokevirtual 151, 3) := by decide +kernel
theorem dX12_readsAsked_155 : decode cX12_readsAsked 155 = .ok (.bipush 97, 2) := by decide +kernel
theorem dX12_readsAsked_157 : decode cX12_readsAsked 157 = .ok (.isub, 1) := by decide +kernel
theorem dX12_readsAsked_158 : decode cX12_readsAsked 158 = .ok (.iastore, 1) := by decide +kernel
theorem dX12_readsAsked_159 : decode cX12_readsAsked 159 = .ok (.aload_n 0, 1) := by decide +kernel
theorem dX12_readsAsked_160 : decode cX12_readsAsked 160 = .ok (.aload_n 0, 1) := by decide +kernel
theorem dX12_readsAsked_161 : decode cX12_readsAsked 161 = .ok (.getfield 145, 3) := by decide +kernel
theorem dX12_readsAsked_164 : decode cX12_readsAsked 164 = .ok (.iconst 1, 1) := by decide +kernel
theorem dX12_readsAsked_165 : decode cX12_readsAsked 165 = .ok (.iadd, 1) := by decide +kernel
theorem dX12_readsAsked_166 : decode cX12_readsAsked 166 = .ok (.putfield 145, 3) := by decide +kernel
theorem dX12_readsAsked_169 : decode cX12_readsAsked 169 = .ok (.aload_n 0, 1) := by decide +kernel
theorem dX12_readsAsked_170 : decode cX12_readsAsked 170 = .ok (.aload_n 0, 1) := by decide +kernel
theorem dX12_readsAsked_171 : decode cX12_readsAsked 171 = .ok (.getfield 284, 3) := by decide +kernel
theorem dX12_readsAsked_174 : decode cX12_readsAsked 174 = .ok (.iconst 1, 1) := by decide +kernel
theorem dX12_readsAsked_175 : decode cX12_readsAsked 175 = .ok (.iadd, 1) := by decide +kernel
theorem dX12_readsAsked_176 : decode cX12_readsAsked 176 = .ok (.putfield 284, 3) := by decide +kernel
theorem dX12_readsAsked_179 : decode cX12_readsAsked 179 = .ok (.aload_n 0, 1) := by decide +kernel
theorem dX12_readsAsked_180 : decode cX12_readsAsked 180 = .ok (.aload_n 0, 1) := by decide +kernel
theorem dX12_readsAsked_181 : decode cX12_readsAsked 181 = .ok (.getfield 284, 3) := by decide +kernel
theorem dX12_readsAsked_184 : decode cX12_readsAsked 184 = .ok (.iconst 1, 1) := by decide +kernel
theorem dX12_readsAsked_185 : decode cX12_readsAsked 185 = .ok (.isub, 1) := by decide +kernel
theorem dX12_readsAsked_186 : decode cX12_readsAsked 186 = .ok (.iload_n 2, 1) := by decide +kernel
theorem dX12_readsAsked_187 : decode cX12_readsAsked 187 = .ok (.iload_n 1, 1) := by decide +kernel
theorem dX12_readsAsked_188 : decode cX12_readsAsked 188 = .ok (.invokevirtual 293, 3) := by decide +kernel
theorem dX12_readsAsked_191 : decode cX12_readsAsked 191 = .ok (.ifCond .ne 5, 3) := by decide +kernel
theorem dX12_readsAsked_194 : decode cX12_readsAsked 194 = .ok (.iconst 0, 1) := by decide +kernel
theorem dX12_readsAsked_195 : decode cX12_readsAsked 195 = .ok (.ireturn, 1) := by decide +kernel
theorem dX12_readsAsked_196 : decode cX12_readsAsked 196 = .ok (.aload_n 0, 1) := by decide +kernel
theorem dX12_readsAsked_197 : decode cX12_readsAsked 197 = .ok (.invokevirtual 151, 3) := by decide +kernel
theorem dX12_readsAsked_200 : decode cX12_readsAsked 200 = .ok (.bipush 41, 2) := by decide +kernel
theorem dX12_readsAsked_202 : decode cX12_readsAsked 202 = .ok (.if_icmp .ne 66, 3) := by decide +kernel
theorem dX12_readsAsked_205 : decode cX12_readsAsked 205 = .ok (.aload_n 0, 1) := by decide +kernel
theorem dX12_readsAsked_206 : decode cX12_readsAsked 206 = .ok (.getfield 290, 3) := by decide +kernel
theorem dX12_readsAsked_209 : decode cX12_readsAsked 209 = .ok (.ifCond .le 59, 3) := by decide +kernel
theorem dX12_readsAsked_212 : decode cX12_readsAsked 212 = .ok (.aload_n 0, 1) := by decide +kernel
theorem dX12_readsAsked_213 : decode cX12_readsAsked 213 = .ok (.aload_n 0, 1) := by decide +kernel
theorem dX12_readsAsked_214 : decode cX12_readsAsked 214 = .ok (.getfield 145, 3) := by decide +kernel
theorem dX12_readsAsked_217 : decode cX12_readsAsked 217 = .ok (.iconst 1, 1) := by decide +kernel
theorem dX12_readsAsked_218 : decode cX12_readsAsked 218 = .ok (.iadd, 1) := by decide +kernel
theorem dX12_readsAsked_219 : decode cX12_readsAsked 219 = .ok (.putfield 145, 3) := by decide +kernel
theorem dX12_readsAsked_222 : decode cX12_readsAsked 222 = .ok (.aload_n 0, 1) := by decide +kernel
theorem dX12_readsAsked_223 : decode cX12_readsAsked 223 = .ok (.aload_n 0, 1) := by decide +kernel
theorem dX12_readsAsked_224 : decode cX12_readsAsked 224 = .ok (.getfield 290, 3) := by decide +kernel
theorem dX12_readsAsked_227 : decode cX12_readsAsked 227 = .ok (.iconst 1, 1) := by decide +kernel
theorem dX12_readsAsked_228 : decode cX12_readsAsked 228 = .ok (.isub, 1) := by decide +kernel
theorem dX12_readsAsked_229 : decode cX12_readsAsked 229 = .ok (.putfield 290, 3) := by decide +kernel
theorem dX12_readsAsked_232 : decode cX12_readsAsked 232 = .ok (.aload_n 0, 1) := by decide +kernel
theorem dX12_readsAsked_233 : decode cX12_readsAsked 233 = .ok (.aload_n 0, 1) := by decide +kernel
theorem dX12_readsAsked_234 : decode cX12_readsAsked 234 = .ok (.getfield 83, 3) := by decide +kernel
theorem dX12_readsAsked_237 : decode cX12_readsAsked 237 = .ok (.aload_n 0, 1) := by decide +kernel
theorem dX12_readsAsked_238 : decode cX12_readsAsked 238 = .ok (.getfield 290, 3) := by decide +kernel
theorem dX12_readsAsked_241 : decode cX12_readsAsked 241 = .ok (.iaload, 1) := by decide +kernel
theorem dX12_readsAsked_242 : decode cX12_readsAsked 242 = .ok (.aload_n 0, 1) := by decide +kernel
theorem dX12_readsAsked_243 : decode cX12_readsAsked 243 = .ok (.getfield 86, 3) := by decide +kernel
theorem dX12_readsAsked_246 : decode cX12_readsAsked 246 = .ok (.aload_n 0, 1) := by decide +kernel
theorem dX12_readsAsked_247 : decode cX12_readsAsked 247 = .ok (.getfield 290, 3) := by decide +kernel
theorem dX12_readsAsked_250 : decode cX12_readsAsked 250 = .ok (.iaload, 1) := by decide +kernel
theorem dX12_readsAsked_251 : decode cX12_readsAsked 251 = .ok (.aload_n 0, 1) := by decide +kernel
theorem dX12_readsAsked_252 : decode cX12_readsAsked 252 = .ok (.getfield 80, 3) := by decide +kernel
theorem dX12_readsAsked_255 : decode cX12_readsAsked 255 = .ok (.aload_n 0, 1) := by decide +kernel
theorem dX12_readsAsked_256 : decode cX12_readsAsked 256 = .ok (.getfield 290, 3) := by decide +kernel
theorem dX12_readsAsked_259 : decode cX12_readsAsked 259 = .ok (.iaload, 1) := by decide +kernel
theorem dX12_readsAsked_260 : decode cX12_readsAsked 260 = .ok (.invokevirtual 293, 3) := by decide +kernel
theorem dX12_readsAsked_263 : decode cX12_readsAsked 263 = .ok (.ifCond .ne (-67), 3) := by decide +kernel
theorem dX12_readsAsked_266 : decode cX12_readsAsked 266 = .ok (.iconst 0, 1) := by decide +kernel
theorem dX12_readsAsked_267 : decode cX12_readsAsked 267 = .ok (.ireturn, 1) := by decide +kernel
theorem dX12_readsAsked_268 : decode cX12_readsAsked 268 = .ok (.iconst 1, 1) := by decide +kernel
theorem dX12_readsAsked_269 : decode cX12_readsAsked 269 = .ok (.ireturn, 1) := by decide +kernel
theorem dX12_readsTimes_0 : decode cX12_readsTimes 0 = .ok (.aload_n 0, 1) := by decide +kernel
theorem dX12_readsTimes_1 : decode cX12_readsTimes 1 = .ok (.aload_n 0, 1) := by decide +kernel
theorem dX12_readsTimes_2 : decode cX12_readsTimes 2 = .ok (.getfield 145, 3) := by decide +kernel
theorem dX12_readsTimes_5 : decode cX12_readsTimes 5 = .ok (.putfield 278, 3) := by decide +kernel
theorem dX12_readsTimes_8 : decode cX12_readsTimes 8 = .ok (.aload_n 0, 1) := by decide +kernel
theorem dX12_readsTimes_9 : decode cX12_readsTimes 9 = .ok (.iconst 1, 1) := by decide +kernel
theorem dX12_readsTimes_10 : decode cX12_readsTimes 10 = .ok (.putfield 281, 3) := by decide +kernel
theorem dX12_readsTimes_13 : decode cX12_readsTimes 13 = .ok (.aload_n 0, 1) := by decide +kernel
theorem dX12_readsTimes_14 : decode cX12_readsTimes 14 = .ok (.invokevirtual 151, 3) := by decide +kernel
theorem dX12_readsTimes_17 : decode cX12_readsTimes 17 = .ok (.bipush 50, 2) := by decide +kernel
theorem dX12_readsTimes_19 : decode cX12_readsTimes 19 = .ok (.bipush 57, 2) := by decide +kernel
theorem dX12_readsTimes_21 : decode cX12_readsTimes 21 = .ok (.invokestatic 127, 3) := by decide +kernel
theorem dX12_readsTimes_24 : decode cX12_readsTimes 24 = .ok (.ifCond .ne 4, 3) := by decide +kernel
theorem dX12_readsTimes_27 : decode cX12_readsTimes 27 = .ok (.return_, 1) := by decide +kernel
theorem dX12_readsTimes_28 : decode cX12_readsTimes 28 = .ok (.aload_n 0, 1) := by decide +kernel
theorem dX12_readsTimes_29 : decode cX12_readsTimes 29 = .ok (.aload_n 0, 1) := by decide +kernel
theorem dX12_readsTimes_30 : decode cX12_readsTimes 30 = .ok (.invokevirtual 151, 3) := by decide +kernel
theorem dX12_readsTimes_33 : decode cX12_readsTimes 33 = .ok (.bipush 48, 2) := by decide +kernel
theorem dX12_readsTimes_35 : decode cX12_readsTimes 35 = .ok (.isub, 1) := by decide +kernel
theorem dX12_readsTimes_36 : decode cX12_readsTimes 36 = .ok (.putfield 281, 3) := by decide +kernel
theorem dX12_readsTimes_39 : decode cX12_readsTimes 39 = .ok (.aload_n 0, 1) := by decide +kernel
theorem dX12_readsTimes_40 : decode cX12_readsTimes 40 = .ok (.aload_n 0, 1) := by decide +kernel
theorem dX12_readsTimes_41 : decode cX12_readsTimes 41 = .ok (.getfield 145, 3) := by decide +kernel
theorem dX12_readsTimes_44 : decode cX12_readsTimes 44 = .ok (.iconst 1, 1) := by decide +kernel
theorem dX12_readsTimes_45 : decode cX12_readsTimes 45 = .ok (.iadd, 1) := by decide +kernel
theorem dX12_readsTimes_46 : decode cX12_readsTimes 46 = .ok (.putfield 145, 3) := by decide +kernel
theorem dX12_readsTimes_49 : decode cX12_readsTimes 49 = .ok (.return_, 1) := by decide +kernel
theorem dX12_repeats_0 : decode cX12_repeats 0 = .ok (.aload_n 0, 1) := by decide +kernel
theorem dX12_repeats_1 : decode cX12_repeats 1 = .ok (.getfield 284, 3) := by decide +kernel
theorem dX12_repeats_4 : decode cX12_repeats 4 = .ok (.iload_n 1, 1) := by decide +kernel
theorem dX12_repeats_5 : decode cX12_repeats 5 = .ok (.isub, 1) := by decide +kernel
theorem dX12_repeats_6 : decode cX12_repeats 6 = .ok (.istore 4, 2) := by decide +kernel
theorem dX12_repeats_8 : decode cX12_repeats 8 = .ok (.iload_n 1, 1) := by decide +kernel
theorem dX12_repeats_9 : decode cX12_repeats 9 = .ok (.iload 4, 2) := by decide +kernel
theorem dX12_repeats_11 : decode cX12_repeats 11 = .ok (.iload_n 2, 1) := by decide +kernel
theorem dX12_repeats_12 : decode cX12_repeats 12 = .ok (.imul, 1) := by decide +kernel
theorem dX12_repeats_13 : decode cX12_repeats 13 = .ok (.iadd, 1) := by decide +kernel
theorem dX12_repeats_14 : decode cX12_repeats 14 = .ok (.bipush 40, 2) := by decide +kernel
theorem dX12_repeats_16 : decode cX12_repeats 16 = .ok (.if_icmp .le 11, 3) := by decide +kernel
theorem dX12_repeats_19 : decode cX12_repeats 19 = .ok (.aload_n 0, 1) := by decide +kernel
theorem dX12_repeats_20 : decode cX12_repeats 20 = .ok (.bipush 6, 2) := by decide +kernel
theorem dX12_repeats_22 : decode cX12_repeats 22 = .ok (.iload_n 3, 1) := by decide +kernel
theorem dX12_repeats_23 : decode cX12_repeats 23 = .ok (.invokevirtual 158, 3) := by decide +kernel
theorem dX12_repeats_26 : decode cX12_repeats 26 = .ok (.ireturn, 1) := by decide +kernel
theorem dX12_repeats_27 : decode cX12_repeats 27 = .ok (.iload 4, 2) := by decide +kernel
theorem dX12_repeats_29 : decode cX12_repeats 29 = .ok (.istore 5, 2) := by decide +kernel
theorem dX12_repeats_31 : decode cX12_repeats 31 = .ok (.iload 5, 2) := by decide +kernel
theorem dX12_repeats_33 : decode cX12_repeats 33 = .ok (.iload 4, 2) := by decide +kernel
theorem dX12_repeats_35 : decode cX12_repeats 35 = .ok (.iload_n 2, 1) := by decide +kernel
theorem dX12_repeats_36 : decode cX12_repeats 36 = .ok (.imul, 1) := by decide +kernel
theorem dX12_repeats_37 : decode cX12_repeats 37 = .ok (.if_icmp .ge 30, 3) := by decide +kernel
theorem dX12_repeats_40 : decode cX12_repeats 40 = .ok (.aload_n 0, 1) := by decide +kernel
theorem dX12_repeats_41 : decode cX12_repeats 41 = .ok (.getfield 77, 3) := by decide +kernel
theorem dX12_repeats_44 : decode cX12_repeats 44 = .ok (.iload_n 1, 1) := by decide +kernel
theorem dX12_repeats_45 : decode cX12_repeats 45 = .ok (.iload 5, 2) := by decide +kernel
theorem dX12_repeats_47 : decode cX12_repeats 47 = .ok (.iadd, 1) := by decide +kernel
theorem dX12_repeats_48 : decode cX12_repeats 48 = .ok (.aload_n 0, 1) := by decide +kernel
theorem dX12_repeats_49 : decode cX12_repeats 49 = .ok (.getfield 77, 3) := by decide +kernel
theorem dX12_repeats_52 : decode cX12_repeats 52 = .ok (.iload_n 1, 1) := by decide +kernel
theorem dX12_repeats_53 : decode cX12_repeats 53 = .ok (.iload 5, 2) := by decide +kernel
theorem dX12_repeats_55 : decode cX12_repeats 55 = .ok (.iadd, 1) := by decide +kernel
theorem dX12_repeats_56 : decode cX12_repeats 56 = .ok (.iload 4, 2) := by decide +kernel
theorem dX12_repeats_58 : decode cX12_repeats 58 = .ok (.isub, 1) := by decide +kernel
theorem dX12_repeats_59 : decode cX12_repeats 59 = .ok (.iaload, 1) := by decide +kernel
theorem dX12_repeats_60 : decode cX12_repeats 60 = .ok (.iastore, 1) := by decide +kernel
theorem dX12_repeats_61 : decode cX12_repeats 61 = .ok (.iinc 5 1, 3) := by decide +kernel
theorem dX12_repeats_64 : decode cX12_repeats 64 = .ok (.goto (-33), 3) := by decide +kernel
theorem dX12_repeats_67 : decode cX12_repeats 67 = .ok (.aload_n 0, 1) := by decide +kernel
theorem dX12_repeats_68 : decode cX12_repeats 68 = .ok (.iload_n 1, 1) := by decide +kernel
theorem dX12_repeats_69 : decode cX12_repeats 69 = .ok (.iload 4, 2) := by decide +kernel
theorem dX12_repeats_71 : decode cX12_repeats 71 = .ok (.iload_n 2, 1) := by decide +kernel
theorem dX12_repeats_72 : decode cX12_repeats 72 = .ok (.imul, 1) := by decide +kernel
theorem dX12_repeats_73 : decode cX12_repeats 73 = .ok (.iadd, 1) := by decide +kernel
theorem dX12_repeats_74 : decode cX12_repeats 74 = .ok (.putfield 284, 3) := by decide +kernel
theorem dX12_repeats_77 : decode cX12_repeats 77 = .ok (.iconst 1, 1) := by decide +kernel
theorem dX12_repeats_78 : decode cX12_repeats 78 = .ok (.ireturn, 1) := by decide +kernel
theorem dX12_asks_0 : decode cX12_asks 0 = .ok (.aload_n 0, 1) := by decide +kernel
theorem dX12_asks_1 : decode cX12_asks 1 = .ok (.iload_n 1, 1) := by decide +kernel
theorem dX12_asks_2 : decode cX12_asks 2 = .ok (.aload_n 0, 1) := by decide +kernel
theorem dX12_asks_3 : decode cX12_asks 3 = .ok (.getfield 7, 3) := by decide +kernel
theorem dX12_asks_6 : decode cX12_asks 6 = .ok (.iconst 0, 1) := by decide +kernel
theorem dX12_asks_7 : decode cX12_asks 7 = .ok (.iaload, 1) := by decide +kernel
theorem dX12_asks_8 : decode cX12_asks 8 = .ok (.invokevirtual 299, 3) := by decide +kernel
theorem dX12_asks_11 : decode cX12_asks 11 = .ok (.istore_n 2, 1) := by decide +kernel
theorem dX12_asks_12 : decode cX12_asks 12 = .ok (.aload_n 0, 1) := by decide +kernel
theorem dX12_asks_13 : decode cX12_asks 13 = .ok (.getfield 7, 3) := by decide +kernel
theorem dX12_asks_16 : decode cX12_asks 16 = .ok (.iconst 4, 1) := by decide +kernel
theorem dX12_asks_17 : decode cX12_asks 17 = .ok (.sipush 9999, 3) := by decide +kernel
theorem dX12_asks_20 : decode cX12_asks 20 = .ok (.aload_n 0, 1) := by decide +kernel
theorem dX12_asks_21 : decode cX12_asks 21 = .ok (.getfield 7, 3) := by decide +kernel
theorem dX12_asks_24 : decode cX12_asks 24 = .ok (.iconst 4, 1) := by decide +kernel
theorem dX12_asks_25 : decode cX12_asks 25 = .ok (.iaload, 1) := by decide +kernel
theorem dX12_asks_26 : decode cX12_asks 26 = .ok (.iconst 1, 1) := by decide +kernel
theorem dX12_asks_27 : decode cX12_asks 27 = .ok (.iadd, 1) := by decide +kernel
theorem dX12_asks_28 : decode cX12_asks 28 = .ok (.invokestatic 302, 3) := by decide +kernel
theorem dX12_asks_31 : decode cX12_asks 31 = .ok (.iastore, 1) := by decide +kernel
theorem dX12_asks_32 : decode cX12_asks 32 = .ok (.aload_n 0, 1) := by decide +kernel
theorem dX12_asks_33 : decode cX12_asks 33 = .ok (.getfield 7, 3) := by decide +kernel
theorem dX12_asks_36 : decode cX12_asks 36 = .ok (.iconst 5, 1) := by decide +kernel
theorem dX12_asks_37 : decode cX12_asks 37 = .ok (.ldc_w 305, 3) := by decide +kernel
theorem dX12_asks_40 : decode cX12_asks 40 = .ok (.aload_n 0, 1) := by decide +kernel
theorem dX12_asks_41 : decode cX12_asks 41 = .ok (.getfield 7, 3) := by decide +kernel
theorem dX12_asks_44 : decode cX12_asks 44 = .ok (.iconst 5, 1) := by decide +kernel
theorem dX12_asks_45 : decode cX12_asks 45 = .ok (.iaload, 1) := by decide +kernel
theorem dX12_asks_46 : decode cX12_asks 46 = .ok (.iload_n 2, 1) := by decide +kernel
theorem dX12_asks_47 : decode cX12_asks 47 = .ok (.iadd, 1) := by decide +kernel
theorem dX12_asks_48 : decode cX12_asks 48 = .ok (.invokestatic 302, 3) := by decide +kernel
theorem dX12_asks_51 : decode cX12_asks 51 = .ok (.iastore, 1) := by decide +kernel
theorem dX12_asks_52 : decode cX12_asks 52 = .ok (.aload_n 0, 1) := by decide +kernel
theorem dX12_asks_53 : decode cX12_asks 53 = .ok (.getfield 7, 3) := by decide +kernel
theorem dX12_asks_56 : decode cX12_asks 56 = .ok (.iconst 1, 1) := by decide +kernel
theorem dX12_asks_57 : decode cX12_asks 57 = .ok (.iload_n 2, 1) := by decide +kernel
theorem dX12_asks_58 : decode cX12_asks 58 = .ok (.iastore, 1) := by decide +kernel
theorem dX12_asks_59 : decode cX12_asks 59 = .ok (.aload_n 0, 1) := by decide +kernel
theorem dX12_asks_60 : decode cX12_asks 60 = .ok (.getfield 7, 3) := by decide +kernel
theorem dX12_asks_63 : decode cX12_asks 63 = .ok (.iconst 2, 1) := by decide +kernel
theorem dX12_asks_64 : decode cX12_asks 64 = .ok (.iload_n 1, 1) := by decide +kernel
theorem dX12_asks_65 : decode cX12_asks 65 = .ok (.iastore, 1) := by decide +kernel
theorem dX12_asks_66 : decode cX12_asks 66 = .ok (.aload_n 0, 1) := by decide +kernel
theorem dX12_asks_67 : decode cX12_asks 67 = .ok (.getfield 7, 3) := by decide +kernel
theorem dX12_asks_70 : decode cX12_asks 70 = .ok (.iconst 0, 1) := by decide +kernel
theorem dX12_asks_71 : decode cX12_asks 71 = .ok (.aload_n 0, 1) := by decide +kernel
theorem dX12_asks_72 : decode cX12_asks 72 = .ok (.iload_n 1, 1) := by decide +kernel
theorem dX12_asks_73 : decode cX12_asks 73 = .ok (.aload_n 0, 1) := by decide +kernel
theorem dX12_asks_74 : decode cX12_asks 74 = .ok (.getfield 7, 3) := by decide +kernel
theorem dX12_asks_77 : decode cX12_asks 77 = .ok (.iconst 0, 1) := by decide +kernel
theorem dX12_asks_78 : decode cX12_asks 78 = .ok (.iaload, 1) := by decide +kernel
theorem dX12_asks_79 : decode cX12_asks 79 = .ok (.invokevirtual 306, 3) := by decide +kernel
theorem dX12_asks_82 : decode cX12_asks 82 = .ok (.iastore, 1) := by decide +kernel
theorem dX12_asks_83 : decode cX12_asks 83 = .ok (.aload_n 0, 1) := by decide +kernel
theorem dX12_asks_84 : decode cX12_asks 84 = .ok (.aload_n 0, 1) := by decide +kernel
theorem dX12_asks_85 : decode cX12_asks 85 = .ok (.getfield 309, 3) := by decide +kernel
theorem dX12_asks_88 : decode cX12_asks 88 = .ok (.iload_n 2, 1) := by decide +kernel
theorem dX12_asks_89 : decode cX12_asks 89 = .ok (.iadd, 1) := by decide +kernel
theorem dX12_asks_90 : decode cX12_asks 90 = .ok (.putfield 309, 3) := by decide +kernel
theorem dX12_asks_93 : decode cX12_asks 93 = .ok (.return_, 1) := by decide +kernel
theorem dX12_answer_0 : decode cX12_answer 0 = .ok (.aload_n 0, 1) := by decide +kernel
theorem dX12_answer_1 : decode cX12_answer 1 = .ok (.getfield 22, 3) := by decide +kernel
theorem dX12_answer_4 : decode cX12_answer 4 = .ok (.bipush 10, 2) := by decide +kernel
theorem dX12_answer_6 : decode cX12_answer 6 = .ok (.iload_n 1, 1) := by decide +kernel
theorem dX12_answer_7 : decode cX12_answer 7 = .ok (.imul, 1) := by decide +kernel
theorem dX12_answer_8 : decode cX12_answer 8 = .ok (.iload_n 2, 1) := by decide +kernel
theorem dX12_answer_9 : decode cX12_answer 9 = .ok (.iadd, 1) := by decide +kernel
theorem dX12_answer_10 : decode cX12_answer 10 = .ok (.iaload, 1) := by decide +kernel
theorem dX12_answer_11 : decode cX12_answer 11 = .ok (.ireturn, 1) := by decide +kernel
theorem dX12_min_0 : decode cX12_min 0 = .ok (.iload_n 0, 1) := by decide +kernel
theorem dX12_min_1 : decode cX12_min 1 = .ok (.iload_n 1, 1) := by decide +kernel
theorem dX12_min_2 : decode cX12_min 2 = .ok (.if_icmp .ge 7, 3) := by decide +kernel
theorem dX12_min_5 : decode cX12_min 5 = .ok (.iload_n 0, 1) := by decide +kernel
theorem dX12_min_6 : decode cX12_min 6 = .ok (.goto 4, 3) := by decide +kernel
theorem dX12_min_9 : decode cX12_min 9 = .ok (.iload_n 1, 1) := by decide +kernel
theorem dX12_min_10 : decode cX12_min 10 = .ok (.ireturn, 1) := by decide +kernel
theorem dX12_behind_0 : decode cX12_behind 0 = .ok (.aload_n 0, 1) := by decide +kernel
theorem dX12_behind_1 : decode cX12_behind 1 = .ok (.getfield 25, 3) := by decide +kernel
theorem dX12_behind_4 : decode cX12_behind 4 = .ok (.bipush 10, 2) := by decide +kernel
theorem dX12_behind_6 : decode cX12_behind 6 = .ok (.iload_n 1, 1) := by decide +kernel
theorem dX12_behind_7 : decode cX12_behind 7 = .ok (.imul, 1) := by decide +kernel
theorem dX12_behind_8 : decode cX12_behind 8 = .ok (.iload_n 2, 1) := by decide +kernel
theorem dX12_behind_9 : decode cX12_behind 9 = .ok (.iadd, 1) := by decide +kernel
theorem dX12_behind_10 : decode cX12_behind 10 = .ok (.iaload, 1) := by decide +kernel
theorem dX12_behind_11 : decode cX12_behind 11 = .ok (.ireturn, 1) := by decide +kernel
theorem dX12_look_0 : decode cX12_look 0 = .ok (.aload_n 0, 1) := by decide +kernel
theorem dX12_look_1 : decode cX12_look 1 = .ok (.getfield 123, 3) := by decide +kernel
theorem dX12_look_4 : decode cX12_look 4 = .ok (.ifCond .eq 42, 3) := by decide +kernel
theorem dX12_look_7 : decode cX12_look 7 = .ok (.iload_n 1, 1) := by decide +kernel
theorem dX12_look_8 : decode cX12_look 8 = .ok (.iconst 1, 1) := by decide +kernel
theorem dX12_look_9 : decode cX12_look 9 = .ok (.bipush 60, 2) := by decide +kernel
theorem dX12_look_11 : decode cX12_look 11 = .ok (.invokestatic 127, 3) := by decide +kernel
theorem dX12_look_14 : decode cX12_look 14 = .ok (.ifCond .eq 32, 3) := by decide +kernel
theorem dX12_look_17 : decode cX12_look 17 = .ok (.iload_n 2, 1) := by decide +kernel
theorem dX12_look_18 : decode cX12_look 18 = .ok (.iconst 0, 1) := by decide +kernel
theorem dX12_look_19 : decode cX12_look 19 = .ok (.bipush 39, 2) := by decide +kernel
theorem dX12_look_21 : decode cX12_look 21 = .ok (.invokestatic 127, 3) := by decide +kernel
theorem dX12_look_24 : decode cX12_look 24 = .ok (.ifCond .ne 14, 3) := by decide +kernel
theorem dX12_look_27 : decode cX12_look 27 = .ok (.iload_n 2, 1) := by decide +kernel
theorem dX12_look_28 : decode cX12_look 28 = .ok (.bipush 100, 2) := by decide +kernel
theorem dX12_look_30 : decode cX12_look 30 = .ok (.bipush 104, 2) := by decide +kernel
theorem dX12_look_32 : decode cX12_look 32 = .ok (.invokestatic 127, 3) := by decide +kernel
theorem dX12_look_35 : decode cX12_look 35 = .ok (.ifCond .eq 11, 3) := by decide +kernel
theorem dX12_look_38 : decode cX12_look 38 = .ok (.iload_n 1, 1) := by decide +kernel
theorem dX12_look_39 : decode cX12_look 39 = .ok (.aload_n 0, 1) := by decide +kernel
theorem dX12_look_40 : decode cX12_look 40 = .ok (.getfield 138, 3) := by decide +kernel
theorem dX12_look_43 : decode cX12_look 43 = .ok (.if_icmp .le 5, 3) := by decide +kernel
theorem dX12_look_46 : decode cX12_look 46 = .ok (.iconst (-1), 1) := by decide +kernel
theorem dX12_look_47 : decode cX12_look 47 = .ok (.ireturn, 1) := by decide +kernel
theorem dX12_look_48 : decode cX12_look 48 = .ok (.aload_n 0, 1) := by decide +kernel
theorem dX12_look_49 : decode cX12_look 49 = .ok (.iload_n 1, 1) := by decide +kernel
theorem dX12_look_50 : decode cX12_look 50 = .ok (.invokevirtual 312, 3) := by decide +kernel
theorem dX12_look_53 : decode cX12_look 53 = .ok (.ifCond .ne 8, 3) := by decide +kernel
theorem dX12_look_56 : decode cX12_look 56 = .ok (.aload_n 0, 1) := by decide +kernel
theorem dX12_look_57 : decode cX12_look 57 = .ok (.getfield 155, 3) := by decide +kernel
theorem dX12_look_60 : decode cX12_look 60 = .ok (.ireturn, 1) := by decide +kernel
theorem dX12_look_61 : decode cX12_look 61 = .ok (.aload_n 0, 1) := by decide +kernel
theorem dX12_look_62 : decode cX12_look 62 = .ok (.iload_n 2, 1) := by decide +kernel
theorem dX12_look_63 : decode cX12_look 63 = .ok (.invokevirtual 328, 3) := by decide +kernel
theorem dX12_look_66 : decode cX12_look 66 = .ok (.aload_n 0, 1) := by decide +kernel
theorem dX12_look_67 : decode cX12_look 67 = .ok (.getfield 7, 3) := by decide +kernel
theorem dX12_look_70 : decode cX12_look 70 = .ok (.iconst 1, 1) := by decide +kernel
theorem dX12_look_71 : decode cX12_look 71 = .ok (.iaload, 1) := by decide +kernel
theorem dX12_look_72 : decode cX12_look 72 = .ok (.istore_n 3, 1) := by decide +kernel
theorem dX12_look_73 : decode cX12_look 73 = .ok (.aload_n 0, 1) := by decide +kernel
theorem dX12_look_74 : decode cX12_look 74 = .ok (.getfield 7, 3) := by decide +kernel
theorem dX12_look_77 : decode cX12_look 77 = .ok (.iconst 0, 1) := by decide +kernel
theorem dX12_look_78 : decode cX12_look 78 = .ok (.iaload, 1) := by decide +kernel
theorem dX12_look_79 : decode cX12_look 79 = .ok (.istore 4, 2) := by decide +kernel
theorem dX12_look_81 : decode cX12_look 81 = .ok (.aload_n 0, 1) := by decide +kernel
theorem dX12_look_82 : decode cX12_look 82 = .ok (.getfield 13, 3) := by decide +kernel
theorem dX12_look_85 : decode cX12_look 85 = .ok (.aload_n 0, 1) := by decide +kernel
theorem dX12_look_86 : decode cX12_look 86 = .ok (.getfield 7, 3) := by decide +kernel
theorem dX12_look_89 : decode cX12_look 89 = .ok (.invokestatic 318, 3) := by decide +kernel
theorem dX12_look_92 : decode cX12_look 92 = .ok (.iload_n 2, 1) := by decide +kernel
theorem dX12_look_93 : decode cX12_look 93 = .ok (.tableswitch 55 100 104 #[35, 37, 40, 45, 50], 35) := by decide +kernel
theorem dX12_look_128 : decode cX12_look 128 = .ok (.iload_n 3, 1) := by decide +kernel
theorem dX12_look_129 : decode cX12_look 129 = .ok (.ireturn, 1) := by decide +kernel
theorem dX12_look_130 : decode cX12_look 130 = .ok (.iload 4, 2) := by decide +kernel
theorem dX12_look_132 : decode cX12_look 132 = .ok (.ireturn, 1) := by decide +kernel
theorem dX12_look_133 : decode cX12_look 133 = .ok (.aload_n 0, 1) := by decide +kernel
theorem dX12_look_134 : decode cX12_look 134 = .ok (.getfield 309, 3) := by decide +kernel
theorem dX12_look_137 : decode cX12_look 137 = .ok (.ireturn, 1) := by decide +kernel
theorem dX12_look_138 : decode cX12_look 138 = .ok (.aload_n 0, 1) := by decide +kernel
theorem dX12_look_139 : decode cX12_look 139 = .ok (.getfield 284, 3) := by decide +kernel
theorem dX12_look_142 : decode cX12_look 142 = .ok (.ireturn, 1) := by decide +kernel
theorem dX12_look_143 : decode cX12_look 143 = .ok (.aload_n 0, 1) := by decide +kernel
theorem dX12_look_144 : decode cX12_look 144 = .ok (.getfield 322, 3) := by decide +kernel
theorem dX12_look_147 : decode cX12_look 147 = .ok (.ireturn, 1) := by decide +kernel
theorem dX12_look_148 : decode cX12_look 148 = .ok (.iload_n 2, 1) := by decide +kernel
theorem dX12_look_149 : decode cX12_look 149 = .ok (.aload_n 0, 1) := by decide +kernel
theorem dX12_look_150 : decode cX12_look 150 = .ok (.getfield 284, 3) := by decide +kernel
theorem dX12_look_153 : decode cX12_look 153 = .ok (.if_icmp .ge 10, 3) := by decide +kernel
theorem dX12_look_156 : decode cX12_look 156 = .ok (.aload_n 0, 1) := by decide +kernel
theorem dX12_look_157 : decode cX12_look 157 = .ok (.getfield 325, 3) := by decide +kernel
theorem dX12_look_160 : decode cX12_look 160 = .ok (.goto 5, 3) := by decide +kernel
theorem dX12_look_163 : decode cX12_look 163 = .ok (.bipush (-4), 2) := by decide +kernel
theorem dX12_look_165 : decode cX12_look 165 = .ok (.ireturn, 1) := by decide +kernel
theorem dX12_looks_0 : decode cX12_looks 0 = .ok (.aload_n 0, 1) := by decide +kernel
theorem dX12_looks_1 : decode cX12_looks 1 = .ok (.getfield 7, 3) := by decide +kernel
theorem dX12_looks_4 : decode cX12_looks 4 = .ok (.aload_n 0, 1) := by decide +kernel
theorem dX12_looks_5 : decode cX12_looks 5 = .ok (.getfield 13, 3) := by decide +kernel
theorem dX12_looks_8 : decode cX12_looks 8 = .ok (.invokestatic 318, 3) := by decide +kernel
theorem dX12_looks_11 : decode cX12_looks 11 = .ok (.aload_n 0, 1) := by decide +kernel
theorem dX12_looks_12 : decode cX12_looks 12 = .ok (.iconst 0, 1) := by decide +kernel
theorem dX12_looks_13 : decode cX12_looks 13 = .ok (.putfield 309, 3) := by decide +kernel
theorem dX12_looks_16 : decode cX12_looks 16 = .ok (.aload_n 0, 1) := by decide +kernel
theorem dX12_looks_17 : decode cX12_looks 17 = .ok (.iconst 1, 1) := by decide +kernel
theorem dX12_looks_18 : decode cX12_looks 18 = .ok (.aload_n 0, 1) := by decide +kernel
theorem dX12_looks_19 : decode cX12_looks 19 = .ok (.getfield 7, 3) := by decide +kernel
theorem dX12_looks_22 : decode cX12_looks 22 = .ok (.iconst 0, 1) := by decide +kernel
theorem dX12_looks_23 : decode cX12_looks 23 = .ok (.iaload, 1) := by decide +kernel
theorem dX12_looks_24 : decode cX12_looks 24 = .ok (.ishl, 1) := by decide +kernel
theorem dX12_looks_25 : decode cX12_looks 25 = .ok (.putfield 322, 3) := by decide +kernel
theorem dX12_looks_28 : decode cX12_looks 28 = .ok (.iconst 0, 1) := by decide +kernel
theorem dX12_looks_29 : decode cX12_looks 29 = .ok (.istore_n 2, 1) := by decide +kernel
theorem dX12_looks_30 : decode cX12_looks 30 = .ok (.iload_n 2, 1) := by decide +kernel
theorem dX12_looks_31 : decode cX12_looks 31 = .ok (.aload_n 0, 1) := by decide +kernel
theorem dX12_looks_32 : decode cX12_looks 32 = .ok (.getfield 284, 3) := by decide +kernel
theorem dX12_looks_35 : decode cX12_looks 35 = .ok (.if_icmp .ge 51, 3) := by decide +kernel
theorem dX12_looks_38 : decode cX12_looks 38 = .ok (.aload_n 0, 1) := by decide +kernel
theorem dX12_looks_39 : decode cX12_looks 39 = .ok (.aload_n 0, 1) := by decide +kernel
theorem dX12_looks_40 : decode cX12_looks 40 = .ok (.getfield 77, 3) := by decide +kernel
theorem dX12_looks_43 : decode cX12_looks 43 = .ok (.iload_n 2, 1) := by decide +kernel
theorem dX12_looks_44 : decode cX12_looks 44 = .ok (.iaload, 1) := by decide +kernel
theorem dX12_looks_45 : decode cX12_looks 45 = .ok (.invokevirtual 315, 3) := by decide +kernel
theorem dX12_looks_48 : decode cX12_looks 48 = .ok (.aload_n 0, 1) := by decide +kernel
theorem dX12_looks_49 : decode cX12_looks 49 = .ok (.aload_n 0, 1) := by decide +kernel
theorem dX12_looks_50 : decode cX12_looks 50 = .ok (.getfield 322, 3) := by decide +kernel
theorem dX12_looks_53 : decode cX12_looks 53 = .ok (.iconst 1, 1) := by decide +kernel
theorem dX12_looks_54 : decode cX12_looks 54 = .ok (.aload_n 0, 1) := by decide +kernel
theorem dX12_looks_55 : decode cX12_looks 55 = .ok (.getfield 7, 3) := by decide +kernel
theorem dX12_looks_58 : decode cX12_looks 58 = .ok (.iconst 0, 1) := by decide +kernel
theorem dX12_looks_59 : decode cX12_looks 59 = .ok (.iaload, 1) := by decide +kernel
theorem dX12_looks_60 : decode cX12_looks 60 = .ok (.ishl, 1) := by decide +kernel
theorem dX12_looks_61 : decode cX12_looks 61 = .ok (.ior, 1) := by decide +kernel
theorem dX12_looks_62 : decode cX12_looks 62 = .ok (.putfield 322, 3) := by decide +kernel
theorem dX12_looks_65 : decode cX12_looks 65 = .ok (.iload_n 2, 1) := by decide +kernel
theorem dX12_looks_66 : decode cX12_looks 66 = .ok (.iload_n 1, 1) := by decide +kernel
theorem dX12_looks_67 : decode cX12_looks 67 = .ok (.if_icmp .ne 13, 3) := by decide +kernel
theorem dX12_looks_70 : decode cX12_looks 70 = .ok (.aload_n 0, 1) := by decide +kernel
theorem dX12_looks_71 : decode cX12_looks 71 = .ok (.aload_n 0, 1) := by decide +kernel
theorem dX12_looks_72 : decode cX12_looks 72 = .ok (.getfield 7, 3) := by decide +kernel
theorem dX12_looks_75 : decode cX12_looks 75 = .ok (.iconst 1, 1) := by decide +kernel
theorem dX12_looks_76 : decode cX12_looks 76 = .ok (.iaload, 1) := by decide +kernel
theorem dX12_looks_77 : decode cX12_looks 77 = .ok (.putfield 325, 3) := by decide +kernel
theorem dX12_looks_80 : decode cX12_looks 80 = .ok (.iinc 2 1, 3) := by decide +kernel
theorem dX12_looks_83 : decode cX12_looks 83 = .ok (.goto (-53), 3) := by decide +kernel
theorem dX12_looks_86 : decode cX12_looks 86 = .ok (.return_, 1) := by decide +kernel
theorem dX12_copies_0 : decode cX12_copies 0 = .ok (.iconst 0, 1) := by decide +kernel
theorem dX12_copies_1 : decode cX12_copies 1 = .ok (.istore_n 2, 1) := by decide +kernel
theorem dX12_copies_2 : decode cX12_copies 2 = .ok (.iload_n 2, 1) := by decide +kernel
theorem dX12_copies_3 : decode cX12_copies 3 = .ok (.bipush 8, 2) := by decide +kernel
theorem dX12_copies_5 : decode cX12_copies 5 = .ok (.if_icmp .ge 15, 3) := by decide +kernel
theorem dX12_copies_8 : decode cX12_copies 8 = .ok (.aload_n 1, 1) := by decide +kernel
theorem dX12_copies_9 : decode cX12_copies 9 = .ok (.iload_n 2, 1) := by decide +kernel
theorem dX12_copies_10 : decode cX12_copies 10 = .ok (.aload_n 0, 1) := by decide +kernel
theorem dX12_copies_11 : decode cX12_copies 11 = .ok (.iload_n 2, 1) := by decide +kernel
theorem dX12_copies_12 : decode cX12_copies 12 = .ok (.iaload, 1) := by decide +kernel
theorem dX12_copies_13 : decode cX12_copies 13 = .ok (.iastore, 1) := by decide +kernel
theorem dX12_copies_14 : decode cX12_copies 14 = .ok (.iinc 2 1, 3) := by decide +kernel
theorem dX12_copies_17 : decode cX12_copies 17 = .ok (.goto (-15), 3) := by decide +kernel
theorem dX12_copies_20 : decode cX12_copies 20 = .ok (.return_, 1) := by decide +kernel
theorem dX12_days_0 : decode cX12_days 0 = .ok (.iload_n 1, 1) := by decide +kernel
theorem dX12_days_1 : decode cX12_days 1 = .ok (.iconst 1, 1) := by decide +kernel
theorem dX12_days_2 : decode cX12_days 2 = .ok (.bipush 100, 2) := by decide +kernel
theorem dX12_days_4 : decode cX12_days 4 = .ok (.invokestatic 127, 3) := by decide +kernel
theorem dX12_days_7 : decode cX12_days 7 = .ok (.ifCond .ne 5, 3) := by decide +kernel
theorem dX12_days_10 : decode cX12_days 10 = .ok (.iconst (-1), 1) := by decide +kernel
theorem dX12_days_11 : decode cX12_days 11 = .ok (.ireturn, 1) := by decide +kernel
theorem dX12_days_12 : decode cX12_days 12 = .ok (.aload_n 0, 1) := by decide +kernel
theorem dX12_days_13 : decode cX12_days 13 = .ok (.iload_n 1, 1) := by decide +kernel
theorem dX12_days_14 : decode cX12_days 14 = .ok (.invokevirtual 351, 3) := by decide +kernel
theorem dX12_days_17 : decode cX12_days 17 = .ok (.aload_n 0, 1) := by decide +kernel
theorem dX12_days_18 : decode cX12_days 18 = .ok (.getfield 345, 3) := by decide +kernel
theorem dX12_days_21 : decode cX12_days 21 = .ok (.ireturn, 1) := by decide +kernel
theorem dX12_daysGo_0 : decode cX12_daysGo 0 = .ok (.aload_n 0, 1) := by decide +kernel
theorem dX12_daysGo_1 : decode cX12_daysGo 1 = .ok (.iconst 0, 1) := by decide +kernel
theorem dX12_daysGo_2 : decode cX12_daysGo 2 = .ok (.putfield 345, 3) := by decide +kernel
theorem dX12_daysGo_5 : decode cX12_daysGo 5 = .ok (.aload_n 0, 1) := by decide +kernel
theorem dX12_daysGo_6 : decode cX12_daysGo 6 = .ok (.iconst 0, 1) := by decide +kernel
theorem dX12_daysGo_7 : decode cX12_daysGo 7 = .ok (.putfield 309, 3) := by decide +kernel
theorem dX12_daysGo_10 : decode cX12_daysGo 10 = .ok (.iconst 0, 1) := by decide +kernel
theorem dX12_daysGo_11 : decode cX12_daysGo 11 = .ok (.istore_n 2, 1) := by decide +kernel
theorem dX12_daysGo_12 : decode cX12_daysGo 12 = .ok (.iload_n 2, 1) := by decide +kernel
theorem dX12_daysGo_13 : decode cX12_daysGo 13 = .ok (.iload_n 1, 1) := by decide +kernel
theorem dX12_daysGo_14 : decode cX12_daysGo 14 = .ok (.if_icmp .ge 26, 3) := by decide +kernel
theorem dX12_daysGo_17 : decode cX12_daysGo 17 = .ok (.aload_n 0, 1) := by decide +kernel
theorem dX12_daysGo_18 : decode cX12_daysGo 18 = .ok (.getfield 7, 3) := by decide +kernel
theorem dX12_daysGo_21 : decode cX12_daysGo 21 = .ok (.bipush 6, 2) := by decide +kernel
theorem dX12_daysGo_23 : decode cX12_daysGo 23 = .ok (.iaload, 1) := by decide +kernel
theorem dX12_daysGo_24 : decode cX12_daysGo 24 = .ok (.sipush 9999, 3) := by decide +kernel
theorem dX12_daysGo_27 : decode cX12_daysGo 27 = .ok (.if_icmp .ge 13, 3) := by decide +kernel
theorem dX12_daysGo_30 : decode cX12_daysGo 30 = .ok (.aload_n 0, 1) := by decide +kernel
theorem dX12_daysGo_31 : decode cX12_daysGo 31 = .ok (.invokevirtual 348, 3) := by decide +kernel
theorem dX12_daysGo_34 : decode cX12_daysGo 34 = .ok (.iinc 2 1, 3) := by decide +kernel
theorem dX12_daysGo_37 : decode cX12_daysGo 37 = .ok (.goto (-25), 3) := by decide +kernel
theorem dX12_daysGo_40 : decode cX12_daysGo 40 = .ok (.return_, 1) := by decide +kernel
theorem dX12_dayGoes_0 : decode cX12_dayGoes 0 = .ok (.aload_n 0, 1) := by decide +kernel
theorem dX12_dayGoes_1 : decode cX12_dayGoes 1 = .ok (.getfield 7, 3) := by decide +kernel
theorem dX12_dayGoes_4 : decode cX12_dayGoes 4 = .ok (.bipush 7, 2) := by decide +kernel
theorem dX12_dayGoes_6 : decode cX12_dayGoes 6 = .ok (.sipush 25173, 3) := by decide +kernel
theorem dX12_dayGoes_9 : decode cX12_dayGoes 9 = .ok (.aload_n 0, 1) := by decide +kernel
theorem dX12_dayGoes_10 : decode cX12_dayGoes 10 = .ok (.getfield 7, 3) := by decide +kernel
theorem dX12_dayGoes_13 : decode cX12_dayGoes 13 = .ok (.bipush 7, 2) := by decide +kernel
theorem dX12_dayGoes_15 : decode cX12_dayGoes 15 = .ok (.iaload, 1) := by decide +kernel
theorem dX12_dayGoes_16 : decode cX12_dayGoes 16 = .ok (.imul, 1) := by decide +kernel
theorem dX12_dayGoes_17 : decode cX12_dayGoes 17 = .ok (.sipush 13849, 3) := by decide +kernel
theorem dX12_dayGoes_20 : decode cX12_dayGoes 20 = .ok (.iadd, 1) := by decide +kernel
theorem dX12_dayGoes_21 : decode cX12_dayGoes 21 = .ok (.ldc_w 341, 3) := by decide +kernel
theorem dX12_dayGoes_24 : decode cX12_dayGoes 24 = .ok (.irem, 1) := by decide +kernel
theorem dX12_dayGoes_25 : decode cX12_dayGoes 25 = .ok (.iastore, 1) := by decide +kernel
theorem dX12_dayGoes_26 : decode cX12_dayGoes 26 = .ok (.aload_n 0, 1) := by decide +kernel
theorem dX12_dayGoes_27 : decode cX12_dayGoes 27 = .ok (.getfield 7, 3) := by decide +kernel
theorem dX12_dayGoes_30 : decode cX12_dayGoes 30 = .ok (.bipush 7, 2) := by decide +kernel
theorem dX12_dayGoes_32 : decode cX12_dayGoes 32 = .ok (.iaload, 1) := by decide +kernel
theorem dX12_dayGoes_33 : decode cX12_dayGoes 33 = .ok (.bipush 10, 2) := by decide +kernel
theorem dX12_dayGoes_35 : decode cX12_dayGoes 35 = .ok (.irem, 1) := by decide +kernel
theorem dX12_dayGoes_36 : decode cX12_dayGoes 36 = .ok (.istore_n 1, 1) := by decide +kernel
theorem dX12_dayGoes_37 : decode cX12_dayGoes 37 = .ok (.aload_n 0, 1) := by decide +kernel
theorem dX12_dayGoes_38 : decode cX12_dayGoes 38 = .ok (.getfield 123, 3) := by decide +kernel
theorem dX12_dayGoes_41 : decode cX12_dayGoes 41 = .ok (.ifCond .ne 7, 3) := by decide +kernel
theorem dX12_dayGoes_44 : decode cX12_dayGoes 44 = .ok (.iconst (-1), 1) := by decide +kernel
theorem dX12_dayGoes_45 : decode cX12_dayGoes 45 = .ok (.goto 8, 3) := by decide +kernel
theorem dX12_dayGoes_48 : decode cX12_dayGoes 48 = .ok (.aload_n 0, 1) := by decide +kernel
theorem dX12_dayGoes_49 : decode cX12_dayGoes 49 = .ok (.iload_n 1, 1) := by decide +kernel
theorem dX12_dayGoes_50 : decode cX12_dayGoes 50 = .ok (.invokevirtual 342, 3) := by decide +kernel
theorem dX12_dayGoes_53 : decode cX12_dayGoes 53 = .ok (.istore_n 2, 1) := by decide +kernel
theorem dX12_dayGoes_54 : decode cX12_dayGoes 54 = .ok (.iload_n 2, 1) := by decide +kernel
theorem dX12_dayGoes_55 : decode cX12_dayGoes 55 = .ok (.iconst (-1), 1) := by decide +kernel
theorem dX12_dayGoes_56 : decode cX12_dayGoes 56 = .ok (.if_icmp .eq 71, 3) := by decide +kernel
theorem dX12_dayGoes_59 : decode cX12_dayGoes 59 = .ok (.aload_n 0, 1) := by decide +kernel
theorem dX12_dayGoes_60 : decode cX12_dayGoes 60 = .ok (.getfield 7, 3) := by decide +kernel
theorem dX12_dayGoes_63 : decode cX12_dayGoes 63 = .ok (.iconst 3, 1) := by decide +kernel
theorem dX12_dayGoes_64 : decode cX12_dayGoes 64 = .ok (.aload_n 0, 1) := by decide +kernel
theorem dX12_dayGoes_65 : decode cX12_dayGoes 65 = .ok (.getfield 7, 3) := by decide +kernel
theorem dX12_dayGoes_68 : decode cX12_dayGoes 68 = .ok (.iconst 3, 1) := by decide +kernel
theorem dX12_dayGoes_69 : decode cX12_dayGoes 69 = .ok (.iaload, 1) := by decide +kernel
theorem dX12_dayGoes_70 : decode cX12_dayGoes 70 = .ok (.aload_n 0, 1) := by decide +kernel
theorem dX12_dayGoes_71 : decode cX12_dayGoes 71 = .ok (.getfield 19, 3) := by decide +kernel
theorem dX12_dayGoes_74 : decode cX12_dayGoes 74 = .ok (.iload_n 2, 1) := by decide +kernel
theorem dX12_dayGoes_75 : decode cX12_dayGoes 75 = .ok (.iaload, 1) := by decide +kernel
theorem dX12_dayGoes_76 : decode cX12_dayGoes 76 = .ok (.isub, 1) := by decide +kernel
theorem dX12_dayGoes_77 : decode cX12_dayGoes 77 = .ok (.iastore, 1) := by decide +kernel
theorem dX12_dayGoes_78 : decode cX12_dayGoes 78 = .ok (.aload_n 0, 1) := by decide +kernel
theorem dX12_dayGoes_79 : decode cX12_dayGoes 79 = .ok (.iload_n 2, 1) := by decide +kernel
theorem dX12_dayGoes_80 : decode cX12_dayGoes 80 = .ok (.invokevirtual 315, 3) := by decide +kernel
theorem dX12_dayGoes_83 : decode cX12_dayGoes 83 = .ok (.aload_n 0, 1) := by decide +kernel
theorem dX12_dayGoes_84 : decode cX12_dayGoes 84 = .ok (.aload_n 0, 1) := by decide +kernel
theorem dX12_dayGoes_85 : decode cX12_dayGoes 85 = .ok (.getfield 345, 3) := by decide +kernel
theorem dX12_dayGoes_88 : decode cX12_dayGoes 88 = .ok (.iconst 1, 1) := by decide +kernel
theorem dX12_dayGoes_89 : decode cX12_dayGoes 89 = .ok (.iadd, 1) := by decide +kernel
theorem dX12_dayGoes_90 : decode cX12_dayGoes 90 = .ok (.putfield 345, 3) := by decide +kernel
theorem dX12_dayGoes_93 : decode cX12_dayGoes 93 = .ok (.aload_n 0, 1) := by decide +kernel
theorem dX12_dayGoes_94 : decode cX12_dayGoes 94 = .ok (.iload_n 2, 1) := by decide +kernel
theorem dX12_dayGoes_95 : decode cX12_dayGoes 95 = .ok (.iload_n 2, 1) := by decide +kernel
theorem dX12_dayGoes_96 : decode cX12_dayGoes 96 = .ok (.iload_n 1, 1) := by decide +kernel
theorem dX12_dayGoes_97 : decode cX12_dayGoes 97 = .ok (.invokevirtual 331, 3) := by decide +kernel
theorem dX12_dayGoes_100 : decode cX12_dayGoes 100 = .ok (.aload_n 0, 1) := by decide +kernel
theorem dX12_dayGoes_101 : decode cX12_dayGoes 101 = .ok (.getfield 7, 3) := by decide +kernel
theorem dX12_dayGoes_104 : decode cX12_dayGoes 104 = .ok (.iconst 3, 1) := by decide +kernel
theorem dX12_dayGoes_105 : decode cX12_dayGoes 105 = .ok (.sipush 9999, 3) := by decide +kernel
theorem dX12_dayGoes_108 : decode cX12_dayGoes 108 = .ok (.aload_n 0, 1) := by decide +kernel
theorem dX12_dayGoes_109 : decode cX12_dayGoes 109 = .ok (.getfield 7, 3) := by decide +kernel
theorem dX12_dayGoes_112 : decode cX12_dayGoes 112 = .ok (.iconst 3, 1) := by decide +kernel
theorem dX12_dayGoes_113 : decode cX12_dayGoes 113 = .ok (.iaload, 1) := by decide +kernel
theorem dX12_dayGoes_114 : decode cX12_dayGoes 114 = .ok (.aload_n 0, 1) := by decide +kernel
theorem dX12_dayGoes_115 : decode cX12_dayGoes 115 = .ok (.bipush 103, 2) := by decide +kernel
theorem dX12_dayGoes_117 : decode cX12_dayGoes 117 = .ok (.bipush 99, 2) := by decide +kernel
theorem dX12_dayGoes_119 : decode cX12_dayGoes 119 = .ok (.invokevirtual 338, 3) := by decide +kernel
theorem dX12_dayGoes_122 : decode cX12_dayGoes 122 = .ok (.iadd, 1) := by decide +kernel
theorem dX12_dayGoes_123 : decode cX12_dayGoes 123 = .ok (.invokestatic 302, 3) := by decide +kernel
theorem dX12_dayGoes_126 : decode cX12_dayGoes 126 = .ok (.iastore, 1) := by decide +kernel
theorem dX12_dayGoes_127 : decode cX12_dayGoes 127 = .ok (.aload_n 0, 1) := by decide +kernel
theorem dX12_dayGoes_128 : decode cX12_dayGoes 128 = .ok (.getfield 7, 3) := by decide +kernel
theorem dX12_dayGoes_131 : decode cX12_dayGoes 131 = .ok (.bipush 6, 2) := by decide +kernel
theorem dX12_dayGoes_133 : decode cX12_dayGoes 133 = .ok (.aload_n 0, 1) := by decide +kernel
theorem dX12_dayGoes_134 : decode cX12_dayGoes 134 = .ok (.getfield 7, 3) := by decide +kernel
theorem dX12_dayGoes_137 : decode cX12_dayGoes 137 = .ok (.bipush 6, 2) := by decide +kernel
theorem dX12_dayGoes_139 : decode cX12_dayGoes 139 = .ok (.iaload, 1) := by decide +kernel
theorem dX12_dayGoes_140 : decode cX12_dayGoes 140 = .ok (.iconst 1, 1) := by decide +kernel
theorem dX12_dayGoes_141 : decode cX12_dayGoes 141 = .ok (.iadd, 1) := by decide +kernel
theorem dX12_dayGoes_142 : decode cX12_dayGoes 142 = .ok (.iastore, 1) := by decide +kernel
theorem dX12_dayGoes_143 : decode cX12_dayGoes 143 = .ok (.return_, 1) := by decide +kernel
theorem dX12_likedMost_0 : decode cX12_likedMost 0 = .ok (.iconst (-1), 1) := by decide +kernel
theorem dX12_likedMost_1 : decode cX12_likedMost 1 = .ok (.istore_n 2, 1) := by decide +kernel
theorem dX12_likedMost_2 : decode cX12_likedMost 2 = .ok (.iconst 0, 1) := by decide +kernel
theorem dX12_likedMost_3 : decode cX12_likedMost 3 = .ok (.istore_n 3, 1) := by decide +kernel
theorem dX12_likedMost_4 : decode cX12_likedMost 4 = .ok (.iconst 0, 1) := by decide +kernel
theorem dX12_likedMost_5 : decode cX12_likedMost 5 = .ok (.istore 4, 2) := by decide +kernel
theorem dX12_likedMost_7 : decode cX12_likedMost 7 = .ok (.iload 4, 2) := by decide +kernel
theorem dX12_likedMost_9 : decode cX12_likedMost 9 = .ok (.bipush 8, 2) := by decide +kernel
theorem dX12_likedMost_11 : decode cX12_likedMost 11 = .ok (.if_icmp .ge 76, 3) := by decide +kernel
theorem dX12_likedMost_14 : decode cX12_likedMost 14 = .ok (.aload_n 0, 1) := by decide +kernel
theorem dX12_likedMost_15 : decode cX12_likedMost 15 = .ok (.iload 4, 2) := by decide +kernel
theorem dX12_likedMost_17 : decode cX12_likedMost 17 = .ok (.aload_n 0, 1) := by decide +kernel
theorem dX12_likedMost_18 : decode cX12_likedMost 18 = .ok (.getfield 7, 3) := by decide +kernel
theorem dX12_likedMost_21 : decode cX12_likedMost 21 = .ok (.iconst 2, 1) := by decide +kernel
theorem dX12_likedMost_22 : decode cX12_likedMost 22 = .ok (.iaload, 1) := by decide +kernel
theorem dX12_likedMost_23 : decode cX12_likedMost 23 = .ok (.iload_n 1, 1) := by decide +kernel
theorem dX12_likedMost_24 : decode cX12_likedMost 24 = .ok (.invokevirtual 331, 3) := by decide +kernel
theorem dX12_likedMost_27 : decode cX12_likedMost 27 = .ok (.aload_n 0, 1) := by decide +kernel
theorem dX12_likedMost_28 : decode cX12_likedMost 28 = .ok (.getfield 19, 3) := by decide +kernel
theorem dX12_likedMost_31 : decode cX12_likedMost 31 = .ok (.iload 4, 2) := by decide +kernel
theorem dX12_likedMost_33 : decode cX12_likedMost 33 = .ok (.iaload, 1) := by decide +kernel
theorem dX12_likedMost_34 : decode cX12_likedMost 34 = .ok (.aload_n 0, 1) := by decide +kernel
theorem dX12_likedMost_35 : decode cX12_likedMost 35 = .ok (.getfield 7, 3) := by decide +kernel
theorem dX12_likedMost_38 : decode cX12_likedMost 38 = .ok (.iconst 3, 1) := by decide +kernel
theorem dX12_likedMost_39 : decode cX12_likedMost 39 = .ok (.iaload, 1) := by decide +kernel
theorem dX12_likedMost_40 : decode cX12_likedMost 40 = .ok (.if_icmp .gt 41, 3) := by decide +kernel
theorem dX12_likedMost_43 : decode cX12_likedMost 43 = .ok (.aload_n 0, 1) := by decide +kernel
theorem dX12_likedMost_44 : decode cX12_likedMost 44 = .ok (.bipush 120, 2) := by decide +kernel
theorem dX12_likedMost_46 : decode cX12_likedMost 46 = .ok (.invokevirtual 335, 3) := by decide +kernel
theorem dX12_likedMost_49 : decode cX12_likedMost 49 = .ok (.ifCond .eq 6, 3) := by decide +kernel
theorem dX12_likedMost_52 : decode cX12_likedMost 52 = .ok (.goto 29, 3) := by decide +kernel
theorem dX12_likedMost_55 : decode cX12_likedMost 55 = .ok (.aload_n 0, 1) := by decide +kernel
theorem dX12_likedMost_56 : decode cX12_likedMost 56 = .ok (.bipush 101, 2) := by decide +kernel
theorem dX12_likedMost_58 : decode cX12_likedMost 58 = .ok (.sipush 9999, 3) := by decide +kernel
theorem dX12_likedMost_61 : decode cX12_likedMost 61 = .ok (.invokevirtual 338, 3) := by decide +kernel
theorem dX12_likedMost_64 : decode cX12_likedMost 64 = .ok (.istore 5, 2) := by decide +kernel
theorem dX12_likedMost_66 : decode cX12_likedMost 66 = .ok (.iload 5, 2) := by decide +kernel
theorem dX12_likedMost_68 : decode cX12_likedMost 68 = .ok (.iload_n 3, 1) := by decide +kernel
theorem dX12_likedMost_69 : decode cX12_likedMost 69 = .ok (.if_icmp .gt 6, 3) := by decide +kernel
theorem dX12_likedMost_72 : decode cX12_likedMost 72 = .ok (.goto 9, 3) := by decide +kernel
theorem dX12_likedMost_75 : decode cX12_likedMost 75 = .ok (.iload 5, 2) := by decide +kernel
theorem dX12_likedMost_77 : decode cX12_likedMost 77 = .ok (.istore_n 3, 1) := by decide +kernel
theorem dX12_likedMost_78 : decode cX12_likedMost 78 = .ok (.iload 4, 2) := by decide +kernel
theorem dX12_likedMost_80 : decode cX12_likedMost 80 = .ok (.istore_n 2, 1) := by decide +kernel
theorem dX12_likedMost_81 : decode cX12_likedMost 81 = .ok (.iinc 4 1, 3) := by decide +kernel
theorem dX12_likedMost_84 : decode cX12_likedMost 84 = .ok (.goto (-77), 3) := by decide +kernel
theorem dX12_likedMost_87 : decode cX12_likedMost 87 = .ok (.iload_n 2, 1) := by decide +kernel
theorem dX12_likedMost_88 : decode cX12_likedMost 88 = .ok (.ireturn, 1) := by decide +kernel
theorem dX12_feels_0 : decode cX12_feels 0 = .ok (.aload_n 0, 1) := by decide +kernel
theorem dX12_feels_1 : decode cX12_feels 1 = .ok (.getfield 68, 3) := by decide +kernel
theorem dX12_feels_4 : decode cX12_feels 4 = .ok (.iconst 0, 1) := by decide +kernel
theorem dX12_feels_5 : decode cX12_feels 5 = .ok (.iload_n 1, 1) := by decide +kernel
theorem dX12_feels_6 : decode cX12_feels 6 = .ok (.iastore, 1) := by decide +kernel
theorem dX12_feels_7 : decode cX12_feels 7 = .ok (.aload_n 0, 1) := by decide +kernel
theorem dX12_feels_8 : decode cX12_feels 8 = .ok (.getfield 68, 3) := by decide +kernel
theorem dX12_feels_11 : decode cX12_feels 11 = .ok (.iconst 1, 1) := by decide +kernel
theorem dX12_feels_12 : decode cX12_feels 12 = .ok (.aload_n 0, 1) := by decide +kernel
theorem dX12_feels_13 : decode cX12_feels 13 = .ok (.getfield 7, 3) := by decide +kernel
theorem dX12_feels_16 : decode cX12_feels 16 = .ok (.iconst 1, 1) := by decide +kernel
theorem dX12_feels_17 : decode cX12_feels 17 = .ok (.iaload, 1) := by decide +kernel
theorem dX12_feels_18 : decode cX12_feels 18 = .ok (.iastore, 1) := by decide +kernel
theorem dX12_feels_19 : decode cX12_feels 19 = .ok (.aload_n 0, 1) := by decide +kernel
theorem dX12_feels_20 : decode cX12_feels 20 = .ok (.getfield 68, 3) := by decide +kernel
theorem dX12_feels_23 : decode cX12_feels 23 = .ok (.iconst 2, 1) := by decide +kernel
theorem dX12_feels_24 : decode cX12_feels 24 = .ok (.iload_n 2, 1) := by decide +kernel
theorem dX12_feels_25 : decode cX12_feels 25 = .ok (.iastore, 1) := by decide +kernel
theorem dX12_feels_26 : decode cX12_feels 26 = .ok (.aload_n 0, 1) := by decide +kernel
theorem dX12_feels_27 : decode cX12_feels 27 = .ok (.getfield 68, 3) := by decide +kernel
theorem dX12_feels_30 : decode cX12_feels 30 = .ok (.iconst 3, 1) := by decide +kernel
theorem dX12_feels_31 : decode cX12_feels 31 = .ok (.aload_n 0, 1) := by decide +kernel
theorem dX12_feels_32 : decode cX12_feels 32 = .ok (.getfield 19, 3) := by decide +kernel
theorem dX12_feels_35 : decode cX12_feels 35 = .ok (.iload_n 1, 1) := by decide +kernel
theorem dX12_feels_36 : decode cX12_feels 36 = .ok (.iaload, 1) := by decide +kernel
theorem dX12_feels_37 : decode cX12_feels 37 = .ok (.iastore, 1) := by decide +kernel
theorem dX12_feels_38 : decode cX12_feels 38 = .ok (.aload_n 0, 1) := by decide +kernel
theorem dX12_feels_39 : decode cX12_feels 39 = .ok (.getfield 68, 3) := by decide +kernel
theorem dX12_feels_42 : decode cX12_feels 42 = .ok (.iconst 4, 1) := by decide +kernel
theorem dX12_feels_43 : decode cX12_feels 43 = .ok (.aload_n 0, 1) := by decide +kernel
theorem dX12_feels_44 : decode cX12_feels 44 = .ok (.getfield 7, 3) := by decide +kernel
theorem dX12_feels_47 : decode cX12_feels 47 = .ok (.iconst 3, 1) := by decide +kernel
theorem dX12_feels_48 : decode cX12_feels 48 = .ok (.iaload, 1) := by decide +kernel
theorem dX12_feels_49 : decode cX12_feels 49 = .ok (.iastore, 1) := by decide +kernel
theorem dX12_feels_50 : decode cX12_feels 50 = .ok (.aload_n 0, 1) := by decide +kernel
theorem dX12_feels_51 : decode cX12_feels 51 = .ok (.getfield 68, 3) := by decide +kernel
theorem dX12_feels_54 : decode cX12_feels 54 = .ok (.iconst 5, 1) := by decide +kernel
theorem dX12_feels_55 : decode cX12_feels 55 = .ok (.aload_n 0, 1) := by decide +kernel
theorem dX12_feels_56 : decode cX12_feels 56 = .ok (.getfield 7, 3) := by decide +kernel
theorem dX12_feels_59 : decode cX12_feels 59 = .ok (.iconst 4, 1) := by decide +kernel
theorem dX12_feels_60 : decode cX12_feels 60 = .ok (.iaload, 1) := by decide +kernel
theorem dX12_feels_61 : decode cX12_feels 61 = .ok (.bipush 100, 2) := by decide +kernel
theorem dX12_feels_63 : decode cX12_feels 63 = .ok (.irem, 1) := by decide +kernel
theorem dX12_feels_64 : decode cX12_feels 64 = .ok (.iastore, 1) := by decide +kernel
theorem dX12_feels_65 : decode cX12_feels 65 = .ok (.aload_n 0, 1) := by decide +kernel
theorem dX12_feels_66 : decode cX12_feels 66 = .ok (.getfield 68, 3) := by decide +kernel
theorem dX12_feels_69 : decode cX12_feels 69 = .ok (.bipush 6, 2) := by decide +kernel
theorem dX12_feels_71 : decode cX12_feels 71 = .ok (.aload_n 0, 1) := by decide +kernel
theorem dX12_feels_72 : decode cX12_feels 72 = .ok (.getfield 7, 3) := by decide +kernel
theorem dX12_feels_75 : decode cX12_feels 75 = .ok (.iconst 5, 1) := by decide +kernel
theorem dX12_feels_76 : decode cX12_feels 76 = .ok (.iaload, 1) := by decide +kernel
theorem dX12_feels_77 : decode cX12_feels 77 = .ok (.bipush 100, 2) := by decide +kernel
theorem dX12_feels_79 : decode cX12_feels 79 = .ok (.irem, 1) := by decide +kernel
theorem dX12_feels_80 : decode cX12_feels 80 = .ok (.iastore, 1) := by decide +kernel
theorem dX12_feels_81 : decode cX12_feels 81 = .ok (.aload_n 0, 1) := by decide +kernel
theorem dX12_feels_82 : decode cX12_feels 82 = .ok (.getfield 68, 3) := by decide +kernel
theorem dX12_feels_85 : decode cX12_feels 85 = .ok (.bipush 7, 2) := by decide +kernel
theorem dX12_feels_87 : decode cX12_feels 87 = .ok (.aload_n 0, 1) := by decide +kernel
theorem dX12_feels_88 : decode cX12_feels 88 = .ok (.getfield 7, 3) := by decide +kernel
theorem dX12_feels_91 : decode cX12_feels 91 = .ok (.bipush 6, 2) := by decide +kernel
theorem dX12_feels_93 : decode cX12_feels 93 = .ok (.iaload, 1) := by decide +kernel
theorem dX12_feels_94 : decode cX12_feels 94 = .ok (.bipush 100, 2) := by decide +kernel
theorem dX12_feels_96 : decode cX12_feels 96 = .ok (.irem, 1) := by decide +kernel
theorem dX12_feels_97 : decode cX12_feels 97 = .ok (.iastore, 1) := by decide +kernel
theorem dX12_feels_98 : decode cX12_feels 98 = .ok (.aload_n 0, 1) := by decide +kernel
theorem dX12_feels_99 : decode cX12_feels 99 = .ok (.getfield 68, 3) := by decide +kernel
theorem dX12_feels_102 : decode cX12_feels 102 = .ok (.bipush 8, 2) := by decide +kernel
theorem dX12_feels_104 : decode cX12_feels 104 = .ok (.iload_n 3, 1) := by decide +kernel
theorem dX12_feels_105 : decode cX12_feels 105 = .ok (.iastore, 1) := by decide +kernel
theorem dX12_feels_106 : decode cX12_feels 106 = .ok (.return_, 1) := by decide +kernel
theorem dX12_holdsAny_0 : decode cX12_holdsAny 0 = .ok (.iconst 0, 1) := by decide +kernel
theorem dX12_holdsAny_1 : decode cX12_holdsAny 1 = .ok (.istore_n 2, 1) := by decide +kernel
theorem dX12_holdsAny_2 : decode cX12_holdsAny 2 = .ok (.iload_n 2, 1) := by decide +kernel
theorem dX12_holdsAny_3 : decode cX12_holdsAny 3 = .ok (.aload_n 0, 1) := by decide +kernel
theorem dX12_holdsAny_4 : decode cX12_holdsAny 4 = .ok (.getfield 238, 3) := by decide +kernel
theorem dX12_holdsAny_7 : decode cX12_holdsAny 7 = .ok (.if_icmp .ge 41, 3) := by decide +kernel
theorem dX12_holdsAny_10 : decode cX12_holdsAny 10 = .ok (.aload_n 0, 1) := by decide +kernel
theorem dX12_holdsAny_11 : decode cX12_holdsAny 11 = .ok (.getfield 53, 3) := by decide +kernel
theorem dX12_holdsAny_14 : decode cX12_holdsAny 14 = .ok (.iload_n 2, 1) := by decide +kernel
theorem dX12_holdsAny_15 : decode cX12_holdsAny 15 = .ok (.iaload, 1) := by decide +kernel
theorem dX12_holdsAny_16 : decode cX12_holdsAny 16 = .ok (.iload_n 1, 1) := by decide +kernel
theorem dX12_holdsAny_17 : decode cX12_holdsAny 17 = .ok (.if_icmp .ne 25, 3) := by decide +kernel
theorem dX12_holdsAny_20 : decode cX12_holdsAny 20 = .ok (.aload_n 0, 1) := by decide +kernel
theorem dX12_holdsAny_21 : decode cX12_holdsAny 21 = .ok (.aload_n 0, 1) := by decide +kernel
theorem dX12_holdsAny_22 : decode cX12_holdsAny 22 = .ok (.getfield 59, 3) := by decide +kernel
theorem dX12_holdsAny_25 : decode cX12_holdsAny 25 = .ok (.iload_n 2, 1) := by decide +kernel
theorem dX12_holdsAny_26 : decode cX12_holdsAny 26 = .ok (.iaload, 1) := by decide +kernel
theorem dX12_holdsAny_27 : decode cX12_holdsAny 27 = .ok (.aload_n 0, 1) := by decide +kernel
theorem dX12_holdsAny_28 : decode cX12_holdsAny 28 = .ok (.getfield 62, 3) := by decide +kernel
theorem dX12_holdsAny_31 : decode cX12_holdsAny 31 = .ok (.iload_n 2, 1) := by decide +kernel
theorem dX12_holdsAny_32 : decode cX12_holdsAny 32 = .ok (.iaload, 1) := by decide +kernel
theorem dX12_holdsAny_33 : decode cX12_holdsAny 33 = .ok (.invokevirtual 245, 3) := by decide +kernel
theorem dX12_holdsAny_36 : decode cX12_holdsAny 36 = .ok (.iconst 1, 1) := by decide +kernel
theorem dX12_holdsAny_37 : decode cX12_holdsAny 37 = .ok (.if_icmp .ne 5, 3) := by decide +kernel
theorem dX12_holdsAny_40 : decode cX12_holdsAny 40 = .ok (.iconst 1, 1) := by decide +kernel
theorem dX12_holdsAny_41 : decode cX12_holdsAny 41 = .ok (.ireturn, 1) := by decide +kernel
theorem dX12_holdsAny_42 : decode cX12_holdsAny 42 = .ok (.iinc 2 1, 3) := by decide +kernel
theorem dX12_holdsAny_45 : decode cX12_holdsAny 45 = .ok (.goto (-43), 3) := by decide +kernel
theorem dX12_holdsAny_48 : decode cX12_holdsAny 48 = .ok (.iconst 0, 1) := by decide +kernel
theorem dX12_holdsAny_49 : decode cX12_holdsAny 49 = .ok (.ireturn, 1) := by decide +kernel
theorem dX12_reckonsTo_0 : decode cX12_reckonsTo 0 = .ok (.iconst 0, 1) := by decide +kernel
theorem dX12_reckonsTo_1 : decode cX12_reckonsTo 1 = .ok (.istore_n 3, 1) := by decide +kernel
theorem dX12_reckonsTo_2 : decode cX12_reckonsTo 2 = .ok (.sipush 260, 3) := by decide +kernel
theorem dX12_reckonsTo_5 : decode cX12_reckonsTo 5 = .ok (.iload_n 1, 1) := by decide +kernel
theorem dX12_reckonsTo_6 : decode cX12_reckonsTo 6 = .ok (.sipush 260, 3) := by decide +kernel
theorem dX12_reckonsTo_9 : decode cX12_reckonsTo 9 = .ok (.idiv, 1) := by decide +kernel
theorem dX12_reckonsTo_10 : decode cX12_reckonsTo 10 = .ok (.imul, 1) := by decide +kernel
theorem dX12_reckonsTo_11 : decode cX12_reckonsTo 11 = .ok (.istore 4, 2) := by decide +kernel
theorem dX12_reckonsTo_13 : decode cX12_reckonsTo 13 = .ok (.iload_n 1, 1) := by decide +kernel
theorem dX12_reckonsTo_14 : decode cX12_reckonsTo 14 = .ok (.istore 5, 2) := by decide +kernel
theorem dX12_reckonsTo_16 : decode cX12_reckonsTo 16 = .ok (.iload 5, 2) := by decide +kernel
theorem dX12_reckonsTo_18 : decode cX12_reckonsTo 18 = .ok (.iload_n 2, 1) := by decide +kernel
theorem dX12_reckonsTo_19 : decode cX12_reckonsTo 19 = .ok (.if_icmp .ge 214, 3) := by decide +kernel
theorem dX12_reckonsTo_22 : decode cX12_reckonsTo 22 = .ok (.aload_n 0, 1) := by decide +kernel
theorem dX12_reckonsTo_23 : decode cX12_reckonsTo 23 = .ok (.getfield 50, 3) := by decide +kernel
theorem dX12_reckonsTo_26 : decode cX12_reckonsTo 26 = .ok (.iload 5, 2) := by decide +kernel
theorem dX12_reckonsTo_28 : decode cX12_reckonsTo 28 = .ok (.iaload, 1) := by decide +kernel
theorem dX12_reckonsTo_29 : decode cX12_reckonsTo 29 = .ok (.ldc 171, 2) := by decide +kernel
theorem dX12_reckonsTo_31 : decode cX12_reckonsTo 31 = .ok (.idiv, 1) := by decide +kernel
theorem dX12_reckonsTo_32 : decode cX12_reckonsTo 32 = .ok (.istore 6, 2) := by decide +kernel
theorem dX12_reckonsTo_34 : decode cX12_reckonsTo 34 = .ok (.aload_n 0, 1) := by decide +kernel
theorem dX12_reckonsTo_35 : decode cX12_reckonsTo 35 = .ok (.getfield 50, 3) := by decide +kernel
theorem dX12_reckonsTo_38 : decode cX12_reckonsTo 38 = .ok (.iload 5, 2) := by decide +kernel
theorem dX12_reckonsTo_40 : decode cX12_reckonsTo 40 = .ok (.iaload, 1) := by decide +kernel
theorem dX12_reckonsTo_41 : decode cX12_reckonsTo 41 = .ok (.ldc 171, 2) := by decide +kernel
theorem dX12_reckonsTo_43 : decode cX12_reckonsTo 43 = .ok (.irem, 1) := by decide +kernel
theorem dX12_reckonsTo_44 : decode cX12_reckonsTo 44 = .ok (.istore 7, 2) := by decide +kernel
theorem dX12_reckonsTo_46 : decode cX12_reckonsTo 46 = .ok (.iload 5, 2) := by decide +kernel
theorem dX12_reckonsTo_48 : decode cX12_reckonsTo 48 = .ok (.iconst 1, 1) := by decide +kernel
theorem dX12_reckonsTo_49 : decode cX12_reckonsTo 49 = .ok (.iadd, 1) := by decide +kernel
theorem dX12_reckonsTo_50 : decode cX12_reckonsTo 50 = .ok (.istore 5, 2) := by decide +kernel
theorem dX12_reckonsTo_52 : decode cX12_reckonsTo 52 = .ok (.iload 6, 2) := by decide +kernel
theorem dX12_reckonsTo_54 : decode cX12_reckonsTo 54 = .ok (.ifCond .eq 9, 3) := by decide +kernel
theorem dX12_reckonsTo_57 : decode cX12_reckonsTo 57 = .ok (.iload 6, 2) := by decide +kernel
theorem dX12_reckonsTo_59 : decode cX12_reckonsTo 59 = .ok (.iconst 1, 1) := by decide +kernel
theorem dX12_reckonsTo_60 : decode cX12_reckonsTo 60 = .ok (.if_icmp .ne 33, 3) := by decide +kernel
theorem dX12_reckonsTo_63 : decode cX12_reckonsTo 63 = .ok (.aload_n 0, 1) := by decide +kernel
theorem dX12_reckonsTo_64 : decode cX12_reckonsTo 64 = .ok (.getfield 65, 3) := by decide +kernel
theorem dX12_reckonsTo_67 : decode cX12_reckonsTo 67 = .ok (.iload_n 3, 1) := by decide +kernel
theorem dX12_reckonsTo_68 : decode cX12_reckonsTo 68 = .ok (.iload 6, 2) := by decide +kernel
theorem dX12_reckonsTo_70 : decode cX12_reckonsTo 70 = .ok (.ifCond .ne 8, 3) := by decide +kernel
theorem dX12_reckonsTo_73 : decode cX12_reckonsTo 73 = .ok (.iload 7, 2) := by decide +kernel
theorem dX12_reckonsTo_75 : decode cX12_reckonsTo 75 = .ok (.goto 10, 3) := by decide +kernel
theorem dX12_reckonsTo_78 : decode cX12_reckonsTo 78 = .ok (.aload_n 0, 1) := by decide +kernel
theorem dX12_reckonsTo_79 : decode cX12_reckonsTo 79 = .ok (.getfield 68, 3) := by decide +kernel
theorem dX12_reckonsTo_82 : decode cX12_reckonsTo 82 = .ok (.iload 7, 2) := by decide +kernel
theorem dX12_reckonsTo_84 : decode cX12_reckonsTo 84 = .ok (.iaload, 1) := by decide +kernel
theorem dX12_reckonsTo_85 : decode cX12_reckonsTo 85 = .ok (.iastore, 1) := by decide +kernel
theorem dX12_reckonsTo_86 : decode cX12_reckonsTo 86 = .ok (.iload_n 3, 1) := by decide +kernel
theorem dX12_reckonsTo_87 : decode cX12_reckonsTo 87 = .ok (.iconst 1, 1) := by decide +kernel
theorem dX12_reckonsTo_88 : decode cX12_reckonsTo 88 = .ok (.iadd, 1) := by decide +kernel
theorem dX12_reckonsTo_89 : decode cX12_reckonsTo 89 = .ok (.istore_n 3, 1) := by decide +kernel
theorem dX12_reckonsTo_90 : decode cX12_reckonsTo 90 = .ok (.goto 140, 3) := by decide +kernel
theorem dX12_reckonsTo_93 : decode cX12_reckonsTo 93 = .ok (.iload 6, 2) := by decide +kernel
theorem dX12_reckonsTo_95 : decode cX12_reckonsTo 95 = .ok (.bipush 10, 2) := by decide +kernel
theorem dX12_reckonsTo_97 : decode cX12_reckonsTo 97 = .ok (.if_icmp .ne 24, 3) := by decide +kernel
theorem dX12_reckonsTo_100 : decode cX12_reckonsTo 100 = .ok (.aload_n 0, 1) := by decide +kernel
theorem dX12_reckonsTo_101 : decode cX12_reckonsTo 101 = .ok (.getfield 65, 3) := by decide +kernel
theorem dX12_reckonsTo_104 : decode cX12_reckonsTo 104 = .ok (.iload_n 3, 1) := by decide +kernel
theorem dX12_reckonsTo_105 : decode cX12_reckonsTo 105 = .ok (.iconst 1, 1) := by decide +kernel
theorem dX12_reckonsTo_106 : decode cX12_reckonsTo 106 = .ok (.isub, 1) := by decide +kernel
theorem dX12_reckonsTo_107 : decode cX12_reckonsTo 107 = .ok (.iconst 1, 1) := by decide +kernel
theorem dX12_reckonsTo_108 : decode cX12_reckonsTo 108 = .ok (.aload_n 0, 1) := by decide +kernel
theorem dX12_reckonsTo_109 : decode cX12_reckonsTo 109 = .ok (.getfield 65, 3) := by decide +kernel
theorem dX12_reckonsTo_112 : decode cX12_reckonsTo 112 = .ok (.iload_n 3, 1) := by decide +kernel
theorem dX12_reckonsTo_113 : decode cX12_reckonsTo 113 = .ok (.iconst 1, 1) := by decide +kernel
theorem dX12_reckonsTo_114 : decode cX12_reckonsTo 114 = .ok (.isub, 1) := by decide +kernel
theorem dX12_reckonsTo_115 : decode cX12_reckonsTo 115 = .ok (.iaload, 1) := by decide +kernel
theorem dX12_reckonsTo_116 : decode cX12_reckonsTo 116 = .ok (.isub, 1) := by decide +kernel
theorem dX12_reckonsTo_117 : decode cX12_reckonsTo 117 = .ok (.iastore, 1) := by decide +kernel
theorem dX12_reckonsTo_118 : decode cX12_reckonsTo 118 = .ok (.goto 112, 3) := by decide +kernel
theorem dX12_reckonsTo_121 : decode cX12_reckonsTo 121 = .ok (.iload 6, 2) := by decide +kernel
theorem dX12_reckonsTo_123 : decode cX12_reckonsTo 123 = .ok (.bipush 11, 2) := by decide +kernel
theorem dX12_reckonsTo_125 : decode cX12_reckonsTo 125 = .ok (.if_icmp .eq 10, 3) := by decide +kernel
theorem dX12_reckonsTo_128 : decode cX12_reckonsTo 128 = .ok (.iload 6, 2) := by decide +kernel
theorem dX12_reckonsTo_130 : decode cX12_reckonsTo 130 = .ok (.bipush 12, 2) := by decide +kernel
theorem dX12_reckonsTo_132 : decode cX12_reckonsTo 132 = .ok (.if_icmp .ne 43, 3) := by decide +kernel
theorem dX12_reckonsTo_135 : decode cX12_reckonsTo 135 = .ok (.aload_n 0, 1) := by decide +kernel
theorem dX12_reckonsTo_136 : decode cX12_reckonsTo 136 = .ok (.getfield 65, 3) := by decide +kernel
theorem dX12_reckonsTo_139 : decode cX12_reckonsTo 139 = .ok (.iload_n 3, 1) := by decide +kernel
theorem dX12_reckonsTo_140 : decode cX12_reckonsTo 140 = .ok (.iconst 1, 1) := by decide +kernel
theorem dX12_reckonsTo_141 : decode cX12_reckonsTo 141 = .ok (.isub, 1) := by decide +kernel
theorem dX12_reckonsTo_142 : decode cX12_reckonsTo 142 = .ok (.iaload, 1) := by decide +kernel
theorem dX12_reckonsTo_143 : decode cX12_reckonsTo 143 = .ok (.iload 6, 2) := by decide +kernel
theorem dX12_reckonsTo_145 : decode cX12_reckonsTo 145 = .ok (.bipush 12, 2) := by decide +kernel
theorem dX12_reckonsTo_147 : decode cX12_reckonsTo 147 = .ok (.if_icmp .ne 7, 3) := by decide +kernel
theorem dX12_reckonsTo_150 : decode cX12_reckonsTo 150 = .ok (.iconst 1, 1) := by decide +kernel
theorem dX12_reckonsTo_151 : decode cX12_reckonsTo 151 = .ok (.goto 4, 3) := by decide +kernel
theorem dX12_reckonsTo_154 : decode cX12_reckonsTo 154 = .ok (.iconst 0, 1) := by decide +kernel
theorem dX12_reckonsTo_155 : decode cX12_reckonsTo 155 = .ok (.if_icmp .ne 13, 3) := by decide +kernel
theorem dX12_reckonsTo_158 : decode cX12_reckonsTo 158 = .ok (.iload 4, 2) := by decide +kernel
theorem dX12_reckonsTo_160 : decode cX12_reckonsTo 160 = .ok (.iload 7, 2) := by decide +kernel
theorem dX12_reckonsTo_162 : decode cX12_reckonsTo 162 = .ok (.iadd, 1) := by decide +kernel
theorem dX12_reckonsTo_163 : decode cX12_reckonsTo 163 = .ok (.istore 5, 2) := by decide +kernel
theorem dX12_reckonsTo_165 : decode cX12_reckonsTo 165 = .ok (.goto 65, 3) := by decide +kernel
theorem dX12_reckonsTo_168 : decode cX12_reckonsTo 168 = .ok (.iload_n 3, 1) := by decide +kernel
theorem dX12_reckonsTo_169 : decode cX12_reckonsTo 169 = .ok (.iconst 1, 1) := by decide +kernel
theorem dX12_reckonsTo_170 : decode cX12_reckonsTo 170 = .ok (.isub, 1) := by decide +kernel
theorem dX12_reckonsTo_171 : decode cX12_reckonsTo 171 = .ok (.istore_n 3, 1) := by decide +kernel
theorem dX12_reckonsTo_172 : decode cX12_reckonsTo 172 = .ok (.goto 58, 3) := by decide +kernel
theorem dX12_reckonsTo_175 : decode cX12_reckonsTo 175 = .ok (.iload_n 3, 1) := by decide +kernel
theorem dX12_reckonsTo_176 : decode cX12_reckonsTo 176 = .ok (.iconst 1, 1) := by decide +kernel
theorem dX12_reckonsTo_177 : decode cX12_reckonsTo 177 = .ok (.isub, 1) := by decide +kernel
theorem dX12_reckonsTo_178 : decode cX12_reckonsTo 178 = .ok (.istore_n 3, 1) := by decide +kernel
theorem dX12_reckonsTo_179 : decode cX12_reckonsTo 179 = .ok (.iload 6, 2) := by decide +kernel
theorem dX12_reckonsTo_181 : decode cX12_reckonsTo 181 = .ok (.iconst 5, 1) := by decide +kernel
theorem dX12_reckonsTo_182 : decode cX12_reckonsTo 182 = .ok (.if_icmp .eq 10, 3) := by decide +kernel
theorem dX12_reckonsTo_185 : decode cX12_reckonsTo 185 = .ok (.iload 6, 2) := by decide +kernel
