theorem dX5_commonDivisor_32 : decode cX5_commonDivisor 32 = .ok (.goto (-25), 3) := by decide +kernel
theorem dX5_commonDivisor_35 : decode cX5_commonDivisor 35 = .ok (.iload_n 2, 1) := by decide +kernel
theorem dX5_commonDivisor_36 : decode cX5_commonDivisor 36 = .ok (.ireturn, 1) := by decide +kernel
theorem dX11_inspectors_0 : decode cX11_inspectors 0 = .ok (.aload_n 0, 1) := by decide +kernel
theorem dX11_inspectors_1 : decode cX11_inspectors 1 = .ok (.getfield 42, 3) := by decide +kernel
theorem dX11_inspectors_4 : decode cX11_inspectors 4 = .ok (.iload_n 1, 1) := by decide +kernel
theorem dX11_inspectors_5 : decode cX11_inspectors 5 = .ok (.invokevirtual 87, 3) := by decide +kernel
theorem dX11_inspectors_8 : decode cX11_inspectors 8 = .ok (.ifCond .eq 20, 3) := by decide +kernel
theorem dX11_inspectors_11 : decode cX11_inspectors 11 = .ok (.iload_n 2, 1) := by decide +kernel
theorem dX11_inspectors_12 : decode cX11_inspectors 12 = .ok (.ifCond .lt 16, 3) := by decide +kernel
theorem dX11_inspectors_15 : decode cX11_inspectors 15 = .ok (.iload_n 2, 1) := by decide +kernel
theorem dX11_inspectors_16 : decode cX11_inspectors 16 = .ok (.bipush 9, 2) := by decide +kernel
theorem dX11_inspectors_18 : decode cX11_inspectors 18 = .ok (.if_icmp .gt 10, 3) := by decide +kernel
theorem dX11_inspectors_21 : decode cX11_inspectors 21 = .ok (.iload_n 3, 1) := by decide +kernel
theorem dX11_inspectors_22 : decode cX11_inspectors 22 = .ok (.invokestatic 179, 3) := by decide +kernel
theorem dX11_inspectors_25 : decode cX11_inspectors 25 = .ok (.ifCond .ne 5, 3) := by decide +kernel
theorem dX11_inspectors_28 : decode cX11_inspectors 28 = .ok (.iconst (-1), 1) := by decide +kernel
theorem dX11_inspectors_29 : decode cX11_inspectors 29 = .ok (.ireturn, 1) := by decide +kernel
theorem dX11_inspectors_30 : decode cX11_inspectors 30 = .ok (.aload_n 0, 1) := by decide +kernel
theorem dX11_inspectors_31 : decode cX11_inspectors 31 = .ok (.getfield 76, 3) := by decide +kernel
theorem dX11_inspectors_34 : decode cX11_inspectors 34 = .ok (.aload_n 0, 1) := by decide +kernel
theorem dX11_inspectors_35 : decode cX11_inspectors 35 = .ok (.getfield 42, 3) := by decide +kernel
theorem dX11_inspectors_38 : decode cX11_inspectors 38 = .ok (.iload_n 1, 1) := by decide +kernel
theorem dX11_inspectors_39 : decode cX11_inspectors 39 = .ok (.iload_n 2, 1) := by decide +kernel
theorem dX11_inspectors_40 : decode cX11_inspectors 40 = .ok (.invokevirtual 262, 3) := by decide +kernel
theorem dX11_inspectors_43 : decode cX11_inspectors 43 = .ok (.istore 4, 2) := by decide +kernel
theorem dX11_inspectors_45 : decode cX11_inspectors 45 = .ok (.iload_n 3, 1) := by decide +kernel
theorem dX11_inspectors_46 : decode cX11_inspectors 46 = .ok (.iconst 1, 1) := by decide +kernel
theorem dX11_inspectors_47 : decode cX11_inspectors 47 = .ok (.if_icmp .eq 8, 3) := by decide +kernel
theorem dX11_inspectors_50 : decode cX11_inspectors 50 = .ok (.iload 4, 2) := by decide +kernel
theorem dX11_inspectors_52 : decode cX11_inspectors 52 = .ok (.ifCond .ne 6, 3) := by decide +kernel
theorem dX11_inspectors_55 : decode cX11_inspectors 55 = .ok (.iload 4, 2) := by decide +kernel
theorem dX11_inspectors_57 : decode cX11_inspectors 57 = .ok (.ireturn, 1) := by decide +kernel
theorem dX11_inspectors_58 : decode cX11_inspectors 58 = .ok (.iload 4, 2) := by decide +kernel
theorem dX11_inspectors_60 : decode cX11_inspectors 60 = .ok (.iconst 2, 1) := by decide +kernel
theorem dX11_inspectors_61 : decode cX11_inspectors 61 = .ok (.irem, 1) := by decide +kernel
theorem dX11_inspectors_62 : decode cX11_inspectors 62 = .ok (.iconst 1, 1) := by decide +kernel
theorem dX11_inspectors_63 : decode cX11_inspectors 63 = .ok (.if_icmp .ne 7, 3) := by decide +kernel
theorem dX11_inspectors_66 : decode cX11_inspectors 66 = .ok (.iconst 1, 1) := by decide +kernel
theorem dX11_inspectors_67 : decode cX11_inspectors 67 = .ok (.goto 4, 3) := by decide +kernel
theorem dX11_inspectors_70 : decode cX11_inspectors 70 = .ok (.iconst 2, 1) := by decide +kernel
theorem dX11_inspectors_71 : decode cX11_inspectors 71 = .ok (.ireturn, 1) := by decide +kernel
theorem dX10_play_0 : decode cX10_play 0 = .ok (.aload_n 0, 1) := by decide +kernel
theorem dX10_play_1 : decode cX10_play 1 = .ok (.getfield 21, 3) := by decide +kernel
theorem dX10_play_4 : decode cX10_play 4 = .ok (.iconst 0, 1) := by decide +kernel
theorem dX10_play_5 : decode cX10_play 5 = .ok (.invokestatic 43, 3) := by decide +kernel
theorem dX10_play_8 : decode cX10_play 8 = .ok (.iconst 1, 1) := by decide +kernel
theorem dX10_play_9 : decode cX10_play 9 = .ok (.istore 4, 2) := by decide +kernel
theorem dX10_play_11 : decode cX10_play 11 = .ok (.iconst 1, 1) := by decide +kernel
theorem dX10_play_12 : decode cX10_play 12 = .ok (.istore 5, 2) := by decide +kernel
theorem dX10_play_14 : decode cX10_play 14 = .ok (.iload 5, 2) := by decide +kernel
theorem dX10_play_16 : decode cX10_play 16 = .ok (.bipush 90, 2) := by decide +kernel
theorem dX10_play_18 : decode cX10_play 18 = .ok (.if_icmp .gt 105, 3) := by decide +kernel
theorem dX10_play_21 : decode cX10_play 21 = .ok (.iload 4, 2) := by decide +kernel
theorem dX10_play_23 : decode cX10_play 23 = .ok (.ifCond .eq 100, 3) := by decide +kernel
theorem dX10_play_26 : decode cX10_play 26 = .ok (.iconst 0, 1) := by decide +kernel
theorem dX10_play_27 : decode cX10_play 27 = .ok (.istore 4, 2) := by decide +kernel
theorem dX10_play_29 : decode cX10_play 29 = .ok (.iconst 0, 1) := by decide +kernel
theorem dX10_play_30 : decode cX10_play 30 = .ok (.istore 6, 2) := by decide +kernel
theorem dX10_play_32 : decode cX10_play 32 = .ok (.iload 6, 2) := by decide +kernel
theorem dX10_play_34 : decode cX10_play 34 = .ok (.bipush 90, 2) := by decide +kernel
theorem dX10_play_36 : decode cX10_play 36 = .ok (.if_icmp .ge 81, 3) := by decide +kernel
theorem dX10_play_39 : decode cX10_play 39 = .ok (.iload 6, 2) := by decide +kernel
theorem dX10_play_41 : decode cX10_play 41 = .ok (.bipush 9, 2) := by decide +kernel
theorem dX10_play_43 : decode cX10_play 43 = .ok (.idiv, 1) := by decide +kernel
theorem dX10_play_44 : decode cX10_play 44 = .ok (.istore 7, 2) := by decide +kernel
theorem dX10_play_46 : decode cX10_play 46 = .ok (.iload 6, 2) := by decide +kernel
theorem dX10_play_48 : decode cX10_play 48 = .ok (.bipush 9, 2) := by decide +kernel
theorem dX10_play_50 : decode cX10_play 50 = .ok (.irem, 1) := by decide +kernel
theorem dX10_play_51 : decode cX10_play 51 = .ok (.istore 8, 2) := by decide +kernel
theorem dX10_play_53 : decode cX10_play 53 = .ok (.iload 7, 2) := by decide +kernel
theorem dX10_play_55 : decode cX10_play 55 = .ok (.aload_n 1, 1) := by decide +kernel
theorem dX10_play_56 : decode cX10_play 56 = .ok (.getfield 49, 3) := by decide +kernel
theorem dX10_play_59 : decode cX10_play 59 = .ok (.if_icmp .ge 17, 3) := by decide +kernel
theorem dX10_play_62 : decode cX10_play 62 = .ok (.aload_n 0, 1) := by decide +kernel
theorem dX10_play_63 : decode cX10_play 63 = .ok (.getfield 21, 3) := by decide +kernel
theorem dX10_play_66 : decode cX10_play 66 = .ok (.iload 6, 2) := by decide +kernel
theorem dX10_play_68 : decode cX10_play 68 = .ok (.iaload, 1) := by decide +kernel
theorem dX10_play_69 : decode cX10_play 69 = .ok (.ifCond .ne 7, 3) := by decide +kernel
theorem dX10_play_72 : decode cX10_play 72 = .ok (.iconst 1, 1) := by decide +kernel
theorem dX10_play_73 : decode cX10_play 73 = .ok (.goto 4, 3) := by decide +kernel
theorem dX10_play_76 : decode cX10_play 76 = .ok (.iconst 0, 1) := by decide +kernel
theorem dX10_play_77 : decode cX10_play 77 = .ok (.istore 9, 2) := by decide +kernel
theorem dX10_play_79 : decode cX10_play 79 = .ok (.iload 9, 2) := by decide +kernel
theorem dX10_play_81 : decode cX10_play 81 = .ok (.ifCond .eq 30, 3) := by decide +kernel
theorem dX10_play_84 : decode cX10_play 84 = .ok (.aload_n 0, 1) := by decide +kernel
theorem dX10_play_85 : decode cX10_play 85 = .ok (.aload_n 1, 1) := by decide +kernel
theorem dX10_play_86 : decode cX10_play 86 = .ok (.iload 7, 2) := by decide +kernel
theorem dX10_play_88 : decode cX10_play 88 = .ok (.iload 8, 2) := by decide +kernel
theorem dX10_play_90 : decode cX10_play 90 = .ok (.iload_n 3, 1) := by decide +kernel
theorem dX10_play_91 : decode cX10_play 91 = .ok (.iload 5, 2) := by decide +kernel
theorem dX10_play_93 : decode cX10_play 93 = .ok (.invokevirtual 67, 3) := by decide +kernel
theorem dX10_play_96 : decode cX10_play 96 = .ok (.ifCond .eq 15, 3) := by decide +kernel
theorem dX10_play_99 : decode cX10_play 99 = .ok (.aload_n 0, 1) := by decide +kernel
theorem dX10_play_100 : decode cX10_play 100 = .ok (.getfield 21, 3) := by decide +kernel
theorem dX10_play_103 : decode cX10_play 103 = .ok (.iload 6, 2) := by decide +kernel
theorem dX10_play_105 : decode cX10_play 105 = .ok (.iload 5, 2) := by decide +kernel
theorem dX10_play_107 : decode cX10_play 107 = .ok (.iastore, 1) := by decide +kernel
theorem dX10_play_108 : decode cX10_play 108 = .ok (.iconst 1, 1) := by decide +kernel
theorem dX10_play_109 : decode cX10_play 109 = .ok (.istore 4, 2) := by decide +kernel
theorem dX10_play_111 : decode cX10_play 111 = .ok (.iinc 6 1, 3) := by decide +kernel
theorem dX10_play_114 : decode cX10_play 114 = .ok (.goto (-82), 3) := by decide +kernel
theorem dX10_play_117 : decode cX10_play 117 = .ok (.iinc 5 1, 3) := by decide +kernel
theorem dX10_play_120 : decode cX10_play 120 = .ok (.goto (-106), 3) := by decide +kernel
theorem dX10_play_123 : decode cX10_play 123 = .ok (.aload_n 0, 1) := by decide +kernel
theorem dX10_play_124 : decode cX10_play 124 = .ok (.iload_n 2, 1) := by decide +kernel
theorem dX10_play_125 : decode cX10_play 125 = .ok (.bipush 8, 2) := by decide +kernel
theorem dX10_play_127 : decode cX10_play 127 = .ok (.invokevirtual 71, 3) := by decide +kernel
theorem dX10_play_130 : decode cX10_play 130 = .ok (.ireturn, 1) := by decide +kernel
theorem dX10_endsIn_0 : decode cX10_endsIn 0 = .ok (.iload 5, 2) := by decide +kernel
theorem dX10_endsIn_2 : decode cX10_endsIn 2 = .ok (.iconst 2, 1) := by decide +kernel
theorem dX10_endsIn_3 : decode cX10_endsIn 3 = .ok (.irem, 1) := by decide +kernel
theorem dX10_endsIn_4 : decode cX10_endsIn 4 = .ok (.iconst 1, 1) := by decide +kernel
theorem dX10_endsIn_5 : decode cX10_endsIn 5 = .ok (.if_icmp .ne 7, 3) := by decide +kernel
theorem dX10_endsIn_8 : decode cX10_endsIn 8 = .ok (.iconst 1, 1) := by decide +kernel
theorem dX10_endsIn_9 : decode cX10_endsIn 9 = .ok (.goto 4, 3) := by decide +kernel
theorem dX10_endsIn_12 : decode cX10_endsIn 12 = .ok (.iconst 0, 1) := by decide +kernel
theorem dX10_endsIn_13 : decode cX10_endsIn 13 = .ok (.istore 6, 2) := by decide +kernel
theorem dX10_endsIn_15 : decode cX10_endsIn 15 = .ok (.iconst 0, 1) := by decide +kernel
theorem dX10_endsIn_16 : decode cX10_endsIn 16 = .ok (.istore 7, 2) := by decide +kernel
theorem dX10_endsIn_18 : decode cX10_endsIn 18 = .ok (.iload 7, 2) := by decide +kernel
theorem dX10_endsIn_20 : decode cX10_endsIn 20 = .ok (.bipush 8, 2) := by decide +kernel
theorem dX10_endsIn_22 : decode cX10_endsIn 22 = .ok (.if_icmp .ge 98, 3) := by decide +kernel
theorem dX10_endsIn_25 : decode cX10_endsIn 25 = .ok (.iload 7, 2) := by decide +kernel
theorem dX10_endsIn_27 : decode cX10_endsIn 27 = .ok (.iload_n 3, 1) := by decide +kernel
theorem dX10_endsIn_28 : decode cX10_endsIn 28 = .ok (.if_icmp .eq 86, 3) := by decide +kernel
theorem dX10_endsIn_31 : decode cX10_endsIn 31 = .ok (.aload_n 1, 1) := by decide +kernel
theorem dX10_endsIn_32 : decode cX10_endsIn 32 = .ok (.iload 7, 2) := by decide +kernel
theorem dX10_endsIn_34 : decode cX10_endsIn 34 = .ok (.iload_n 2, 1) := by decide +kernel
theorem dX10_endsIn_35 : decode cX10_endsIn 35 = .ok (.invokevirtual 57, 3) := by decide +kernel
theorem dX10_endsIn_38 : decode cX10_endsIn 38 = .ok (.iload 4, 2) := by decide +kernel
theorem dX10_endsIn_40 : decode cX10_endsIn 40 = .ok (.if_icmp .ne 7, 3) := by decide +kernel
theorem dX10_endsIn_43 : decode cX10_endsIn 43 = .ok (.iconst 1, 1) := by decide +kernel
theorem dX10_endsIn_44 : decode cX10_endsIn 44 = .ok (.goto 4, 3) := by decide +kernel
theorem dX10_endsIn_47 : decode cX10_endsIn 47 = .ok (.iconst 0, 1) := by decide +kernel
theorem dX10_endsIn_48 : decode cX10_endsIn 48 = .ok (.istore 8, 2) := by decide +kernel
theorem dX10_endsIn_50 : decode cX10_endsIn 50 = .ok (.aload_n 0, 1) := by decide +kernel
theorem dX10_endsIn_51 : decode cX10_endsIn 51 = .ok (.aload_n 1, 1) := by decide +kernel
theorem dX10_endsIn_52 : decode cX10_endsIn 52 = .ok (.iload 7, 2) := by decide +kernel
theorem dX10_endsIn_54 : decode cX10_endsIn 54 = .ok (.iload_n 2, 1) := by decide +kernel
theorem dX10_endsIn_55 : decode cX10_endsIn 55 = .ok (.invokevirtual 37, 3) := by decide +kernel
theorem dX10_endsIn_58 : decode cX10_endsIn 58 = .ok (.iload 7, 2) := by decide +kernel
theorem dX10_endsIn_60 : decode cX10_endsIn 60 = .ok (.invokevirtual 71, 3) := by decide +kernel
theorem dX10_endsIn_63 : decode cX10_endsIn 63 = .ok (.istore 9, 2) := by decide +kernel
theorem dX10_endsIn_65 : decode cX10_endsIn 65 = .ok (.iload 6, 2) := by decide +kernel
theorem dX10_endsIn_67 : decode cX10_endsIn 67 = .ok (.ifCond .eq 28, 3) := by decide +kernel
theorem dX10_endsIn_70 : decode cX10_endsIn 70 = .ok (.iload 5, 2) := by decide +kernel
theorem dX10_endsIn_72 : decode cX10_endsIn 72 = .ok (.iconst 1, 1) := by decide +kernel
theorem dX10_endsIn_73 : decode cX10_endsIn 73 = .ok (.if_icmp .ne 11, 3) := by decide +kernel
theorem dX10_endsIn_76 : decode cX10_endsIn 76 = .ok (.iload 8, 2) := by decide +kernel
theorem dX10_endsIn_78 : decode cX10_endsIn 78 = .ok (.ifCond .eq 17, 3) := by decide +kernel
theorem dX10_endsIn_81 : decode cX10_endsIn 81 = .ok (.goto 12, 3) := by decide +kernel
theorem dX10_endsIn_84 : decode cX10_endsIn 84 = .ok (.iload 9, 2) := by decide +kernel
theorem dX10_endsIn_86 : decode cX10_endsIn 86 = .ok (.iload 5, 2) := by decide +kernel
theorem dX10_endsIn_88 : decode cX10_endsIn 88 = .ok (.iconst 1, 1) := by decide +kernel
theorem dX10_endsIn_89 : decode cX10_endsIn 89 = .ok (.isub, 1) := by decide +kernel
theorem dX10_endsIn_90 : decode cX10_endsIn 90 = .ok (.if_icmp .ne 5, 3) := by decide +kernel
theorem dX10_endsIn_93 : decode cX10_endsIn 93 = .ok (.iconst 1, 1) := by decide +kernel
theorem dX10_endsIn_94 : decode cX10_endsIn 94 = .ok (.ireturn, 1) := by decide +kernel
theorem dX10_endsIn_95 : decode cX10_endsIn 95 = .ok (.iload 6, 2) := by decide +kernel
theorem dX10_endsIn_97 : decode cX10_endsIn 97 = .ok (.ifCond .ne 17, 3) := by decide +kernel
theorem dX10_endsIn_100 : decode cX10_endsIn 100 = .ok (.iload 8, 2) := by decide +kernel
theorem dX10_endsIn_102 : decode cX10_endsIn 102 = .ok (.ifCond .ne 10, 3) := by decide +kernel
theorem dX10_endsIn_105 : decode cX10_endsIn 105 = .ok (.iload 9, 2) := by decide +kernel
theorem dX10_endsIn_107 : decode cX10_endsIn 107 = .ok (.iconst 2, 1) := by decide +kernel
theorem dX10_endsIn_108 : decode cX10_endsIn 108 = .ok (.irem, 1) := by decide +kernel
theorem dX10_endsIn_109 : decode cX10_endsIn 109 = .ok (.ifCond .ne 5, 3) := by decide +kernel
theorem dX10_endsIn_112 : decode cX10_endsIn 112 = .ok (.iconst 0, 1) := by decide +kernel
theorem dX10_endsIn_113 : decode cX10_endsIn 113 = .ok (.ireturn, 1) := by decide +kernel
theorem dX10_endsIn_114 : decode cX10_endsIn 114 = .ok (.iinc 7 1, 3) := by decide +kernel
theorem dX10_endsIn_117 : decode cX10_endsIn 117 = .ok (.goto (-99), 3) := by decide +kernel
theorem dX10_endsIn_120 : decode cX10_endsIn 120 = .ok (.iload 6, 2) := by decide +kernel
theorem dX10_endsIn_122 : decode cX10_endsIn 122 = .ok (.ifCond .ne 7, 3) := by decide +kernel
theorem dX10_endsIn_125 : decode cX10_endsIn 125 = .ok (.iconst 1, 1) := by decide +kernel
theorem dX10_endsIn_126 : decode cX10_endsIn 126 = .ok (.goto 4, 3) := by decide +kernel
theorem dX10_endsIn_129 : decode cX10_endsIn 129 = .ok (.iconst 0, 1) := by decide +kernel
theorem dX10_endsIn_130 : decode cX10_endsIn 130 = .ok (.ireturn, 1) := by decide +kernel
theorem dX10_endingAt_0 : decode cX10_endingAt 0 = .ok (.iload_n 1, 1) := by decide +kernel
theorem dX10_endingAt_1 : decode cX10_endingAt 1 = .ok (.bipush 9, 2) := by decide +kernel
theorem dX10_endingAt_3 : decode cX10_endingAt 3 = .ok (.imul, 1) := by decide +kernel
theorem dX10_endingAt_4 : decode cX10_endingAt 4 = .ok (.iload_n 2, 1) := by decide +kernel
theorem dX10_endingAt_5 : decode cX10_endingAt 5 = .ok (.iadd, 1) := by decide +kernel
theorem dX10_endingAt_6 : decode cX10_endingAt 6 = .ok (.istore_n 3, 1) := by decide +kernel
theorem dX10_endingAt_7 : decode cX10_endingAt 7 = .ok (.iload_n 3, 1) := by decide +kernel
theorem dX10_endingAt_8 : decode cX10_endingAt 8 = .ok (.ifCond .lt 18, 3) := by decide +kernel
theorem dX10_endingAt_11 : decode cX10_endingAt 11 = .ok (.iload_n 3, 1) := by decide +kernel
theorem dX10_endingAt_12 : decode cX10_endingAt 12 = .ok (.bipush 90, 2) := by decide +kernel
theorem dX10_endingAt_14 : decode cX10_endingAt 14 = .ok (.if_icmp .ge 12, 3) := by decide +kernel
theorem dX10_endingAt_17 : decode cX10_endingAt 17 = .ok (.aload_n 0, 1) := by decide +kernel
theorem dX10_endingAt_18 : decode cX10_endingAt 18 = .ok (.getfield 21, 3) := by decide +kernel
theorem dX10_endingAt_21 : decode cX10_endingAt 21 = .ok (.iload_n 3, 1) := by decide +kernel
theorem dX10_endingAt_22 : decode cX10_endingAt 22 = .ok (.iaload, 1) := by decide +kernel
theorem dX10_endingAt_23 : decode cX10_endingAt 23 = .ok (.goto 4, 3) := by decide +kernel
theorem dX10_endingAt_26 : decode cX10_endingAt 26 = .ok (.iconst 0, 1) := by decide +kernel
theorem dX10_endingAt_27 : decode cX10_endingAt 27 = .ok (.ireturn, 1) := by decide +kernel
theorem dX11_together_0 : decode cX11_together 0 = .ok (.iload_n 1, 1) := by decide +kernel
theorem dX11_together_1 : decode cX11_together 1 = .ok (.invokestatic 95, 3) := by decide +kernel
theorem dX11_together_4 : decode cX11_together 4 = .ok (.ifCond .eq 21, 3) := by decide +kernel
theorem dX11_together_7 : decode cX11_together 7 = .ok (.iload_n 2, 1) := by decide +kernel
theorem dX11_together_8 : decode cX11_together 8 = .ok (.invokestatic 95, 3) := by decide +kernel
theorem dX11_together_11 : decode cX11_together 11 = .ok (.ifCond .eq 14, 3) := by decide +kernel
theorem dX11_together_14 : decode cX11_together 14 = .ok (.aload_n 0, 1) := by decide +kernel
theorem dX11_together_15 : decode cX11_together 15 = .ok (.getfield 42, 3) := by decide +kernel
theorem dX11_together_18 : decode cX11_together 18 = .ok (.iload_n 3, 1) := by decide +kernel
theorem dX11_together_19 : decode cX11_together 19 = .ok (.invokevirtual 87, 3) := by decide +kernel
theorem dX11_together_22 : decode cX11_together 22 = .ok (.ifCond .ne 5, 3) := by decide +kernel
theorem dX11_together_25 : decode cX11_together 25 = .ok (.iconst (-1), 1) := by decide +kernel
theorem dX11_together_26 : decode cX11_together 26 = .ok (.ireturn, 1) := by decide +kernel
theorem dX11_together_27 : decode cX11_together 27 = .ok (.aload_n 0, 1) := by decide +kernel
theorem dX11_together_28 : decode cX11_together 28 = .ok (.getfield 42, 3) := by decide +kernel
theorem dX11_together_31 : decode cX11_together 31 = .ok (.iload_n 1, 1) := by decide +kernel
theorem dX11_together_32 : decode cX11_together 32 = .ok (.iload_n 2, 1) := by decide +kernel
theorem dX11_together_33 : decode cX11_together 33 = .ok (.iload_n 3, 1) := by decide +kernel
theorem dX11_together_34 : decode cX11_together 34 = .ok (.invokevirtual 265, 3) := by decide +kernel
theorem dX11_together_37 : decode cX11_together 37 = .ok (.ifCond .eq 7, 3) := by decide +kernel
theorem dX11_together_40 : decode cX11_together 40 = .ok (.iconst 1, 1) := by decide +kernel
theorem dX11_together_41 : decode cX11_together 41 = .ok (.goto 4, 3) := by decide +kernel
theorem dX11_together_44 : decode cX11_together 44 = .ok (.iconst 0, 1) := by decide +kernel
theorem dX11_together_45 : decode cX11_together 45 = .ok (.istore 4, 2) := by decide +kernel
theorem dX11_together_47 : decode cX11_together 47 = .ok (.aload_n 0, 1) := by decide +kernel
theorem dX11_together_48 : decode cX11_together 48 = .ok (.getfield 42, 3) := by decide +kernel
theorem dX11_together_51 : decode cX11_together 51 = .ok (.iload_n 2, 1) := by decide +kernel
theorem dX11_together_52 : decode cX11_together 52 = .ok (.iload_n 1, 1) := by decide +kernel
theorem dX11_together_53 : decode cX11_together 53 = .ok (.iload_n 3, 1) := by decide +kernel
theorem dX11_together_54 : decode cX11_together 54 = .ok (.invokevirtual 265, 3) := by decide +kernel
theorem dX11_together_57 : decode cX11_together 57 = .ok (.ifCond .eq 7, 3) := by decide +kernel
theorem dX11_together_60 : decode cX11_together 60 = .ok (.iconst 2, 1) := by decide +kernel
theorem dX11_together_61 : decode cX11_together 61 = .ok (.goto 4, 3) := by decide +kernel
theorem dX11_together_64 : decode cX11_together 64 = .ok (.iconst 0, 1) := by decide +kernel
theorem dX11_together_65 : decode cX11_together 65 = .ok (.istore 5, 2) := by decide +kernel
theorem dX11_together_67 : decode cX11_together 67 = .ok (.iload 4, 2) := by decide +kernel
theorem dX11_together_69 : decode cX11_together 69 = .ok (.iload 5, 2) := by decide +kernel
theorem dX11_together_71 : decode cX11_together 71 = .ok (.iadd, 1) := by decide +kernel
theorem dX11_together_72 : decode cX11_together 72 = .ok (.ireturn, 1) := by decide +kernel
theorem dX11_alone_0 : decode cX11_alone 0 = .ok (.iload_n 1, 1) := by decide +kernel
theorem dX11_alone_1 : decode cX11_alone 1 = .ok (.invokestatic 179, 3) := by decide +kernel
theorem dX11_alone_4 : decode cX11_alone 4 = .ok (.ifCond .eq 13, 3) := by decide +kernel
theorem dX11_alone_7 : decode cX11_alone 7 = .ok (.aload_n 0, 1) := by decide +kernel
theorem dX11_alone_8 : decode cX11_alone 8 = .ok (.getfield 42, 3) := by decide +kernel
theorem dX11_alone_11 : decode cX11_alone 11 = .ok (.invokevirtual 144, 3) := by decide +kernel
theorem dX11_alone_14 : decode cX11_alone 14 = .ok (.ifCond .ne 5, 3) := by decide +kernel
theorem dX11_alone_17 : decode cX11_alone 17 = .ok (.iconst (-1), 1) := by decide +kernel
theorem dX11_alone_18 : decode cX11_alone 18 = .ok (.ireturn, 1) := by decide +kernel
theorem dX11_alone_19 : decode cX11_alone 19 = .ok (.iload_n 1, 1) := by decide +kernel
theorem dX11_alone_20 : decode cX11_alone 20 = .ok (.ifCond .ne 13, 3) := by decide +kernel
theorem dX11_alone_23 : decode cX11_alone 23 = .ok (.aload_n 0, 1) := by decide +kernel
theorem dX11_alone_24 : decode cX11_alone 24 = .ok (.getfield 42, 3) := by decide +kernel
theorem dX11_alone_27 : decode cX11_alone 27 = .ok (.invokevirtual 268, 3) := by decide +kernel
theorem dX11_alone_30 : decode cX11_alone 30 = .ok (.goto 10, 3) := by decide +kernel
theorem dX11_alone_33 : decode cX11_alone 33 = .ok (.aload_n 0, 1) := by decide +kernel
theorem dX11_alone_34 : decode cX11_alone 34 = .ok (.getfield 42, 3) := by decide +kernel
theorem dX11_alone_37 : decode cX11_alone 37 = .ok (.invokevirtual 272, 3) := by decide +kernel
theorem dX11_alone_40 : decode cX11_alone 40 = .ok (.ireturn, 1) := by decide +kernel
theorem dX8_loose_0 : decode cX8_loose 0 = .ok (.aload_n 0, 1) := by decide +kernel
theorem dX8_loose_1 : decode cX8_loose 1 = .ok (.invokevirtual 22, 3) := by decide +kernel
theorem dX8_loose_4 : decode cX8_loose 4 = .ok (.istore_n 1, 1) := by decide +kernel
theorem dX8_loose_5 : decode cX8_loose 5 = .ok (.iconst 0, 1) := by decide +kernel
theorem dX8_loose_6 : decode cX8_loose 6 = .ok (.istore_n 2, 1) := by decide +kernel
theorem dX8_loose_7 : decode cX8_loose 7 = .ok (.iload_n 2, 1) := by decide +kernel
theorem dX8_loose_8 : decode cX8_loose 8 = .ok (.bipush 8, 2) := by decide +kernel
theorem dX8_loose_10 : decode cX8_loose 10 = .ok (.if_icmp .ge 48, 3) := by decide +kernel
theorem dX8_loose_13 : decode cX8_loose 13 = .ok (.iconst 0, 1) := by decide +kernel
theorem dX8_loose_14 : decode cX8_loose 14 = .ok (.istore_n 3, 1) := by decide +kernel
theorem dX8_loose_15 : decode cX8_loose 15 = .ok (.iload_n 3, 1) := by decide +kernel
theorem dX8_loose_16 : decode cX8_loose 16 = .ok (.aload_n 0, 1) := by decide +kernel
theorem dX8_loose_17 : decode cX8_loose 17 = .ok (.getfield 18, 3) := by decide +kernel
theorem dX8_loose_20 : decode cX8_loose 20 = .ok (.if_icmp .ge 32, 3) := by decide +kernel
theorem dX8_loose_23 : decode cX8_loose 23 = .ok (.aload_n 0, 1) := by decide +kernel
theorem dX8_loose_24 : decode cX8_loose 24 = .ok (.iload_n 2, 1) := by decide +kernel
theorem dX8_loose_25 : decode cX8_loose 25 = .ok (.iload_n 3, 1) := by decide +kernel
theorem dX8_loose_26 : decode cX8_loose 26 = .ok (.invokevirtual 26, 3) := by decide +kernel
theorem dX8_loose_29 : decode cX8_loose 29 = .ok (.iload_n 3, 1) := by decide +kernel
theorem dX8_loose_30 : decode cX8_loose 30 = .ok (.if_icmp .eq 16, 3) := by decide +kernel
theorem dX8_loose_33 : decode cX8_loose 33 = .ok (.iload_n 1, 1) := by decide +kernel
theorem dX8_loose_34 : decode cX8_loose 34 = .ok (.iconst 1, 1) := by decide +kernel
theorem dX8_loose_35 : decode cX8_loose 35 = .ok (.aload_n 0, 1) := by decide +kernel
theorem dX8_loose_36 : decode cX8_loose 36 = .ok (.iload_n 2, 1) := by decide +kernel
theorem dX8_loose_37 : decode cX8_loose 37 = .ok (.iload_n 3, 1) := by decide +kernel
theorem dX8_loose_38 : decode cX8_loose 38 = .ok (.invokevirtual 26, 3) := by decide +kernel
theorem dX8_loose_41 : decode cX8_loose 41 = .ok (.ishl, 1) := by decide +kernel
theorem dX8_loose_42 : decode cX8_loose 42 = .ok (.iconst (-1), 1) := by decide +kernel
theorem dX8_loose_43 : decode cX8_loose 43 = .ok (.ixor, 1) := by decide +kernel
theorem dX8_loose_44 : decode cX8_loose 44 = .ok (.iand, 1) := by decide +kernel
theorem dX8_loose_45 : decode cX8_loose 45 = .ok (.istore_n 1, 1) := by decide +kernel
theorem dX8_loose_46 : decode cX8_loose 46 = .ok (.iinc 3 1, 3) := by decide +kernel
theorem dX8_loose_49 : decode cX8_loose 49 = .ok (.goto (-34), 3) := by decide +kernel
theorem dX8_loose_52 : decode cX8_loose 52 = .ok (.iinc 2 1, 3) := by decide +kernel
theorem dX8_loose_55 : decode cX8_loose 55 = .ok (.goto (-48), 3) := by decide +kernel
theorem dX8_loose_58 : decode cX8_loose 58 = .ok (.iload_n 1, 1) := by decide +kernel
theorem dX8_loose_59 : decode cX8_loose 59 = .ok (.ireturn, 1) := by decide +kernel
theorem dX8_ends_0 : decode cX8_ends 0 = .ok (.aload_n 0, 1) := by decide +kernel
theorem dX8_ends_1 : decode cX8_ends 1 = .ok (.invokevirtual 22, 3) := by decide +kernel
theorem dX8_ends_4 : decode cX8_ends 4 = .ok (.istore_n 1, 1) := by decide +kernel
theorem dX8_ends_5 : decode cX8_ends 5 = .ok (.iconst 0, 1) := by decide +kernel
theorem dX8_ends_6 : decode cX8_ends 6 = .ok (.istore_n 2, 1) := by decide +kernel
theorem dX8_ends_7 : decode cX8_ends 7 = .ok (.iload_n 2, 1) := by decide +kernel
theorem dX8_ends_8 : decode cX8_ends 8 = .ok (.bipush 8, 2) := by decide +kernel
theorem dX8_ends_10 : decode cX8_ends 10 = .ok (.if_icmp .ge 43, 3) := by decide +kernel
theorem dX8_ends_13 : decode cX8_ends 13 = .ok (.iconst 0, 1) := by decide +kernel
theorem dX8_ends_14 : decode cX8_ends 14 = .ok (.istore_n 3, 1) := by decide +kernel
theorem dX8_ends_15 : decode cX8_ends 15 = .ok (.iload_n 3, 1) := by decide +kernel
theorem dX8_ends_16 : decode cX8_ends 16 = .ok (.aload_n 0, 1) := by decide +kernel
theorem dX8_ends_17 : decode cX8_ends 17 = .ok (.getfield 18, 3) := by decide +kernel
theorem dX8_ends_20 : decode cX8_ends 20 = .ok (.if_icmp .ge 27, 3) := by decide +kernel
theorem dX8_ends_23 : decode cX8_ends 23 = .ok (.aload_n 0, 1) := by decide +kernel
theorem dX8_ends_24 : decode cX8_ends 24 = .ok (.iload_n 2, 1) := by decide +kernel
theorem dX8_ends_25 : decode cX8_ends 25 = .ok (.iload_n 3, 1) := by decide +kernel
theorem dX8_ends_26 : decode cX8_ends 26 = .ok (.invokevirtual 26, 3) := by decide +kernel
theorem dX8_ends_29 : decode cX8_ends 29 = .ok (.iload_n 3, 1) := by decide +kernel
theorem dX8_ends_30 : decode cX8_ends 30 = .ok (.if_icmp .eq 11, 3) := by decide +kernel
theorem dX8_ends_33 : decode cX8_ends 33 = .ok (.iload_n 1, 1) := by decide +kernel
theorem dX8_ends_34 : decode cX8_ends 34 = .ok (.iconst 1, 1) := by decide +kernel
theorem dX8_ends_35 : decode cX8_ends 35 = .ok (.iload_n 3, 1) := by decide +kernel
theorem dX8_ends_36 : decode cX8_ends 36 = .ok (.ishl, 1) := by decide +kernel
theorem dX8_ends_37 : decode cX8_ends 37 = .ok (.iconst (-1), 1) := by decide +kernel
theorem dX8_ends_38 : decode cX8_ends 38 = .ok (.ixor, 1) := by decide +kernel
theorem dX8_ends_39 : decode cX8_ends 39 = .ok (.iand, 1) := by decide +kernel
theorem dX8_ends_40 : decode cX8_ends 40 = .ok (.istore_n 1, 1) := by decide +kernel
theorem dX8_ends_41 : decode cX8_ends 41 = .ok (.iinc 3 1, 3) := by decide +kernel
theorem dX8_ends_44 : decode cX8_ends 44 = .ok (.goto (-29), 3) := by decide +kernel
theorem dX8_ends_47 : decode cX8_ends 47 = .ok (.iinc 2 1, 3) := by decide +kernel
theorem dX8_ends_50 : decode cX8_ends 50 = .ok (.goto (-43), 3) := by decide +kernel
theorem dX8_ends_53 : decode cX8_ends 53 = .ok (.iload_n 1, 1) := by decide +kernel
theorem dX8_ends_54 : decode cX8_ends 54 = .ok (.ireturn, 1) := by decide +kernel
theorem dX11_seed_0 : decode cX11_seed 0 = .ok (.iload_n 1, 1) := by decide +kernel
theorem dX11_seed_1 : decode cX11_seed 1 = .ok (.ifCond .lt 10, 3) := by decide +kernel
theorem dX11_seed_4 : decode cX11_seed 4 = .ok (.iload_n 1, 1) := by decide +kernel
theorem dX11_seed_5 : decode cX11_seed 5 = .ok (.ldc_w 275, 3) := by decide +kernel
theorem dX11_seed_8 : decode cX11_seed 8 = .ok (.if_icmp .le 5, 3) := by decide +kernel
theorem dX11_seed_11 : decode cX11_seed 11 = .ok (.iconst 0, 1) := by decide +kernel
theorem dX11_seed_12 : decode cX11_seed 12 = .ok (.ireturn, 1) := by decide +kernel
theorem dX11_seed_13 : decode cX11_seed 13 = .ok (.aload_n 0, 1) := by decide +kernel
theorem dX11_seed_14 : decode cX11_seed 14 = .ok (.getfield 29, 3) := by decide +kernel
theorem dX11_seed_17 : decode cX11_seed 17 = .ok (.iload_n 1, 1) := by decide +kernel
theorem dX11_seed_18 : decode cX11_seed 18 = .ok (.putfield 276, 3) := by decide +kernel
theorem dX11_seed_21 : decode cX11_seed 21 = .ok (.iconst 1, 1) := by decide +kernel
theorem dX11_seed_22 : decode cX11_seed 22 = .ok (.ireturn, 1) := by decide +kernel
theorem dX11_keep_0 : decode cX11_keep 0 = .ok (.aload_n 0, 1) := by decide +kernel
theorem dX11_keep_1 : decode cX11_keep 1 = .ok (.getfield 33, 3) := by decide +kernel
theorem dX11_keep_4 : decode cX11_keep 4 = .ok (.aload_n 0, 1) := by decide +kernel
theorem dX11_keep_5 : decode cX11_keep 5 = .ok (.getfield 29, 3) := by decide +kernel
theorem dX11_keep_8 : decode cX11_keep 8 = .ok (.invokevirtual 172, 3) := by decide +kernel
theorem dX11_keep_11 : decode cX11_keep 11 = .ok (.aload_n 0, 1) := by decide +kernel
theorem dX11_keep_12 : decode cX11_keep 12 = .ok (.iconst 1, 1) := by decide +kernel
theorem dX11_keep_13 : decode cX11_keep 13 = .ok (.putfield 279, 3) := by decide +kernel
theorem dX11_keep_16 : decode cX11_keep 16 = .ok (.aload_n 0, 1) := by decide +kernel
theorem dX11_keep_17 : decode cX11_keep 17 = .ok (.getfield 29, 3) := by decide +kernel
theorem dX11_keep_20 : decode cX11_keep 20 = .ok (.getfield 283, 3) := by decide +kernel
theorem dX11_keep_23 : decode cX11_keep 23 = .ok (.ireturn, 1) := by decide +kernel
theorem dX11_undo_0 : decode cX11_undo 0 = .ok (.aload_n 0, 1) := by decide +kernel
theorem dX11_undo_1 : decode cX11_undo 1 = .ok (.getfield 279, 3) := by decide +kernel
theorem dX11_undo_4 : decode cX11_undo 4 = .ok (.ifCond .ne 5, 3) := by decide +kernel
theorem dX11_undo_7 : decode cX11_undo 7 = .ok (.iconst 0, 1) := by decide +kernel
theorem dX11_undo_8 : decode cX11_undo 8 = .ok (.ireturn, 1) := by decide +kernel
theorem dX11_undo_9 : decode cX11_undo 9 = .ok (.aload_n 0, 1) := by decide +kernel
theorem dX11_undo_10 : decode cX11_undo 10 = .ok (.getfield 29, 3) := by decide +kernel
theorem dX11_undo_13 : decode cX11_undo 13 = .ok (.aload_n 0, 1) := by decide +kernel
theorem dX11_undo_14 : decode cX11_undo 14 = .ok (.getfield 33, 3) := by decide +kernel
theorem dX11_undo_17 : decode cX11_undo 17 = .ok (.invokevirtual 172, 3) := by decide +kernel
theorem dX11_undo_20 : decode cX11_undo 20 = .ok (.aload_n 0, 1) := by decide +kernel
theorem dX11_undo_21 : decode cX11_undo 21 = .ok (.getfield 42, 3) := by decide +kernel
theorem dX11_undo_24 : decode cX11_undo 24 = .ok (.aload_n 0, 1) := by decide +kernel
theorem dX11_undo_25 : decode cX11_undo 25 = .ok (.getfield 29, 3) := by decide +kernel
theorem dX11_undo_28 : decode cX11_undo 28 = .ok (.getfield 91, 3) := by decide +kernel
theorem dX11_undo_31 : decode cX11_undo 31 = .ok (.invokevirtual 87, 3) := by decide +kernel
theorem dX11_undo_34 : decode cX11_undo 34 = .ok (.ifCond .ne 11, 3) := by decide +kernel
theorem dX11_undo_37 : decode cX11_undo 37 = .ok (.aload_n 0, 1) := by decide +kernel
theorem dX11_undo_38 : decode cX11_undo 38 = .ok (.getfield 29, 3) := by decide +kernel
theorem dX11_undo_41 : decode cX11_undo 41 = .ok (.iconst 0, 1) := by decide +kernel
theorem dX11_undo_42 : decode cX11_undo 42 = .ok (.putfield 91, 3) := by decide +kernel
theorem dX11_undo_45 : decode cX11_undo 45 = .ok (.iconst 1, 1) := by decide +kernel
theorem dX11_undo_46 : decode cX11_undo 46 = .ok (.ireturn, 1) := by decide +kernel
theorem dX11_check_0 : decode cX11_check 0 = .ok (.iload_n 1, 1) := by decide +kernel
theorem dX11_check_1 : decode cX11_check 1 = .ok (.invokestatic 95, 3) := by decide +kernel
theorem dX11_check_4 : decode cX11_check 4 = .ok (.ifCond .eq 24, 3) := by decide +kernel
theorem dX11_check_7 : decode cX11_check 7 = .ok (.iload_n 2, 1) := by decide +kernel
theorem dX11_check_8 : decode cX11_check 8 = .ok (.ifCond .lt 20, 3) := by decide +kernel
theorem dX11_check_11 : decode cX11_check 11 = .ok (.iload_n 2, 1) := by decide +kernel
theorem dX11_check_12 : decode cX11_check 12 = .ok (.bipush 10, 2) := by decide +kernel
theorem dX11_check_14 : decode cX11_check 14 = .ok (.if_icmp .gt 14, 3) := by decide +kernel
theorem dX11_check_17 : decode cX11_check 17 = .ok (.aload_n 0, 1) := by decide +kernel
theorem dX11_check_18 : decode cX11_check 18 = .ok (.getfield 12, 3) := by decide +kernel
theorem dX11_check_21 : decode cX11_check 21 = .ok (.getfield 101, 3) := by decide +kernel
theorem dX11_check_24 : decode cX11_check 24 = .ok (.iload_n 2, 1) := by decide +kernel
theorem dX11_check_25 : decode cX11_check 25 = .ok (.if_icmp .ge 6, 3) := by decide +kernel
theorem dX11_check_28 : decode cX11_check 28 = .ok (.bipush (-2), 2) := by decide +kernel
theorem dX11_check_30 : decode cX11_check 30 = .ok (.ireturn, 1) := by decide +kernel
theorem dX11_check_31 : decode cX11_check 31 = .ok (.iconst (-1), 1) := by decide +kernel
theorem dX11_check_32 : decode cX11_check 32 = .ok (.istore_n 3, 1) := by decide +kernel
theorem dX11_check_33 : decode cX11_check 33 = .ok (.iconst 0, 1) := by decide +kernel
theorem dX11_check_34 : decode cX11_check 34 = .ok (.istore 4, 2) := by decide +kernel
theorem dX11_check_36 : decode cX11_check 36 = .ok (.iload 4, 2) := by decide +kernel
theorem dX11_check_38 : decode cX11_check 38 = .ok (.iload_n 2, 1) := by decide +kernel
theorem dX11_check_39 : decode cX11_check 39 = .ok (.if_icmp .ge 61, 3) := by decide +kernel
theorem dX11_check_42 : decode cX11_check 42 = .ok (.iload_n 3, 1) := by decide +kernel
theorem dX11_check_43 : decode cX11_check 43 = .ok (.iconst (-1), 1) := by decide +kernel
theorem dX11_check_44 : decode cX11_check 44 = .ok (.if_icmp .ne 56, 3) := by decide +kernel
theorem dX11_check_47 : decode cX11_check 47 = .ok (.aload_n 0, 1) := by decide +kernel
theorem dX11_check_48 : decode cX11_check 48 = .ok (.getfield 42, 3) := by decide +kernel
theorem dX11_check_51 : decode cX11_check 51 = .ok (.iload 4, 2) := by decide +kernel
theorem dX11_check_53 : decode cX11_check 53 = .ok (.invokevirtual 87, 3) := by decide +kernel
theorem dX11_check_56 : decode cX11_check 56 = .ok (.ifCond .eq 16, 3) := by decide +kernel
theorem dX11_check_59 : decode cX11_check 59 = .ok (.aload_n 0, 1) := by decide +kernel
theorem dX11_check_60 : decode cX11_check 60 = .ok (.getfield 42, 3) := by decide +kernel
theorem dX11_check_63 : decode cX11_check 63 = .ok (.iload_n 1, 1) := by decide +kernel
theorem dX11_check_64 : decode cX11_check 64 = .ok (.iload 4, 2) := by decide +kernel
theorem dX11_check_66 : decode cX11_check 66 = .ok (.invokevirtual 182, 3) := by decide +kernel
theorem dX11_check_69 : decode cX11_check 69 = .ok (.goto 6, 3) := by decide +kernel
theorem dX11_check_72 : decode cX11_check 72 = .ok (.sipush 255, 3) := by decide +kernel
theorem dX11_check_75 : decode cX11_check 75 = .ok (.istore 5, 2) := by decide +kernel
theorem dX11_check_77 : decode cX11_check 77 = .ok (.aload_n 0, 1) := by decide +kernel
theorem dX11_check_78 : decode cX11_check 78 = .ok (.getfield 12, 3) := by decide +kernel
theorem dX11_check_81 : decode cX11_check 81 = .ok (.iload 4, 2) := by decide +kernel
theorem dX11_check_83 : decode cX11_check 83 = .ok (.invokevirtual 286, 3) := by decide +kernel
theorem dX11_check_86 : decode cX11_check 86 = .ok (.iload 5, 2) := by decide +kernel
theorem dX11_check_88 : decode cX11_check 88 = .ok (.if_icmp .eq 6, 3) := by decide +kernel
theorem dX11_check_91 : decode cX11_check 91 = .ok (.iload 4, 2) := by decide +kernel
theorem dX11_check_93 : decode cX11_check 93 = .ok (.istore_n 3, 1) := by decide +kernel
theorem dX11_check_94 : decode cX11_check 94 = .ok (.iinc 4 1, 3) := by decide +kernel
theorem dX11_check_97 : decode cX11_check 97 = .ok (.goto (-61), 3) := by decide +kernel
theorem dX11_check_100 : decode cX11_check 100 = .ok (.aload_n 0, 1) := by decide +kernel
theorem dX11_check_101 : decode cX11_check 101 = .ok (.getfield 12, 3) := by decide +kernel
theorem dX11_check_104 : decode cX11_check 104 = .ok (.invokevirtual 121, 3) := by decide +kernel
theorem dX11_check_107 : decode cX11_check 107 = .ok (.iload_n 3, 1) := by decide +kernel
theorem dX11_check_108 : decode cX11_check 108 = .ok (.ireturn, 1) := by decide +kernel
theorem dX11_count_0 : decode cX11_count 0 = .ok (.iload_n 1, 1) := by decide +kernel
theorem dX11_count_1 : decode cX11_count 1 = .ok (.tableswitch 147 0 10 #[59, 67, 75, 83, 91, 99, 107, 115, 123, 131, 139], 59) := by decide +kernel
theorem dX11_count_60 : decode cX11_count 60 = .ok (.aload_n 0, 1) := by decide +kernel
theorem dX11_count_61 : decode cX11_count 61 = .ok (.getfield 29, 3) := by decide +kernel
theorem dX11_count_64 : decode cX11_count 64 = .ok (.getfield 283, 3) := by decide +kernel
theorem dX11_count_67 : decode cX11_count 67 = .ok (.ireturn, 1) := by decide +kernel
theorem dX11_count_68 : decode cX11_count 68 = .ok (.aload_n 0, 1) := by decide +kernel
theorem dX11_count_69 : decode cX11_count 69 = .ok (.getfield 42, 3) := by decide +kernel
theorem dX11_count_72 : decode cX11_count 72 = .ok (.getfield 141, 3) := by decide +kernel
theorem dX11_count_75 : decode cX11_count 75 = .ok (.ireturn, 1) := by decide +kernel
theorem dX11_count_76 : decode cX11_count 76 = .ok (.aload_n 0, 1) := by decide +kernel
theorem dX11_count_77 : decode cX11_count 77 = .ok (.getfield 29, 3) := by decide +kernel
theorem dX11_count_80 : decode cX11_count 80 = .ok (.getfield 91, 3) := by decide +kernel
theorem dX11_count_83 : decode cX11_count 83 = .ok (.ireturn, 1) := by decide +kernel
theorem dX11_count_84 : decode cX11_count 84 = .ok (.aload_n 0, 1) := by decide +kernel
theorem dX11_count_85 : decode cX11_count 85 = .ok (.getfield 29, 3) := by decide +kernel
theorem dX11_count_88 : decode cX11_count 88 = .ok (.getfield 135, 3) := by decide +kernel
theorem dX11_count_91 : decode cX11_count 91 = .ok (.ireturn, 1) := by decide +kernel
theorem dX11_count_92 : decode cX11_count 92 = .ok (.aload_n 0, 1) := by decide +kernel
theorem dX11_count_93 : decode cX11_count 93 = .ok (.getfield 29, 3) := by decide +kernel
theorem dX11_count_96 : decode cX11_count 96 = .ok (.getfield 138, 3) := by decide +kernel
theorem dX11_count_99 : decode cX11_count 99 = .ok (.ireturn, 1) := by decide +kernel
theorem dX11_count_100 : decode cX11_count 100 = .ok (.aload_n 0, 1) := by decide +kernel
theorem dX11_count_101 : decode cX11_count 101 = .ok (.getfield 29, 3) := by decide +kernel
theorem dX11_count_104 : decode cX11_count 104 = .ok (.getfield 98, 3) := by decide +kernel
theorem dX11_count_107 : decode cX11_count 107 = .ok (.ireturn, 1) := by decide +kernel
theorem dX11_count_108 : decode cX11_count 108 = .ok (.aload_n 0, 1) := by decide +kernel
theorem dX11_count_109 : decode cX11_count 109 = .ok (.getfield 29, 3) := by decide +kernel
theorem dX11_count_112 : decode cX11_count 112 = .ok (.getfield 289, 3) := by decide +kernel
theorem dX11_count_115 : decode cX11_count 115 = .ok (.ireturn, 1) := by decide +kernel
theorem dX11_count_116 : decode cX11_count 116 = .ok (.aload_n 0, 1) := by decide +kernel
theorem dX11_count_117 : decode cX11_count 117 = .ok (.getfield 29, 3) := by decide +kernel
theorem dX11_count_120 : decode cX11_count 120 = .ok (.getfield 292, 3) := by decide +kernel
theorem dX11_count_123 : decode cX11_count 123 = .ok (.ireturn, 1) := by decide +kernel
theorem dX11_count_124 : decode cX11_count 124 = .ok (.aload_n 0, 1) := by decide +kernel
theorem dX11_count_125 : decode cX11_count 125 = .ok (.getfield 52, 3) := by decide +kernel
theorem dX11_count_128 : decode cX11_count 128 = .ok (.getfield 127, 3) := by decide +kernel
theorem dX11_count_131 : decode cX11_count 131 = .ok (.ireturn, 1) := by decide +kernel
theorem dX11_count_132 : decode cX11_count 132 = .ok (.aload_n 0, 1) := by decide +kernel
theorem dX11_count_133 : decode cX11_count 133 = .ok (.getfield 12, 3) := by decide +kernel
theorem dX11_count_136 : decode cX11_count 136 = .ok (.getfield 101, 3) := by decide +kernel
theorem dX11_count_139 : decode cX11_count 139 = .ok (.ireturn, 1) := by decide +kernel
theorem dX11_count_140 : decode cX11_count 140 = .ok (.aload_n 0, 1) := by decide +kernel
theorem dX11_count_141 : decode cX11_count 141 = .ok (.getfield 29, 3) := by decide +kernel
theorem dX11_count_144 : decode cX11_count 144 = .ok (.getfield 276, 3) := by decide +kernel
theorem dX11_count_147 : decode cX11_count 147 = .ok (.ireturn, 1) := by decide +kernel
theorem dX11_count_148 : decode cX11_count 148 = .ok (.iconst (-1), 1) := by decide +kernel
theorem dX11_count_149 : decode cX11_count 149 = .ok (.ireturn, 1) := by decide +kernel
theorem dX12_init_0 : decode cX12_init 0 = .ok (.aload_n 0, 1) := by decide +kernel
theorem dX12_init_1 : decode cX12_init 1 = .ok (.invokespecial 1, 3) := by decide +kernel
theorem dX12_init_4 : decode cX12_init 4 = .ok (.aload_n 0, 1) := by decide +kernel
theorem dX12_init_5 : decode cX12_init 5 = .ok (.bipush 8, 2) := by decide +kernel
theorem dX12_init_7 : decode cX12_init 7 = .ok (.newarray .int, 2) := by decide +kernel
theorem dX12_init_9 : decode cX12_init 9 = .ok (.putfield 7, 3) := by decide +kernel
theorem dX12_init_12 : decode cX12_init 12 = .ok (.aload_n 0, 1) := by decide +kernel
theorem dX12_init_13 : decode cX12_init 13 = .ok (.bipush 8, 2) := by decide +kernel
theorem dX12_init_15 : decode cX12_init 15 = .ok (.newarray .int, 2) := by decide +kernel
theorem dX12_init_17 : decode cX12_init 17 = .ok (.putfield 13, 3) := by decide +kernel
theorem dX12_init_20 : decode cX12_init 20 = .ok (.aload_n 0, 1) := by decide +kernel
theorem dX12_init_21 : decode cX12_init 21 = .ok (.bipush 8, 2) := by decide +kernel
theorem dX12_init_23 : decode cX12_init 23 = .ok (.newarray .int, 2) := by decide +kernel
theorem dX12_init_25 : decode cX12_init 25 = .ok (.putfield 16, 3) := by decide +kernel
theorem dX12_init_28 : decode cX12_init 28 = .ok (.aload_n 0, 1) := by decide +kernel
theorem dX12_init_29 : decode cX12_init 29 = .ok (.bipush 8, 2) := by decide +kernel
theorem dX12_init_31 : decode cX12_init 31 = .ok (.newarray .int, 2) := by decide +kernel
theorem dX12_init_33 : decode cX12_init 33 = .ok (.putfield 19, 3) := by decide +kernel
theorem dX12_init_36 : decode cX12_init 36 = .ok (.aload_n 0, 1) := by decide +kernel
theorem dX12_init_37 : decode cX12_init 37 = .ok (.bipush 80, 2) := by decide +kernel
theorem dX12_init_39 : decode cX12_init 39 = .ok (.newarray .int, 2) := by decide +kernel
theorem dX12_init_41 : decode cX12_init 41 = .ok (.putfield 22, 3) := by decide +kernel
theorem dX12_init_44 : decode cX12_init 44 = .ok (.aload_n 0, 1) := by decide +kernel
theorem dX12_init_45 : decode cX12_init 45 = .ok (.bipush 80, 2) := by decide +kernel
theorem dX12_init_47 : decode cX12_init 47 = .ok (.newarray .int, 2) := by decide +kernel
theorem dX12_init_49 : decode cX12_init 49 = .ok (.putfield 25, 3) := by decide +kernel
theorem dX12_init_52 : decode cX12_init 52 = .ok (.aload_n 0, 1) := by decide +kernel
theorem dX12_init_53 : decode cX12_init 53 = .ok (.sipush 260, 3) := by decide +kernel
theorem dX12_init_56 : decode cX12_init 56 = .ok (.newarray .byte, 2) := by decide +kernel
theorem dX12_init_58 : decode cX12_init 58 = .ok (.putfield 28, 3) := by decide +kernel
theorem dX12_init_61 : decode cX12_init 61 = .ok (.aload_n 0, 1) := by decide +kernel
theorem dX12_init_62 : decode cX12_init 62 = .ok (.sipush 260, 3) := by decide +kernel
theorem dX12_init_65 : decode cX12_init 65 = .ok (.newarray .int, 2) := by decide +kernel
theorem dX12_init_67 : decode cX12_init 67 = .ok (.putfield 32, 3) := by decide +kernel
theorem dX12_init_70 : decode cX12_init 70 = .ok (.aload_n 0, 1) := by decide +kernel
theorem dX12_init_71 : decode cX12_init 71 = .ok (.sipush 260, 3) := by decide +kernel
theorem dX12_init_74 : decode cX12_init 74 = .ok (.newarray .int, 2) := by decide +kernel
theorem dX12_init_76 : decode cX12_init 76 = .ok (.putfield 35, 3) := by decide +kernel
theorem dX12_init_79 : decode cX12_init 79 = .ok (.aload_n 0, 1) := by decide +kernel
theorem dX12_init_80 : decode cX12_init 80 = .ok (.bipush 16, 2) := by decide +kernel
theorem dX12_init_82 : decode cX12_init 82 = .ok (.newarray .int, 2) := by decide +kernel
theorem dX12_init_84 : decode cX12_init 84 = .ok (.putfield 38, 3) := by decide +kernel
theorem dX12_init_87 : decode cX12_init 87 = .ok (.aload_n 0, 1) := by decide +kernel
theorem dX12_init_88 : decode cX12_init 88 = .ok (.bipush 16, 2) := by decide +kernel
theorem dX12_init_90 : decode cX12_init 90 = .ok (.newarray .int, 2) := by decide +kernel
theorem dX12_init_92 : decode cX12_init 92 = .ok (.putfield 41, 3) := by decide +kernel
theorem dX12_init_95 : decode cX12_init 95 = .ok (.aload_n 0, 1) := by decide +kernel
theorem dX12_init_96 : decode cX12_init 96 = .ok (.bipush 16, 2) := by decide +kernel
theorem dX12_init_98 : decode cX12_init 98 = .ok (.newarray .int, 2) := by decide +kernel
theorem dX12_init_100 : decode cX12_init 100 = .ok (.putfield 44, 3) := by decide +kernel
theorem dX12_init_103 : decode cX12_init 103 = .ok (.aload_n 0, 1) := by decide +kernel
theorem dX12_init_104 : decode cX12_init 104 = .ok (.bipush 16, 2) := by decide +kernel
theorem dX12_init_106 : decode cX12_init 106 = .ok (.newarray .int, 2) := by decide +kernel
theorem dX12_init_108 : decode cX12_init 108 = .ok (.putfield 47, 3) := by decide +kernel
theorem dX12_init_111 : decode cX12_init 111 = .ok (.aload_n 0, 1) := by decide +kernel
theorem dX12_init_112 : decode cX12_init 112 = .ok (.sipush 260, 3) := by decide +kernel
theorem dX12_init_115 : decode cX12_init 115 = .ok (.newarray .int, 2) := by decide +kernel
theorem dX12_init_117 : decode cX12_init 117 = .ok (.putfield 50, 3) := by decide +kernel
theorem dX12_init_120 : decode cX12_init 120 = .ok (.aload_n 0, 1) := by decide +kernel
theorem dX12_init_121 : decode cX12_init 121 = .ok (.bipush 16, 2) := by decide +kernel
theorem dX12_init_123 : decode cX12_init 123 = .ok (.newarray .int, 2) := by decide +kernel
theorem dX12_init_125 : decode cX12_init 125 = .ok (.putfield 53, 3) := by decide +kernel
theorem dX12_init_128 : decode cX12_init 128 = .ok (.aload_n 0, 1) := by decide +kernel
theorem dX12_init_129 : decode cX12_init 129 = .ok (.bipush 16, 2) := by decide +kernel
theorem dX12_init_131 : decode cX12_init 131 = .ok (.newarray .int, 2) := by decide +kernel
theorem dX12_init_133 : decode cX12_init 133 = .ok (.putfield 56, 3) := by decide +kernel
theorem dX12_init_136 : decode cX12_init 136 = .ok (.aload_n 0, 1) := by decide +kernel
theorem dX12_init_137 : decode cX12_init 137 = .ok (.bipush 16, 2) := by decide +kernel
theorem dX12_init_139 : decode cX12_init 139 = .ok (.newarray .int, 2) := by decide +kernel
theorem dX12_init_141 : decode cX12_init 141 = .ok (.putfield 59, 3) := by decide +kernel
theorem dX12_init_144 : decode cX12_init 144 = .ok (.aload_n 0, 1) := by decide +kernel
theorem dX12_init_145 : decode cX12_init 145 = .ok (.bipush 16, 2) := by decide +kernel
theorem dX12_init_147 : decode cX12_init 147 = .ok (.newarray .int, 2) := by decide +kernel
theorem dX12_init_149 : decode cX12_init 149 = .ok (.putfield 62, 3) := by decide +kernel
theorem dX12_init_152 : decode cX12_init 152 = .ok (.aload_n 0, 1) := by decide +kernel
theorem dX12_init_153 : decode cX12_init 153 = .ok (.sipush 260, 3) := by decide +kernel
theorem dX12_init_156 : decode cX12_init 156 = .ok (.newarray .int, 2) := by decide +kernel
theorem dX12_init_158 : decode cX12_init 158 = .ok (.putfield 65, 3) := by decide +kernel
theorem dX12_init_161 : decode cX12_init 161 = .ok (.aload_n 0, 1) := by decide +kernel
theorem dX12_init_162 : decode cX12_init 162 = .ok (.bipush 9, 2) := by decide +kernel
theorem dX12_init_164 : decode cX12_init 164 = .ok (.newarray .int, 2) := by decide +kernel
theorem dX12_init_166 : decode cX12_init 166 = .ok (.putfield 68, 3) := by decide +kernel
theorem dX12_init_169 : decode cX12_init 169 = .ok (.aload_n 0, 1) := by decide +kernel
theorem dX12_init_170 : decode cX12_init 170 = .ok (.bipush 80, 2) := by decide +kernel
theorem dX12_init_172 : decode cX12_init 172 = .ok (.newarray .int, 2) := by decide +kernel
theorem dX12_init_174 : decode cX12_init 174 = .ok (.putfield 71, 3) := by decide +kernel
theorem dX12_init_177 : decode cX12_init 177 = .ok (.aload_n 0, 1) := by decide +kernel
theorem dX12_init_178 : decode cX12_init 178 = .ok (.bipush 80, 2) := by decide +kernel
theorem dX12_init_180 : decode cX12_init 180 = .ok (.newarray .int, 2) := by decide +kernel
theorem dX12_init_182 : decode cX12_init 182 = .ok (.putfield 74, 3) := by decide +kernel
theorem dX12_init_185 : decode cX12_init 185 = .ok (.aload_n 0, 1) := by decide +kernel
theorem dX12_init_186 : decode cX12_init 186 = .ok (.bipush 40, 2) := by decide +kernel
theorem dX12_init_188 : decode cX12_init 188 = .ok (.newarray .int, 2) := by decide +kernel
theorem dX12_init_190 : decode cX12_init 190 = .ok (.putfield 77, 3) := by decide +kernel
theorem dX12_init_193 : decode cX12_init 193 = .ok (.aload_n 0, 1) := by decide +kernel
theorem dX12_init_194 : decode cX12_init 194 = .ok (.iconst 2, 1) := by decide +kernel
theorem dX12_init_195 : decode cX12_init 195 = .ok (.newarray .int, 2) := by decide +kernel
theorem dX12_init_197 : decode cX12_init 197 = .ok (.putfield 80, 3) := by decide +kernel
theorem dX12_init_200 : decode cX12_init 200 = .ok (.aload_n 0, 1) := by decide +kernel
theorem dX12_init_201 : decode cX12_init 201 = .ok (.iconst 2, 1) := by decide +kernel
theorem dX12_init_202 : decode cX12_init 202 = .ok (.newarray .int, 2) := by decide +kernel
theorem dX12_init_204 : decode cX12_init 204 = .ok (.putfield 83, 3) := by decide +kernel
theorem dX12_init_207 : decode cX12_init 207 = .ok (.aload_n 0, 1) := by decide +kernel
theorem dX12_init_208 : decode cX12_init 208 = .ok (.iconst 2, 1) := by decide +kernel
theorem dX12_init_209 : decode cX12_init 209 = .ok (.newarray .int, 2) := by decide +kernel
theorem dX12_init_211 : decode cX12_init 211 = .ok (.putfield 86, 3) := by decide +kernel
theorem dX12_init_214 : decode cX12_init 214 = .ok (.aload_n 0, 1) := by decide +kernel
theorem dX12_init_215 : decode cX12_init 215 = .ok (.bipush 10, 2) := by decide +kernel
theorem dX12_init_217 : decode cX12_init 217 = .ok (.newarray .int, 2) := by decide +kernel
theorem dX12_init_219 : decode cX12_init 219 = .ok (.putfield 89, 3) := by decide +kernel
theorem dX12_init_222 : decode cX12_init 222 = .ok (.aload_n 0, 1) := by decide +kernel
theorem dX12_init_223 : decode cX12_init 223 = .ok (.sipush 1024, 3) := by decide +kernel
theorem dX12_init_226 : decode cX12_init 226 = .ok (.newarray .int, 2) := by decide +kernel
theorem dX12_init_228 : decode cX12_init 228 = .ok (.putfield 92, 3) := by decide +kernel
theorem dX12_init_231 : decode cX12_init 231 = .ok (.aload_n 0, 1) := by decide +kernel
theorem dX12_init_232 : decode cX12_init 232 = .ok (.bipush 10, 2) := by decide +kernel
theorem dX12_init_234 : decode cX12_init 234 = .ok (.newarray .int, 2) := by decide +kernel
theorem dX12_init_236 : decode cX12_init 236 = .ok (.putfield 95, 3) := by decide +kernel
theorem dX12_init_239 : decode cX12_init 239 = .ok (.aload_n 0, 1) := by decide +kernel
theorem dX12_init_240 : decode cX12_init 240 = .ok (.bipush 100, 2) := by decide +kernel
theorem dX12_init_242 : decode cX12_init 242 = .ok (.newarray .int, 2) := by decide +kernel
theorem dX12_init_244 : decode cX12_init 244 = .ok (.putfield 98, 3) := by decide +kernel
theorem dX12_init_247 : decode cX12_init 247 = .ok (.aload_n 0, 1) := by decide +kernel
theorem dX12_init_248 : decode cX12_init 248 = .ok (.sipush 1024, 3) := by decide +kernel
theorem dX12_init_251 : decode cX12_init 251 = .ok (.newarray .int, 2) := by decide +kernel
theorem dX12_init_253 : decode cX12_init 253 = .ok (.putfield 101, 3) := by decide +kernel
theorem dX12_init_256 : decode cX12_init 256 = .ok (.aload_n 0, 1) := by decide +kernel
theorem dX12_init_257 : decode cX12_init 257 = .ok (.sipush 1024, 3) := by decide +kernel
theorem dX12_init_260 : decode cX12_init 260 = .ok (.newarray .int, 2) := by decide +kernel
theorem dX12_init_262 : decode cX12_init 262 = .ok (.putfield 104, 3) := by decide +kernel
theorem dX12_init_265 : decode cX12_init 265 = .ok (.aload_n 0, 1) := by decide +kernel
theorem dX12_init_266 : decode cX12_init 266 = .ok (.sipush 1024, 3) := by decide +kernel
theorem dX12_init_269 : decode cX12_init 269 = .ok (.newarray .int, 2) := by decide +kernel
theorem dX12_init_271 : decode cX12_init 271 = .ok (.putfield 107, 3) := by decide +kernel
theorem dX12_init_274 : decode cX12_init 274 = .ok (.aload_n 0, 1) := by decide +kernel
theorem dX12_init_275 : decode cX12_init 275 = .ok (.sipush 1024, 3) := by decide +kernel
theorem dX12_init_278 : decode cX12_init 278 = .ok (.newarray .int, 2) := by decide +kernel
theorem dX12_init_280 : decode cX12_init 280 = .ok (.putfield 110, 3) := by decide +kernel
theorem dX12_init_283 : decode cX12_init 283 = .ok (.aload_n 0, 1) := by decide +kernel
theorem dX12_init_284 : decode cX12_init 284 = .ok (.bipush 90, 2) := by decide +kernel
theorem dX12_init_286 : decode cX12_init 286 = .ok (.newarray .int, 2) := by decide +kernel
theorem dX12_init_288 : decode cX12_init 288 = .ok (.putfield 113, 3) := by decide +kernel
theorem dX12_init_291 : decode cX12_init 291 = .ok (.aload_n 0, 1) := by decide +kernel
theorem dX12_init_292 : decode cX12_init 292 = .ok (.bipush 90, 2) := by decide +kernel
theorem dX12_init_294 : decode cX12_init 294 = .ok (.newarray .int, 2) := by decide +kernel
theorem dX12_init_296 : decode cX12_init 296 = .ok (.putfield 116, 3) := by decide +kernel
theorem dX12_init_299 : decode cX12_init 299 = .ok (.aload_n 0, 1) := by decide +kernel
theorem dX12_init_300 : decode cX12_init 300 = .ok (.getfield 7, 3) := by decide +kernel
theorem dX12_init_303 : decode cX12_init 303 = .ok (.bipush 7, 2) := by decide +kernel
theorem dX12_init_305 : decode cX12_init 305 = .ok (.iconst 1, 1) := by decide +kernel
theorem dX12_init_306 : decode cX12_init 306 = .ok (.iastore, 1) := by decide +kernel
theorem dX12_init_307 : decode cX12_init 307 = .ok (.aload_n 0, 1) := by decide +kernel
theorem dX12_init_308 : decode cX12_init 308 = .ok (.getfield 7, 3) := by decide +kernel
theorem dX12_init_311 : decode cX12_init 311 = .ok (.iconst 2, 1) := by decide +kernel
theorem dX12_init_312 : decode cX12_init 312 = .ok (.bipush 8, 2) := by decide +kernel
theorem dX12_init_314 : decode cX12_init 314 = .ok (.iastore, 1) := by decide +kernel
theorem dX12_init_315 : decode cX12_init 315 = .ok (.aload_n 0, 1) := by decide +kernel
theorem dX12_init_316 : decode cX12_init 316 = .ok (.getfield 7, 3) := by decide +kernel
theorem dX12_init_319 : decode cX12_init 319 = .ok (.iconst 3, 1) := by decide +kernel
theorem dX12_init_320 : decode cX12_init 320 = .ok (.sipush 999, 3) := by decide +kernel
theorem dX12_init_323 : decode cX12_init 323 = .ok (.iastore, 1) := by decide +kernel
theorem dX12_init_324 : decode cX12_init 324 = .ok (.iconst 0, 1) := by decide +kernel
theorem dX12_init_325 : decode cX12_init 325 = .ok (.istore_n 1, 1) := by decide +kernel
theorem dX12_init_326 : decode cX12_init 326 = .ok (.iload_n 1, 1) := by decide +kernel
theorem dX12_init_327 : decode cX12_init 327 = .ok (.bipush 8, 2) := by decide +kernel
theorem dX12_init_329 : decode cX12_init 329 = .ok (.if_icmp .ge 16, 3) := by decide +kernel
theorem dX12_init_332 : decode cX12_init 332 = .ok (.aload_n 0, 1) := by decide +kernel
theorem dX12_init_333 : decode cX12_init 333 = .ok (.getfield 19, 3) := by decide +kernel
theorem dX12_init_336 : decode cX12_init 336 = .ok (.iload_n 1, 1) := by decide +kernel
theorem dX12_init_337 : decode cX12_init 337 = .ok (.iconst 1, 1) := by decide +kernel
theorem dX12_init_338 : decode cX12_init 338 = .ok (.iastore, 1) := by decide +kernel
theorem dX12_init_339 : decode cX12_init 339 = .ok (.iinc 1 1, 3) := by decide +kernel
theorem dX12_init_342 : decode cX12_init 342 = .ok (.goto (-16), 3) := by decide +kernel
theorem dX12_init_345 : decode cX12_init 345 = .ok (.return_, 1) := by decide +kernel
theorem dX12_state_0 : decode cX12_state 0 = .ok (.aload_n 0, 1) := by decide +kernel
theorem dX12_state_1 : decode cX12_state 1 = .ok (.iload_n 1, 1) := by decide +kernel
theorem dX12_state_2 : decode cX12_state 2 = .ok (.invokevirtual 131, 3) := by decide +kernel
theorem dX12_state_5 : decode cX12_state 5 = .ok (.ifCond .ne 5, 3) := by decide +kernel
theorem dX12_state_8 : decode cX12_state 8 = .ok (.iconst 0, 1) := by decide +kernel
theorem dX12_state_9 : decode cX12_state 9 = .ok (.ireturn, 1) := by decide +kernel
theorem dX12_state_10 : decode cX12_state 10 = .ok (.aload_n 0, 1) := by decide +kernel
theorem dX12_state_11 : decode cX12_state 11 = .ok (.getfield 7, 3) := by decide +kernel
theorem dX12_state_14 : decode cX12_state 14 = .ok (.iconst 0, 1) := by decide +kernel
theorem dX12_state_15 : decode cX12_state 15 = .ok (.iload_n 1, 1) := by decide +kernel
theorem dX12_state_16 : decode cX12_state 16 = .ok (.iastore, 1) := by decide +kernel
theorem dX12_state_17 : decode cX12_state 17 = .ok (.iconst 1, 1) := by decide +kernel
theorem dX12_state_18 : decode cX12_state 18 = .ok (.ireturn, 1) := by decide +kernel
theorem dX12_isState_0 : decode cX12_isState 0 = .ok (.iload_n 1, 1) := by decide +kernel
theorem dX12_isState_1 : decode cX12_isState 1 = .ok (.iconst 0, 1) := by decide +kernel
theorem dX12_isState_2 : decode cX12_isState 2 = .ok (.aload_n 0, 1) := by decide +kernel
theorem dX12_isState_3 : decode cX12_isState 3 = .ok (.getfield 123, 3) := by decide +kernel
theorem dX12_isState_6 : decode cX12_isState 6 = .ok (.iconst 1, 1) := by decide +kernel
theorem dX12_isState_7 : decode cX12_isState 7 = .ok (.isub, 1) := by decide +kernel
theorem dX12_isState_8 : decode cX12_isState 8 = .ok (.invokestatic 127, 3) := by decide +kernel
theorem dX12_isState_11 : decode cX12_isState 11 = .ok (.ireturn, 1) := by decide +kernel
theorem dX12_in_0 : decode cX12_in 0 = .ok (.iload_n 0, 1) := by decide +kernel
theorem dX12_in_1 : decode cX12_in 1 = .ok (.iload_n 1, 1) := by decide +kernel
theorem dX12_in_2 : decode cX12_in 2 = .ok (.if_icmp .lt 12, 3) := by decide +kernel
theorem dX12_in_5 : decode cX12_in 5 = .ok (.iload_n 0, 1) := by decide +kernel
theorem dX12_in_6 : decode cX12_in 6 = .ok (.iload_n 2, 1) := by decide +kernel
theorem dX12_in_7 : decode cX12_in 7 = .ok (.if_icmp .gt 7, 3) := by decide +kernel
theorem dX12_in_10 : decode cX12_in 10 = .ok (.iconst 1, 1) := by decide +kernel
theorem dX12_in_11 : decode cX12_in 11 = .ok (.goto 4, 3) := by decide +kernel
theorem dX12_in_14 : decode cX12_in 14 = .ok (.iconst 0, 1) := by decide +kernel
theorem dX12_in_15 : decode cX12_in 15 = .ok (.ireturn, 1) := by decide +kernel
theorem dX12_price_0 : decode cX12_price 0 = .ok (.iload_n 1, 1) := by decide +kernel
theorem dX12_price_1 : decode cX12_price 1 = .ok (.invokestatic 135, 3) := by decide +kernel
theorem dX12_price_4 : decode cX12_price 4 = .ok (.ifCond .eq 13, 3) := by decide +kernel
theorem dX12_price_7 : decode cX12_price 7 = .ok (.iload_n 2, 1) := by decide +kernel
theorem dX12_price_8 : decode cX12_price 8 = .ok (.iconst 0, 1) := by decide +kernel
theorem dX12_price_9 : decode cX12_price 9 = .ok (.bipush 99, 2) := by decide +kernel
theorem dX12_price_11 : decode cX12_price 11 = .ok (.invokestatic 127, 3) := by decide +kernel
theorem dX12_price_14 : decode cX12_price 14 = .ok (.ifCond .ne 5, 3) := by decide +kernel
theorem dX12_price_17 : decode cX12_price 17 = .ok (.iconst 0, 1) := by decide +kernel
theorem dX12_price_18 : decode cX12_price 18 = .ok (.ireturn, 1) := by decide +kernel
theorem dX12_price_19 : decode cX12_price 19 = .ok (.aload_n 0, 1) := by decide +kernel
theorem dX12_price_20 : decode cX12_price 20 = .ok (.getfield 19, 3) := by decide +kernel
theorem dX12_price_23 : decode cX12_price 23 = .ok (.iload_n 1, 1) := by decide +kernel
theorem dX12_price_24 : decode cX12_price 24 = .ok (.iload_n 2, 1) := by decide +kernel
theorem dX12_price_25 : decode cX12_price 25 = .ok (.iastore, 1) := by decide +kernel
theorem dX12_price_26 : decode cX12_price 26 = .ok (.iconst 1, 1) := by decide +kernel
theorem dX12_price_27 : decode cX12_price 27 = .ok (.ireturn, 1) := by decide +kernel
theorem dX12_isQuestion_0 : decode cX12_isQuestion 0 = .ok (.iload_n 0, 1) := by decide +kernel
theorem dX12_isQuestion_1 : decode cX12_isQuestion 1 = .ok (.iconst 0, 1) := by decide +kernel
theorem dX12_isQuestion_2 : decode cX12_isQuestion 2 = .ok (.bipush 7, 2) := by decide +kernel
theorem dX12_isQuestion_4 : decode cX12_isQuestion 4 = .ok (.invokestatic 127, 3) := by decide +kernel
theorem dX12_isQuestion_7 : decode cX12_isQuestion 7 = .ok (.ireturn, 1) := by decide +kernel
theorem dX12_purse_0 : decode cX12_purse 0 = .ok (.iload_n 1, 1) := by decide +kernel
theorem dX12_purse_1 : decode cX12_purse 1 = .ok (.iconst 0, 1) := by decide +kernel
theorem dX12_purse_2 : decode cX12_purse 2 = .ok (.sipush 9999, 3) := by decide +kernel
theorem dX12_purse_5 : decode cX12_purse 5 = .ok (.invokestatic 127, 3) := by decide +kernel
theorem dX12_purse_8 : decode cX12_purse 8 = .ok (.ifCond .ne 5, 3) := by decide +kernel
theorem dX12_purse_11 : decode cX12_purse 11 = .ok (.iconst 0, 1) := by decide +kernel
theorem dX12_purse_12 : decode cX12_purse 12 = .ok (.ireturn, 1) := by decide +kernel
theorem dX12_purse_13 : decode cX12_purse 13 = .ok (.aload_n 0, 1) := by decide +kernel
theorem dX12_purse_14 : decode cX12_purse 14 = .ok (.getfield 7, 3) := by decide +kernel
theorem dX12_purse_17 : decode cX12_purse 17 = .ok (.iconst 3, 1) := by decide +kernel
theorem dX12_purse_18 : decode cX12_purse 18 = .ok (.iload_n 1, 1) := by decide +kernel
theorem dX12_purse_19 : decode cX12_purse 19 = .ok (.iastore, 1) := by decide +kernel
theorem dX12_purse_20 : decode cX12_purse 20 = .ok (.iconst 1, 1) := by decide +kernel
theorem dX12_purse_21 : decode cX12_purse 21 = .ok (.ireturn, 1) := by decide +kernel
theorem dX12_feed_0 : decode cX12_feed 0 = .ok (.aload_n 0, 1) := by decide +kernel
theorem dX12_feed_1 : decode cX12_feed 1 = .ok (.getfield 138, 3) := by decide +kernel
theorem dX12_feed_4 : decode cX12_feed 4 = .ok (.bipush 20, 2) := by decide +kernel
theorem dX12_feed_6 : decode cX12_feed 6 = .ok (.iadd, 1) := by decide +kernel
theorem dX12_feed_7 : decode cX12_feed 7 = .ok (.sipush 260, 3) := by decide +kernel
theorem dX12_feed_10 : decode cX12_feed 10 = .ok (.if_icmp .le 5, 3) := by decide +kernel
theorem dX12_feed_13 : decode cX12_feed 13 = .ok (.iconst (-1), 1) := by decide +kernel
theorem dX12_feed_14 : decode cX12_feed 14 = .ok (.ireturn, 1) := by decide +kernel
theorem dX12_feed_15 : decode cX12_feed 15 = .ok (.aload_n 0, 1) := by decide +kernel
theorem dX12_feed_16 : decode cX12_feed 16 = .ok (.iload_n 1, 1) := by decide +kernel
theorem dX12_feed_17 : decode cX12_feed 17 = .ok (.invokevirtual 141, 3) := by decide +kernel
theorem dX12_feed_20 : decode cX12_feed 20 = .ok (.aload_n 0, 1) := by decide +kernel
theorem dX12_feed_21 : decode cX12_feed 21 = .ok (.iload_n 2, 1) := by decide +kernel
theorem dX12_feed_22 : decode cX12_feed 22 = .ok (.invokevirtual 141, 3) := by decide +kernel
theorem dX12_feed_25 : decode cX12_feed 25 = .ok (.aload_n 0, 1) := by decide +kernel
theorem dX12_feed_26 : decode cX12_feed 26 = .ok (.iload_n 3, 1) := by decide +kernel
theorem dX12_feed_27 : decode cX12_feed 27 = .ok (.invokevirtual 141, 3) := by decide +kernel
theorem dX12_feed_30 : decode cX12_feed 30 = .ok (.aload_n 0, 1) := by decide +kernel
theorem dX12_feed_31 : decode cX12_feed 31 = .ok (.iload 4, 2) := by decide +kernel
theorem dX12_feed_33 : decode cX12_feed 33 = .ok (.invokevirtual 141, 3) := by decide +kernel
theorem dX12_feed_36 : decode cX12_feed 36 = .ok (.aload_n 0, 1) := by decide +kernel
theorem dX12_feed_37 : decode cX12_feed 37 = .ok (.iload 5, 2) := by decide +kernel
theorem dX12_feed_39 : decode cX12_feed 39 = .ok (.invokevirtual 141, 3) := by decide +kernel
theorem dX12_feed_42 : decode cX12_feed 42 = .ok (.aload_n 0, 1) := by decide +kernel
theorem dX12_feed_43 : decode cX12_feed 43 = .ok (.getfield 138, 3) := by decide +kernel
theorem dX12_feed_46 : decode cX12_feed 46 = .ok (.ireturn, 1) := by decide +kernel
theorem dX12_types_0 : decode cX12_types 0 = .ok (.iconst 3, 1) := by decide +kernel
theorem dX12_types_1 : decode cX12_types 1 = .ok (.istore_n 2, 1) := by decide +kernel
theorem dX12_types_2 : decode cX12_types 2 = .ok (.iload_n 2, 1) := by decide +kernel
theorem dX12_types_3 : decode cX12_types 3 = .ok (.ifCond .lt 35, 3) := by decide +kernel
theorem dX12_types_6 : decode cX12_types 6 = .ok (.aload_n 0, 1) := by decide +kernel
theorem dX12_types_7 : decode cX12_types 7 = .ok (.getfield 28, 3) := by decide +kernel
theorem dX12_types_10 : decode cX12_types 10 = .ok (.aload_n 0, 1) := by decide +kernel
theorem dX12_types_11 : decode cX12_types 11 = .ok (.getfield 138, 3) := by decide +kernel
theorem dX12_types_14 : decode cX12_types 14 = .ok (.iload_n 1, 1) := by decide +kernel
theorem dX12_types_15 : decode cX12_types 15 = .ok (.bipush 8, 2) := by decide +kernel
theorem dX12_types_17 : decode cX12_types 17 = .ok (.iload_n 2, 1) := by decide +kernel
theorem dX12_types_18 : decode cX12_types 18 = .ok (.imul, 1) := by decide +kernel
theorem dX12_types_19 : decode cX12_types 19 = .ok (.ishr, 1) := by decide +kernel
theorem dX12_types_20 : decode cX12_types 20 = .ok (.i2b, 1) := by decide +kernel
theorem dX12_types_21 : decode cX12_types 21 = .ok (.bastore, 1) := by decide +kernel
theorem dX12_types_22 : decode cX12_types 22 = .ok (.aload_n 0, 1) := by decide +kernel
theorem dX12_types_23 : decode cX12_types 23 = .ok (.aload_n 0, 1) := by decide +kernel
theorem dX12_types_24 : decode cX12_types 24 = .ok (.getfield 138, 3) := by decide +kernel
theorem dX12_types_27 : decode cX12_types 27 = .ok (.iconst 1, 1) := by decide +kernel
theorem dX12_types_28 : decode cX12_types 28 = .ok (.iadd, 1) := by decide +kernel
theorem dX12_types_29 : decode cX12_types 29 = .ok (.putfield 138, 3) := by decide +kernel
theorem dX12_types_32 : decode cX12_types 32 = .ok (.iinc 2 (-1), 3) := by decide +kernel
theorem dX12_types_35 : decode cX12_types 35 = .ok (.goto (-33), 3) := by decide +kernel
theorem dX12_types_38 : decode cX12_types 38 = .ok (.return_, 1) := by decide +kernel
theorem dX12_law_0 : decode cX12_law 0 = .ok (.iload_n 1, 1) := by decide +kernel
theorem dX12_law_1 : decode cX12_law 1 = .ok (.iconst 1, 1) := by decide +kernel
theorem dX12_law_2 : decode cX12_law 2 = .ok (.sipush 240, 3) := by decide +kernel
theorem dX12_law_5 : decode cX12_law 5 = .ok (.invokestatic 127, 3) := by decide +kernel
theorem dX12_law_8 : decode cX12_law 8 = .ok (.ifCond .eq 11, 3) := by decide +kernel
theorem dX12_law_11 : decode cX12_law 11 = .ok (.iload_n 1, 1) := by decide +kernel
theorem dX12_law_12 : decode cX12_law 12 = .ok (.aload_n 0, 1) := by decide +kernel
theorem dX12_law_13 : decode cX12_law 13 = .ok (.getfield 138, 3) := by decide +kernel
theorem dX12_law_16 : decode cX12_law 16 = .ok (.if_icmp .le 5, 3) := by decide +kernel
theorem dX12_law_19 : decode cX12_law 19 = .ok (.iconst (-1), 1) := by decide +kernel
theorem dX12_law_20 : decode cX12_law 20 = .ok (.ireturn, 1) := by decide +kernel
theorem dX12_law_21 : decode cX12_law 21 = .ok (.aload_n 0, 1) := by decide +kernel
theorem dX12_law_22 : decode cX12_law 22 = .ok (.iload_n 1, 1) := by decide +kernel
theorem dX12_law_23 : decode cX12_law 23 = .ok (.invokevirtual 229, 3) := by decide +kernel
theorem dX12_law_26 : decode cX12_law 26 = .ok (.aload_n 0, 1) := by decide +kernel
theorem dX12_law_27 : decode cX12_law 27 = .ok (.invokevirtual 232, 3) := by decide +kernel
theorem dX12_law_30 : decode cX12_law 30 = .ok (.istore_n 2, 1) := by decide +kernel
theorem dX12_law_31 : decode cX12_law 31 = .ok (.iload_n 2, 1) := by decide +kernel
theorem dX12_law_32 : decode cX12_law 32 = .ok (.ifCond .eq 39, 3) := by decide +kernel
theorem dX12_law_35 : decode cX12_law 35 = .ok (.aload_n 0, 1) := by decide +kernel
theorem dX12_law_36 : decode cX12_law 36 = .ok (.getfield 145, 3) := by decide +kernel
theorem dX12_law_39 : decode cX12_law 39 = .ok (.aload_n 0, 1) := by decide +kernel
theorem dX12_law_40 : decode cX12_law 40 = .ok (.getfield 148, 3) := by decide +kernel
theorem dX12_law_43 : decode cX12_law 43 = .ok (.if_icmp .ge 28, 3) := by decide +kernel
theorem dX12_law_46 : decode cX12_law 46 = .ok (.aload_n 0, 1) := by decide +kernel
theorem dX12_law_47 : decode cX12_law 47 = .ok (.bipush 59, 2) := by decide +kernel
theorem dX12_law_49 : decode cX12_law 49 = .ok (.invokevirtual 235, 3) := by decide +kernel
theorem dX12_law_52 : decode cX12_law 52 = .ok (.ifCond .eq 14, 3) := by decide +kernel
theorem dX12_law_55 : decode cX12_law 55 = .ok (.aload_n 0, 1) := by decide +kernel
theorem dX12_law_56 : decode cX12_law 56 = .ok (.invokevirtual 232, 3) := by decide +kernel
theorem dX12_law_59 : decode cX12_law 59 = .ok (.ifCond .eq 7, 3) := by decide +kernel
theorem dX12_law_62 : decode cX12_law 62 = .ok (.iconst 1, 1) := by decide +kernel
theorem dX12_law_63 : decode cX12_law 63 = .ok (.goto 4, 3) := by decide +kernel
theorem dX12_law_66 : decode cX12_law 66 = .ok (.iconst 0, 1) := by decide +kernel
theorem dX12_law_67 : decode cX12_law 67 = .ok (.istore_n 2, 1) := by decide +kernel
theorem dX12_law_68 : decode cX12_law 68 = .ok (.goto (-37), 3) := by decide +kernel
theorem dX12_law_71 : decode cX12_law 71 = .ok (.aload_n 0, 1) := by decide +kernel
theorem dX12_law_72 : decode cX12_law 72 = .ok (.iconst 0, 1) := by decide +kernel
theorem dX12_law_73 : decode cX12_law 73 = .ok (.putfield 138, 3) := by decide +kernel
theorem dX12_law_76 : decode cX12_law 76 = .ok (.iload_n 2, 1) := by decide +kernel
theorem dX12_law_77 : decode cX12_law 77 = .ok (.ifCond .ne 8, 3) := by decide +kernel
theorem dX12_law_80 : decode cX12_law 80 = .ok (.aload_n 0, 1) := by decide +kernel
theorem dX12_law_81 : decode cX12_law 81 = .ok (.getfield 155, 3) := by decide +kernel
theorem dX12_law_84 : decode cX12_law 84 = .ok (.ireturn, 1) := by decide +kernel
theorem dX12_law_85 : decode cX12_law 85 = .ok (.aload_n 0, 1) := by decide +kernel
theorem dX12_law_86 : decode cX12_law 86 = .ok (.aload_n 0, 1) := by decide +kernel
theorem dX12_law_87 : decode cX12_law 87 = .ok (.getfield 223, 3) := by decide +kernel
theorem dX12_law_90 : decode cX12_law 90 = .ok (.putfield 238, 3) := by decide +kernel
theorem dX12_law_93 : decode cX12_law 93 = .ok (.iconst 0, 1) := by decide +kernel
theorem dX12_law_94 : decode cX12_law 94 = .ok (.istore_n 3, 1) := by decide +kernel
theorem dX12_law_95 : decode cX12_law 95 = .ok (.iload_n 3, 1) := by decide +kernel
theorem dX12_law_96 : decode cX12_law 96 = .ok (.aload_n 0, 1) := by decide +kernel
theorem dX12_law_97 : decode cX12_law 97 = .ok (.getfield 168, 3) := by decide +kernel
theorem dX12_law_100 : decode cX12_law 100 = .ok (.if_icmp .ge 21, 3) := by decide +kernel
theorem dX12_law_103 : decode cX12_law 103 = .ok (.aload_n 0, 1) := by decide +kernel
theorem dX12_law_104 : decode cX12_law 104 = .ok (.getfield 50, 3) := by decide +kernel
theorem dX12_law_107 : decode cX12_law 107 = .ok (.iload_n 3, 1) := by decide +kernel
theorem dX12_law_108 : decode cX12_law 108 = .ok (.aload_n 0, 1) := by decide +kernel
theorem dX12_law_109 : decode cX12_law 109 = .ok (.getfield 32, 3) := by decide +kernel
theorem dX12_law_112 : decode cX12_law 112 = .ok (.iload_n 3, 1) := by decide +kernel
theorem dX12_law_113 : decode cX12_law 113 = .ok (.iaload, 1) := by decide +kernel
theorem dX12_law_114 : decode cX12_law 114 = .ok (.iastore, 1) := by decide +kernel
theorem dX12_law_115 : decode cX12_law 115 = .ok (.iinc 3 1, 3) := by decide +kernel
theorem dX12_law_118 : decode cX12_law 118 = .ok (.goto (-23), 3) := by decide +kernel
theorem dX12_law_121 : decode cX12_law 121 = .ok (.iconst 0, 1) := by decide +kernel
theorem dX12_law_122 : decode cX12_law 122 = .ok (.istore_n 3, 1) := by decide +kernel
theorem dX12_law_123 : decode cX12_law 123 = .ok (.iload_n 3, 1) := by decide +kernel
theorem dX12_law_124 : decode cX12_law 124 = .ok (.aload_n 0, 1) := by decide +kernel
theorem dX12_law_125 : decode cX12_law 125 = .ok (.getfield 223, 3) := by decide +kernel
theorem dX12_law_128 : decode cX12_law 128 = .ok (.if_icmp .ge 57, 3) := by decide +kernel
theorem dX12_law_131 : decode cX12_law 131 = .ok (.aload_n 0, 1) := by decide +kernel
theorem dX12_law_132 : decode cX12_law 132 = .ok (.getfield 53, 3) := by decide +kernel
theorem dX12_law_135 : decode cX12_law 135 = .ok (.iload_n 3, 1) := by decide +kernel
theorem dX12_law_136 : decode cX12_law 136 = .ok (.aload_n 0, 1) := by decide +kernel
theorem dX12_law_137 : decode cX12_law 137 = .ok (.getfield 38, 3) := by decide +kernel
theorem dX12_law_140 : decode cX12_law 140 = .ok (.iload_n 3, 1) := by decide +kernel
theorem dX12_law_141 : decode cX12_law 141 = .ok (.iaload, 1) := by decide +kernel
theorem dX12_law_142 : decode cX12_law 142 = .ok (.iastore, 1) := by decide +kernel
theorem dX12_law_143 : decode cX12_law 143 = .ok (.aload_n 0, 1) := by decide +kernel
theorem dX12_law_144 : decode cX12_law 144 = .ok (.getfield 56, 3) := by decide +kernel
theorem dX12_law_147 : decode cX12_law 147 = .ok (.iload_n 3, 1) := by decide +kernel
theorem dX12_law_148 : decode cX12_law 148 = .ok (.aload_n 0, 1) := by decide +kernel
theorem dX12_law_149 : decode cX12_law 149 = .ok (.getfield 41, 3) := by decide +kernel
theorem dX12_law_152 : decode cX12_law 152 = .ok (.iload_n 3, 1) := by decide +kernel
theorem dX12_law_153 : decode cX12_law 153 = .ok (.iaload, 1) := by decide +kernel
theorem dX12_law_154 : decode cX12_law 154 = .ok (.iastore, 1) := by decide +kernel
theorem dX12_law_155 : decode cX12_law 155 = .ok (.aload_n 0, 1) := by decide +kernel
theorem dX12_law_156 : decode cX12_law 156 = .ok (.getfield 59, 3) := by decide +kernel
theorem dX12_law_159 : decode cX12_law 159 = .ok (.iload_n 3, 1) := by decide +kernel
theorem dX12_law_160 : decode cX12_law 160 = .ok (.aload_n 0, 1) := by decide +kernel
theorem dX12_law_161 : decode cX12_law 161 = .ok (.getfield 44, 3) := by decide +kernel
theorem dX12_law_164 : decode cX12_law 164 = .ok (.iload_n 3, 1) := by decide +kernel
theorem dX12_law_165 : decode cX12_law 165 = .ok (.iaload, 1) := by decide +kernel
theorem dX12_law_166 : decode cX12_law 166 = .ok (.iastore, 1) := by decide +kernel
theorem dX12_law_167 : decode cX12_law 167 = .ok (.aload_n 0, 1) := by decide +kernel
theorem dX12_law_168 : decode cX12_law 168 = .ok (.getfield 62, 3) := by decide +kernel
theorem dX12_law_171 : decode cX12_law 171 = .ok (.iload_n 3, 1) := by decide +kernel
theorem dX12_law_172 : decode cX12_law 172 = .ok (.aload_n 0, 1) := by decide +kernel
theorem dX12_law_173 : decode cX12_law 173 = .ok (.getfield 47, 3) := by decide +kernel
theorem dX12_law_176 : decode cX12_law 176 = .ok (.iload_n 3, 1) := by decide +kernel
theorem dX12_law_177 : decode cX12_law 177 = .ok (.iaload, 1) := by decide +kernel
theorem dX12_law_178 : decode cX12_law 178 = .ok (.iastore, 1) := by decide +kernel
theorem dX12_law_179 : decode cX12_law 179 = .ok (.iinc 3 1, 3) := by decide +kernel
theorem dX12_law_182 : decode cX12_law 182 = .ok (.goto (-59), 3) := by decide +kernel
theorem dX12_law_185 : decode cX12_law 185 = .ok (.aload_n 0, 1) := by decide +kernel
theorem dX12_law_186 : decode cX12_law 186 = .ok (.getfield 223, 3) := by decide +kernel
theorem dX12_law_189 : decode cX12_law 189 = .ok (.ireturn, 1) := by decide +kernel
theorem dX12_beginsText_0 : decode cX12_beginsText 0 = .ok (.aload_n 0, 1) := by decide +kernel
theorem dX12_beginsText_1 : decode cX12_beginsText 1 = .ok (.iconst 0, 1) := by decide +kernel
theorem dX12_beginsText_2 : decode cX12_beginsText 2 = .ok (.putfield 145, 3) := by decide +kernel
theorem dX12_beginsText_5 : decode cX12_beginsText 5 = .ok (.aload_n 0, 1) := by decide +kernel
theorem dX12_beginsText_6 : decode cX12_beginsText 6 = .ok (.iload_n 1, 1) := by decide +kernel
theorem dX12_beginsText_7 : decode cX12_beginsText 7 = .ok (.putfield 148, 3) := by decide +kernel
theorem dX12_beginsText_10 : decode cX12_beginsText 10 = .ok (.aload_n 0, 1) := by decide +kernel
theorem dX12_beginsText_11 : decode cX12_beginsText 11 = .ok (.iconst 0, 1) := by decide +kernel
theorem dX12_beginsText_12 : decode cX12_beginsText 12 = .ok (.putfield 168, 3) := by decide +kernel
theorem dX12_beginsText_15 : decode cX12_beginsText 15 = .ok (.aload_n 0, 1) := by decide +kernel
theorem dX12_beginsText_16 : decode cX12_beginsText 16 = .ok (.iconst 0, 1) := by decide +kernel
theorem dX12_beginsText_17 : decode cX12_beginsText 17 = .ok (.putfield 223, 3) := by decide +kernel
theorem dX12_beginsText_20 : decode cX12_beginsText 20 = .ok (.return_, 1) := by decide +kernel
theorem dX12_readsRule_0 : decode cX12_readsRule 0 = .ok (.aload_n 0, 1) := by decide +kernel
theorem dX12_readsRule_1 : decode cX12_readsRule 1 = .ok (.invokevirtual 151, 3) := by decide +kernel
theorem dX12_readsRule_4 : decode cX12_readsRule 4 = .ok (.istore_n 1, 1) := by decide +kernel
theorem dX12_readsRule_5 : decode cX12_readsRule 5 = .ok (.iload_n 1, 1) := by decide +kernel
theorem dX12_readsRule_6 : decode cX12_readsRule 6 = .ok (.bipush 101, 2) := by decide +kernel
theorem dX12_readsRule_8 : decode cX12_readsRule 8 = .ok (.if_icmp .eq 25, 3) := by decide +kernel
theorem dX12_readsRule_11 : decode cX12_readsRule 11 = .ok (.iload_n 1, 1) := by decide +kernel
theorem dX12_readsRule_12 : decode cX12_readsRule 12 = .ok (.bipush 103, 2) := by decide +kernel
theorem dX12_readsRule_14 : decode cX12_readsRule 14 = .ok (.if_icmp .eq 19, 3) := by decide +kernel
theorem dX12_readsRule_17 : decode cX12_readsRule 17 = .ok (.iload_n 1, 1) := by decide +kernel
theorem dX12_readsRule_18 : decode cX12_readsRule 18 = .ok (.bipush 120, 2) := by decide +kernel
theorem dX12_readsRule_20 : decode cX12_readsRule 20 = .ok (.if_icmp .eq 13, 3) := by decide +kernel
theorem dX12_readsRule_23 : decode cX12_readsRule 23 = .ok (.aload_n 0, 1) := by decide +kernel
theorem dX12_readsRule_24 : decode cX12_readsRule 24 = .ok (.iconst 1, 1) := by decide +kernel
theorem dX12_readsRule_25 : decode cX12_readsRule 25 = .ok (.aload_n 0, 1) := by decide +kernel
theorem dX12_readsRule_26 : decode cX12_readsRule 26 = .ok (.getfield 145, 3) := by decide +kernel
theorem dX12_readsRule_29 : decode cX12_readsRule 29 = .ok (.invokevirtual 158, 3) := by decide +kernel
theorem dX12_readsRule_32 : decode cX12_readsRule 32 = .ok (.ireturn, 1) := by decide +kernel
theorem dX12_readsRule_33 : decode cX12_readsRule 33 = .ok (.aload_n 0, 1) := by decide +kernel
theorem dX12_readsRule_34 : decode cX12_readsRule 34 = .ok (.getfield 223, 3) := by decide +kernel
theorem dX12_readsRule_37 : decode cX12_readsRule 37 = .ok (.bipush 16, 2) := by decide +kernel
theorem dX12_readsRule_39 : decode cX12_readsRule 39 = .ok (.if_icmp .ne 13, 3) := by decide +kernel
theorem dX12_readsRule_42 : decode cX12_readsRule 42 = .ok (.aload_n 0, 1) := by decide +kernel
theorem dX12_readsRule_43 : decode cX12_readsRule 43 = .ok (.iconst 4, 1) := by decide +kernel
theorem dX12_readsRule_44 : decode cX12_readsRule 44 = .ok (.aload_n 0, 1) := by decide +kernel
theorem dX12_readsRule_45 : decode cX12_readsRule 45 = .ok (.getfield 145, 3) := by decide +kernel
theorem dX12_readsRule_48 : decode cX12_readsRule 48 = .ok (.invokevirtual 158, 3) := by decide +kernel
theorem dX12_readsRule_51 : decode cX12_readsRule 51 = .ok (.ireturn, 1) := by decide +kernel
theorem dX12_readsRule_52 : decode cX12_readsRule 52 = .ok (.aload_n 0, 1) := by decide +kernel
theorem dX12_readsRule_53 : decode cX12_readsRule 53 = .ok (.getfield 38, 3) := by decide +kernel
theorem dX12_readsRule_56 : decode cX12_readsRule 56 = .ok (.aload_n 0, 1) := by decide +kernel
theorem dX12_readsRule_57 : decode cX12_readsRule 57 = .ok (.getfield 223, 3) := by decide +kernel
theorem dX12_readsRule_60 : decode cX12_readsRule 60 = .ok (.iload_n 1, 1) := by decide +kernel
theorem dX12_readsRule_61 : decode cX12_readsRule 61 = .ok (.iastore, 1) := by decide +kernel
theorem dX12_readsRule_62 : decode cX12_readsRule 62 = .ok (.aload_n 0, 1) := by decide +kernel
theorem dX12_readsRule_63 : decode cX12_readsRule 63 = .ok (.aload_n 0, 1) := by decide +kernel
theorem dX12_readsRule_64 : decode cX12_readsRule 64 = .ok (.getfield 145, 3) := by decide +kernel
theorem dX12_readsRule_67 : decode cX12_readsRule 67 = .ok (.iconst 1, 1) := by decide +kernel
theorem dX12_readsRule_68 : decode cX12_readsRule 68 = .ok (.iadd, 1) := by decide +kernel
theorem dX12_readsRule_69 : decode cX12_readsRule 69 = .ok (.putfield 145, 3) := by decide +kernel
theorem dX12_readsRule_72 : decode cX12_readsRule 72 = .ok (.aload_n 0, 1) := by decide +kernel
theorem dX12_readsRule_73 : decode cX12_readsRule 73 = .ok (.getfield 41, 3) := by decide +kernel
theorem dX12_readsRule_76 : decode cX12_readsRule 76 = .ok (.aload_n 0, 1) := by decide +kernel
theorem dX12_readsRule_77 : decode cX12_readsRule 77 = .ok (.getfield 223, 3) := by decide +kernel
theorem dX12_readsRule_80 : decode cX12_readsRule 80 = .ok (.aload_n 0, 1) := by decide +kernel
theorem dX12_readsRule_81 : decode cX12_readsRule 81 = .ok (.getfield 168, 3) := by decide +kernel
theorem dX12_readsRule_84 : decode cX12_readsRule 84 = .ok (.iastore, 1) := by decide +kernel
theorem dX12_readsRule_85 : decode cX12_readsRule 85 = .ok (.aload_n 0, 1) := by decide +kernel
theorem dX12_readsRule_86 : decode cX12_readsRule 86 = .ok (.iconst 0, 1) := by decide +kernel
theorem dX12_readsRule_87 : decode cX12_readsRule 87 = .ok (.putfield 172, 3) := by decide +kernel
theorem dX12_readsRule_90 : decode cX12_readsRule 90 = .ok (.aload_n 0, 1) := by decide +kernel
theorem dX12_readsRule_91 : decode cX12_readsRule 91 = .ok (.iconst 0, 1) := by decide +kernel
theorem dX12_readsRule_92 : decode cX12_readsRule 92 = .ok (.putfield 175, 3) := by decide +kernel
theorem dX12_readsRule_95 : decode cX12_readsRule 95 = .ok (.iload_n 1, 1) := by decide +kernel
theorem dX12_readsRule_96 : decode cX12_readsRule 96 = .ok (.bipush 120, 2) := by decide +kernel
theorem dX12_readsRule_98 : decode cX12_readsRule 98 = .ok (.if_icmp .eq 12, 3) := by decide +kernel
theorem dX12_readsRule_101 : decode cX12_readsRule 101 = .ok (.aload_n 0, 1) := by decide +kernel
theorem dX12_readsRule_102 : decode cX12_readsRule 102 = .ok (.invokevirtual 208, 3) := by decide +kernel
theorem dX12_readsRule_105 : decode cX12_readsRule 105 = .ok (.ifCond .ne 5, 3) := by decide +kernel
theorem dX12_readsRule_108 : decode cX12_readsRule 108 = .ok (.iconst 0, 1) := by decide +kernel
theorem dX12_readsRule_109 : decode cX12_readsRule 109 = .ok (.ireturn, 1) := by decide +kernel
theorem dX12_readsRule_110 : decode cX12_readsRule 110 = .ok (.aload_n 0, 1) := by decide +kernel
theorem dX12_readsRule_111 : decode cX12_readsRule 111 = .ok (.getfield 44, 3) := by decide +kernel
theorem dX12_readsRule_114 : decode cX12_readsRule 114 = .ok (.aload_n 0, 1) := by decide +kernel
theorem dX12_readsRule_115 : decode cX12_readsRule 115 = .ok (.getfield 223, 3) := by decide +kernel
theorem dX12_readsRule_118 : decode cX12_readsRule 118 = .ok (.aload_n 0, 1) := by decide +kernel
theorem dX12_readsRule_119 : decode cX12_readsRule 119 = .ok (.getfield 168, 3) := by decide +kernel
theorem dX12_readsRule_122 : decode cX12_readsRule 122 = .ok (.iastore, 1) := by decide +kernel
theorem dX12_readsRule_123 : decode cX12_readsRule 123 = .ok (.aload_n 0, 1) := by decide +kernel
theorem dX12_readsRule_124 : decode cX12_readsRule 124 = .ok (.invokevirtual 226, 3) := by decide +kernel
theorem dX12_readsRule_127 : decode cX12_readsRule 127 = .ok (.ifCond .ne 5, 3) := by decide +kernel
theorem dX12_readsRule_130 : decode cX12_readsRule 130 = .ok (.iconst 0, 1) := by decide +kernel
theorem dX12_readsRule_131 : decode cX12_readsRule 131 = .ok (.ireturn, 1) := by decide +kernel
theorem dX12_readsRule_132 : decode cX12_readsRule 132 = .ok (.aload_n 0, 1) := by decide +kernel
theorem dX12_readsRule_133 : decode cX12_readsRule 133 = .ok (.getfield 47, 3) := by decide +kernel
theorem dX12_readsRule_136 : decode cX12_readsRule 136 = .ok (.aload_n 0, 1) := by decide +kernel
theorem dX12_readsRule_137 : decode cX12_readsRule 137 = .ok (.getfield 223, 3) := by decide +kernel
theorem dX12_readsRule_140 : decode cX12_readsRule 140 = .ok (.aload_n 0, 1) := by decide +kernel
theorem dX12_readsRule_141 : decode cX12_readsRule 141 = .ok (.getfield 168, 3) := by decide +kernel
theorem dX12_readsRule_144 : decode cX12_readsRule 144 = .ok (.iastore, 1) := by decide +kernel
theorem dX12_readsRule_145 : decode cX12_readsRule 145 = .ok (.aload_n 0, 1) := by decide +kernel
theorem dX12_readsRule_146 : decode cX12_readsRule 146 = .ok (.aload_n 0, 1) := by decide +kernel
theorem dX12_readsRule_147 : decode cX12_readsRule 147 = .ok (.getfield 223, 3) := by decide +kernel
theorem dX12_readsRule_150 : decode cX12_readsRule 150 = .ok (.iconst 1, 1) := by decide +kernel
theorem dX12_readsRule_151 : decode cX12_readsRule 151 = .ok (.iadd, 1) := by decide +kernel
theorem dX12_readsRule_152 : decode cX12_readsRule 152 = .ok (.putfield 223, 3) := by decide +kernel
theorem dX12_readsRule_155 : decode cX12_readsRule 155 = .ok (.iconst 1, 1) := by decide +kernel
theorem dX12_readsRule_156 : decode cX12_readsRule 156 = .ok (.ireturn, 1) := by decide +kernel
theorem dX12_here_0 : decode cX12_here 0 = .ok (.aload_n 0, 1) := by decide +kernel
theorem dX12_here_1 : decode cX12_here 1 = .ok (.getfield 145, 3) := by decide +kernel
theorem dX12_here_4 : decode cX12_here 4 = .ok (.aload_n 0, 1) := by decide +kernel
theorem dX12_here_5 : decode cX12_here 5 = .ok (.getfield 148, 3) := by decide +kernel
theorem dX12_here_8 : decode cX12_here 8 = .ok (.if_icmp .ge 19, 3) := by decide +kernel
theorem dX12_here_11 : decode cX12_here 11 = .ok (.aload_n 0, 1) := by decide +kernel
theorem dX12_here_12 : decode cX12_here 12 = .ok (.getfield 28, 3) := by decide +kernel
theorem dX12_here_15 : decode cX12_here 15 = .ok (.aload_n 0, 1) := by decide +kernel
theorem dX12_here_16 : decode cX12_here 16 = .ok (.getfield 145, 3) := by decide +kernel
theorem dX12_here_19 : decode cX12_here 19 = .ok (.baload, 1) := by decide +kernel
theorem dX12_here_20 : decode cX12_here 20 = .ok (.sipush 255, 3) := by decide +kernel
theorem dX12_here_23 : decode cX12_here 23 = .ok (.iand, 1) := by decide +kernel
theorem dX12_here_24 : decode cX12_here 24 = .ok (.goto 4, 3) := by decide +kernel
theorem dX12_here_27 : decode cX12_here 27 = .ok (.iconst (-1), 1) := by decide +kernel
theorem dX12_here_28 : decode cX12_here 28 = .ok (.ireturn, 1) := by decide +kernel
theorem dX12_wrongAt_0 : decode cX12_wrongAt 0 = .ok (.aload_n 0, 1) := by decide +kernel
theorem dX12_wrongAt_1 : decode cX12_wrongAt 1 = .ok (.sipush (-1000), 3) := by decide +kernel
theorem dX12_wrongAt_4 : decode cX12_wrongAt 4 = .ok (.iload_n 1, 1) := by decide +kernel
theorem dX12_wrongAt_5 : decode cX12_wrongAt 5 = .ok (.imul, 1) := by decide +kernel
theorem dX12_wrongAt_6 : decode cX12_wrongAt 6 = .ok (.iload_n 2, 1) := by decide +kernel
theorem dX12_wrongAt_7 : decode cX12_wrongAt 7 = .ok (.isub, 1) := by decide +kernel
theorem dX12_wrongAt_8 : decode cX12_wrongAt 8 = .ok (.putfield 155, 3) := by decide +kernel
theorem dX12_wrongAt_11 : decode cX12_wrongAt 11 = .ok (.iconst 0, 1) := by decide +kernel
theorem dX12_wrongAt_12 : decode cX12_wrongAt 12 = .ok (.ireturn, 1) := by decide +kernel
theorem dX12_readsSum_0 : decode cX12_readsSum 0 = .ok (.aload_n 0, 1) := by decide +kernel
theorem dX12_readsSum_1 : decode cX12_readsSum 1 = .ok (.getfield 175, 3) := by decide +kernel
theorem dX12_readsSum_4 : decode cX12_readsSum 4 = .ok (.istore_n 1, 1) := by decide +kernel
theorem dX12_readsSum_5 : decode cX12_readsSum 5 = .ok (.aload_n 0, 1) := by decide +kernel
theorem dX12_readsSum_6 : decode cX12_readsSum 6 = .ok (.invokevirtual 195, 3) := by decide +kernel
theorem dX12_readsSum_9 : decode cX12_readsSum 9 = .ok (.ifCond .ne 5, 3) := by decide +kernel
theorem dX12_readsSum_12 : decode cX12_readsSum 12 = .ok (.iconst 0, 1) := by decide +kernel
theorem dX12_readsSum_13 : decode cX12_readsSum 13 = .ok (.ireturn, 1) := by decide +kernel
theorem dX12_readsSum_14 : decode cX12_readsSum 14 = .ok (.aload_n 0, 1) := by decide +kernel
theorem dX12_readsSum_15 : decode cX12_readsSum 15 = .ok (.invokevirtual 151, 3) := by decide +kernel
theorem dX12_readsSum_18 : decode cX12_readsSum 18 = .ok (.invokestatic 198, 3) := by decide +kernel
theorem dX12_readsSum_21 : decode cX12_readsSum 21 = .ok (.istore_n 2, 1) := by decide +kernel
theorem dX12_readsSum_22 : decode cX12_readsSum 22 = .ok (.iload_n 2, 1) := by decide +kernel
theorem dX12_readsSum_23 : decode cX12_readsSum 23 = .ok (.iconst (-1), 1) := by decide +kernel
theorem dX12_readsSum_24 : decode cX12_readsSum 24 = .ok (.if_icmp .eq 59, 3) := by decide +kernel
theorem dX12_readsSum_27 : decode cX12_readsSum 27 = .ok (.aload_n 0, 1) := by decide +kernel
theorem dX12_readsSum_28 : decode cX12_readsSum 28 = .ok (.iload_n 2, 1) := by decide +kernel
theorem dX12_readsSum_29 : decode cX12_readsSum 29 = .ok (.iconst 4, 1) := by decide +kernel
theorem dX12_readsSum_30 : decode cX12_readsSum 30 = .ok (.if_icmp .ge 7, 3) := by decide +kernel
theorem dX12_readsSum_33 : decode cX12_readsSum 33 = .ok (.iconst 1, 1) := by decide +kernel
theorem dX12_readsSum_34 : decode cX12_readsSum 34 = .ok (.goto 4, 3) := by decide +kernel
theorem dX12_readsSum_37 : decode cX12_readsSum 37 = .ok (.iconst 0, 1) := by decide +kernel
theorem dX12_readsSum_38 : decode cX12_readsSum 38 = .ok (.invokevirtual 201, 3) := by decide +kernel
theorem dX12_readsSum_41 : decode cX12_readsSum 41 = .ok (.aload_n 0, 1) := by decide +kernel
theorem dX12_readsSum_42 : decode cX12_readsSum 42 = .ok (.getfield 35, 3) := by decide +kernel
theorem dX12_readsSum_45 : decode cX12_readsSum 45 = .ok (.aload_n 0, 1) := by decide +kernel
theorem dX12_readsSum_46 : decode cX12_readsSum 46 = .ok (.getfield 175, 3) := by decide +kernel
theorem dX12_readsSum_49 : decode cX12_readsSum 49 = .ok (.ldc 171, 2) := by decide +kernel
theorem dX12_readsSum_51 : decode cX12_readsSum 51 = .ok (.iload_n 2, 1) := by decide +kernel
theorem dX12_readsSum_52 : decode cX12_readsSum 52 = .ok (.imul, 1) := by decide +kernel
theorem dX12_readsSum_53 : decode cX12_readsSum 53 = .ok (.iastore, 1) := by decide +kernel
theorem dX12_readsSum_54 : decode cX12_readsSum 54 = .ok (.aload_n 0, 1) := by decide +kernel
theorem dX12_readsSum_55 : decode cX12_readsSum 55 = .ok (.aload_n 0, 1) := by decide +kernel
theorem dX12_readsSum_56 : decode cX12_readsSum 56 = .ok (.getfield 175, 3) := by decide +kernel
theorem dX12_readsSum_59 : decode cX12_readsSum 59 = .ok (.iconst 1, 1) := by decide +kernel
theorem dX12_readsSum_60 : decode cX12_readsSum 60 = .ok (.iadd, 1) := by decide +kernel
theorem dX12_readsSum_61 : decode cX12_readsSum 61 = .ok (.putfield 175, 3) := by decide +kernel
theorem dX12_readsSum_64 : decode cX12_readsSum 64 = .ok (.aload_n 0, 1) := by decide +kernel
theorem dX12_readsSum_65 : decode cX12_readsSum 65 = .ok (.aload_n 0, 1) := by decide +kernel
theorem dX12_readsSum_66 : decode cX12_readsSum 66 = .ok (.getfield 145, 3) := by decide +kernel
theorem dX12_readsSum_69 : decode cX12_readsSum 69 = .ok (.iconst 1, 1) := by decide +kernel
theorem dX12_readsSum_70 : decode cX12_readsSum 70 = .ok (.iadd, 1) := by decide +kernel
theorem dX12_readsSum_71 : decode cX12_readsSum 71 = .ok (.putfield 145, 3) := by decide +kernel
theorem dX12_readsSum_74 : decode cX12_readsSum 74 = .ok (.aload_n 0, 1) := by decide +kernel
theorem dX12_readsSum_75 : decode cX12_readsSum 75 = .ok (.invokevirtual 195, 3) := by decide +kernel
theorem dX12_readsSum_78 : decode cX12_readsSum 78 = .ok (.ifCond .ne 85, 3) := by decide +kernel
theorem dX12_readsSum_81 : decode cX12_readsSum 81 = .ok (.iconst 0, 1) := by decide +kernel
theorem dX12_readsSum_82 : decode cX12_readsSum 82 = .ok (.ireturn, 1) := by decide +kernel
theorem dX12_readsSum_83 : decode cX12_readsSum 83 = .ok (.aload_n 0, 1) := by decide +kernel
theorem dX12_readsSum_84 : decode cX12_readsSum 84 = .ok (.invokevirtual 151, 3) := by decide +kernel
theorem dX12_readsSum_87 : decode cX12_readsSum 87 = .ok (.bipush 93, 2) := by decide +kernel
theorem dX12_readsSum_89 : decode cX12_readsSum 89 = .ok (.if_icmp .ne 49, 3) := by decide +kernel
theorem dX12_readsSum_92 : decode cX12_readsSum 92 = .ok (.aload_n 0, 1) := by decide +kernel
theorem dX12_readsSum_93 : decode cX12_readsSum 93 = .ok (.iload_n 1, 1) := by decide +kernel
theorem dX12_readsSum_94 : decode cX12_readsSum 94 = .ok (.invokevirtual 205, 3) := by decide +kernel
theorem dX12_readsSum_97 : decode cX12_readsSum 97 = .ok (.ifCond .eq 41, 3) := by decide +kernel
theorem dX12_readsSum_100 : decode cX12_readsSum 100 = .ok (.aload_n 0, 1) := by decide +kernel
theorem dX12_readsSum_101 : decode cX12_readsSum 101 = .ok (.iconst 1, 1) := by decide +kernel
theorem dX12_readsSum_102 : decode cX12_readsSum 102 = .ok (.invokevirtual 201, 3) := by decide +kernel
theorem dX12_readsSum_105 : decode cX12_readsSum 105 = .ok (.aload_n 0, 1) := by decide +kernel
theorem dX12_readsSum_106 : decode cX12_readsSum 106 = .ok (.aload_n 0, 1) := by decide +kernel
theorem dX12_readsSum_107 : decode cX12_readsSum 107 = .ok (.getfield 175, 3) := by decide +kernel
theorem dX12_readsSum_110 : decode cX12_readsSum 110 = .ok (.iconst 1, 1) := by decide +kernel
theorem dX12_readsSum_111 : decode cX12_readsSum 111 = .ok (.isub, 1) := by decide +kernel
theorem dX12_readsSum_112 : decode cX12_readsSum 112 = .ok (.putfield 175, 3) := by decide +kernel
theorem dX12_readsSum_115 : decode cX12_readsSum 115 = .ok (.aload_n 0, 1) := by decide +kernel
theorem dX12_readsSum_116 : decode cX12_readsSum 116 = .ok (.aload_n 0, 1) := by decide +kernel
theorem dX12_readsSum_117 : decode cX12_readsSum 117 = .ok (.getfield 172, 3) := by decide +kernel
theorem dX12_readsSum_120 : decode cX12_readsSum 120 = .ok (.iconst 1, 1) := by decide +kernel
theorem dX12_readsSum_121 : decode cX12_readsSum 121 = .ok (.isub, 1) := by decide +kernel
theorem dX12_readsSum_122 : decode cX12_readsSum 122 = .ok (.putfield 172, 3) := by decide +kernel
theorem dX12_readsSum_125 : decode cX12_readsSum 125 = .ok (.aload_n 0, 1) := by decide +kernel
theorem dX12_readsSum_126 : decode cX12_readsSum 126 = .ok (.aload_n 0, 1) := by decide +kernel
theorem dX12_readsSum_127 : decode cX12_readsSum 127 = .ok (.getfield 145, 3) := by decide +kernel
theorem dX12_readsSum_130 : decode cX12_readsSum 130 = .ok (.iconst 1, 1) := by decide +kernel
theorem dX12_readsSum_131 : decode cX12_readsSum 131 = .ok (.iadd, 1) := by decide +kernel
theorem dX12_readsSum_132 : decode cX12_readsSum 132 = .ok (.putfield 145, 3) := by decide +kernel
theorem dX12_readsSum_135 : decode cX12_readsSum 135 = .ok (.goto 28, 3) := by decide +kernel
theorem dX12_readsSum_138 : decode cX12_readsSum 138 = .ok (.aload_n 0, 1) := by decide +kernel
theorem dX12_readsSum_139 : decode cX12_readsSum 139 = .ok (.iload_n 1, 1) := by decide +kernel
theorem dX12_readsSum_140 : decode cX12_readsSum 140 = .ok (.invokevirtual 205, 3) := by decide +kernel
theorem dX12_readsSum_143 : decode cX12_readsSum 143 = .ok (.ifCond .eq 13, 3) := by decide +kernel
theorem dX12_readsSum_146 : decode cX12_readsSum 146 = .ok (.aload_n 0, 1) := by decide +kernel
theorem dX12_readsSum_147 : decode cX12_readsSum 147 = .ok (.iconst 1, 1) := by decide +kernel
theorem dX12_readsSum_148 : decode cX12_readsSum 148 = .ok (.aload_n 0, 1) := by decide +kernel
theorem dX12_readsSum_149 : decode cX12_readsSum 149 = .ok (.getfield 145, 3) := by decide +kernel
theorem dX12_readsSum_152 : decode cX12_readsSum 152 = .ok (.invokevirtual 158, 3) := by decide +kernel
theorem dX12_readsSum_155 : decode cX12_readsSum 155 = .ok (.ireturn, 1) := by decide +kernel
theorem dX12_readsSum_156 : decode cX12_readsSum 156 = .ok (.aload_n 0, 1) := by decide +kernel
theorem dX12_readsSum_157 : decode cX12_readsSum 157 = .ok (.iconst 1, 1) := by decide +kernel
theorem dX12_readsSum_158 : decode cX12_readsSum 158 = .ok (.invokevirtual 201, 3) := by decide +kernel
theorem dX12_readsSum_161 : decode cX12_readsSum 161 = .ok (.iconst 1, 1) := by decide +kernel
theorem dX12_readsSum_162 : decode cX12_readsSum 162 = .ok (.ireturn, 1) := by decide +kernel
theorem dX12_readsSum_163 : decode cX12_readsSum 163 = .ok (.goto (-149), 3) := by decide +kernel
theorem dX12_readsFactor_0 : decode cX12_readsFactor 0 = .ok (.aload_n 0, 1) := by decide +kernel
theorem dX12_readsFactor_1 : decode cX12_readsFactor 1 = .ok (.invokevirtual 151, 3) := by decide +kernel
theorem dX12_readsFactor_4 : decode cX12_readsFactor 4 = .ok (.bipush 91, 2) := by decide +kernel
theorem dX12_readsFactor_6 : decode cX12_readsFactor 6 = .ok (.if_icmp .ne 14, 3) := by decide +kernel
theorem dX12_readsFactor_9 : decode cX12_readsFactor 9 = .ok (.aload_n 0, 1) := by decide +kernel
theorem dX12_readsFactor_10 : decode cX12_readsFactor 10 = .ok (.bipush 14, 2) := by decide +kernel
theorem dX12_readsFactor_12 : decode cX12_readsFactor 12 = .ok (.invokevirtual 185, 3) := by decide +kernel
theorem dX12_readsFactor_15 : decode cX12_readsFactor 15 = .ok (.ifCond .ne (-15), 3) := by decide +kernel
theorem dX12_readsFactor_18 : decode cX12_readsFactor 18 = .ok (.iconst 0, 1) := by decide +kernel
theorem dX12_readsFactor_19 : decode cX12_readsFactor 19 = .ok (.ireturn, 1) := by decide +kernel
theorem dX12_readsFactor_20 : decode cX12_readsFactor 20 = .ok (.aload_n 0, 1) := by decide +kernel
theorem dX12_readsFactor_21 : decode cX12_readsFactor 21 = .ok (.invokevirtual 164, 3) := by decide +kernel
theorem dX12_readsFactor_24 : decode cX12_readsFactor 24 = .ok (.ifCond .eq 23, 3) := by decide +kernel
theorem dX12_readsFactor_27 : decode cX12_readsFactor 27 = .ok (.aload_n 0, 1) := by decide +kernel
theorem dX12_readsFactor_28 : decode cX12_readsFactor 28 = .ok (.invokevirtual 188, 3) := by decide +kernel
theorem dX12_readsFactor_31 : decode cX12_readsFactor 31 = .ok (.ifCond .ne 5, 3) := by decide +kernel
theorem dX12_readsFactor_34 : decode cX12_readsFactor 34 = .ok (.iconst 0, 1) := by decide +kernel
theorem dX12_readsFactor_35 : decode cX12_readsFactor 35 = .ok (.ireturn, 1) := by decide +kernel
theorem dX12_readsFactor_36 : decode cX12_readsFactor 36 = .ok (.aload_n 0, 1) := by decide +kernel
theorem dX12_readsFactor_37 : decode cX12_readsFactor 37 = .ok (.iconst 0, 1) := by decide +kernel
theorem dX12_readsFactor_38 : decode cX12_readsFactor 38 = .ok (.aload_n 0, 1) := by decide +kernel
theorem dX12_readsFactor_39 : decode cX12_readsFactor 39 = .ok (.getfield 161, 3) := by decide +kernel
theorem dX12_readsFactor_42 : decode cX12_readsFactor 42 = .ok (.invokevirtual 181, 3) := by decide +kernel
theorem dX12_readsFactor_45 : decode cX12_readsFactor 45 = .ok (.iconst 1, 1) := by decide +kernel
theorem dX12_readsFactor_46 : decode cX12_readsFactor 46 = .ok (.ireturn, 1) := by decide +kernel
theorem dX12_readsFactor_47 : decode cX12_readsFactor 47 = .ok (.aload_n 0, 1) := by decide +kernel
theorem dX12_readsFactor_48 : decode cX12_readsFactor 48 = .ok (.invokevirtual 151, 3) := by decide +kernel
theorem dX12_readsFactor_51 : decode cX12_readsFactor 51 = .ok (.invokestatic 191, 3) := by decide +kernel
theorem dX12_readsFactor_54 : decode cX12_readsFactor 54 = .ok (.istore_n 1, 1) := by decide +kernel
theorem dX12_readsFactor_55 : decode cX12_readsFactor 55 = .ok (.iload_n 1, 1) := by decide +kernel
theorem dX12_readsFactor_56 : decode cX12_readsFactor 56 = .ok (.iconst (-1), 1) := by decide +kernel
theorem dX12_readsFactor_57 : decode cX12_readsFactor 57 = .ok (.if_icmp .ne 13, 3) := by decide +kernel
theorem dX12_readsFactor_60 : decode cX12_readsFactor 60 = .ok (.aload_n 0, 1) := by decide +kernel
theorem dX12_readsFactor_61 : decode cX12_readsFactor 61 = .ok (.iconst 1, 1) := by decide +kernel
theorem dX12_readsFactor_62 : decode cX12_readsFactor 62 = .ok (.aload_n 0, 1) := by decide +kernel
theorem dX12_readsFactor_63 : decode cX12_readsFactor 63 = .ok (.getfield 145, 3) := by decide +kernel
theorem dX12_readsFactor_66 : decode cX12_readsFactor 66 = .ok (.invokevirtual 158, 3) := by decide +kernel
theorem dX12_readsFactor_69 : decode cX12_readsFactor 69 = .ok (.ireturn, 1) := by decide +kernel
theorem dX12_readsFactor_70 : decode cX12_readsFactor 70 = .ok (.aload_n 0, 1) := by decide +kernel
theorem dX12_readsFactor_71 : decode cX12_readsFactor 71 = .ok (.iconst 1, 1) := by decide +kernel
theorem dX12_readsFactor_72 : decode cX12_readsFactor 72 = .ok (.iload_n 1, 1) := by decide +kernel
theorem dX12_readsFactor_73 : decode cX12_readsFactor 73 = .ok (.invokevirtual 181, 3) := by decide +kernel
theorem dX12_readsFactor_76 : decode cX12_readsFactor 76 = .ok (.aload_n 0, 1) := by decide +kernel
theorem dX12_readsFactor_77 : decode cX12_readsFactor 77 = .ok (.aload_n 0, 1) := by decide +kernel
theorem dX12_readsFactor_78 : decode cX12_readsFactor 78 = .ok (.getfield 145, 3) := by decide +kernel
theorem dX12_readsFactor_81 : decode cX12_readsFactor 81 = .ok (.iconst 1, 1) := by decide +kernel
theorem dX12_readsFactor_82 : decode cX12_readsFactor 82 = .ok (.iadd, 1) := by decide +kernel
theorem dX12_readsFactor_83 : decode cX12_readsFactor 83 = .ok (.putfield 145, 3) := by decide +kernel
theorem dX12_readsFactor_86 : decode cX12_readsFactor 86 = .ok (.iconst 1, 1) := by decide +kernel
theorem dX12_readsFactor_87 : decode cX12_readsFactor 87 = .ok (.ireturn, 1) := by decide +kernel
theorem dX12_opens_0 : decode cX12_opens 0 = .ok (.aload_n 0, 1) := by decide +kernel
theorem dX12_opens_1 : decode cX12_opens 1 = .ok (.getfield 172, 3) := by decide +kernel
theorem dX12_opens_4 : decode cX12_opens 4 = .ok (.bipush 6, 2) := by decide +kernel
theorem dX12_opens_6 : decode cX12_opens 6 = .ok (.if_icmp .ne 13, 3) := by decide +kernel
theorem dX12_opens_9 : decode cX12_opens 9 = .ok (.aload_n 0, 1) := by decide +kernel
theorem dX12_opens_10 : decode cX12_opens 10 = .ok (.iconst 5, 1) := by decide +kernel
theorem dX12_opens_11 : decode cX12_opens 11 = .ok (.aload_n 0, 1) := by decide +kernel
theorem dX12_opens_12 : decode cX12_opens 12 = .ok (.getfield 145, 3) := by decide +kernel
theorem dX12_opens_15 : decode cX12_opens 15 = .ok (.invokevirtual 158, 3) := by decide +kernel
theorem dX12_opens_18 : decode cX12_opens 18 = .ok (.ireturn, 1) := by decide +kernel
theorem dX12_opens_19 : decode cX12_opens 19 = .ok (.aload_n 0, 1) := by decide +kernel
theorem dX12_opens_20 : decode cX12_opens 20 = .ok (.aload_n 0, 1) := by decide +kernel
theorem dX12_opens_21 : decode cX12_opens 21 = .ok (.getfield 172, 3) := by decide +kernel
theorem dX12_opens_24 : decode cX12_opens 24 = .ok (.iconst 1, 1) := by decide +kernel
theorem dX12_opens_25 : decode cX12_opens 25 = .ok (.iadd, 1) := by decide +kernel
theorem dX12_opens_26 : decode cX12_opens 26 = .ok (.putfield 172, 3) := by decide +kernel
theorem dX12_opens_29 : decode cX12_opens 29 = .ok (.aload_n 0, 1) := by decide +kernel
theorem dX12_opens_30 : decode cX12_opens 30 = .ok (.getfield 35, 3) := by decide +kernel
theorem dX12_opens_33 : decode cX12_opens 33 = .ok (.aload_n 0, 1) := by decide +kernel
theorem dX12_opens_34 : decode cX12_opens 34 = .ok (.getfield 175, 3) := by decide +kernel
theorem dX12_opens_37 : decode cX12_opens 37 = .ok (.ldc 171, 2) := by decide +kernel
theorem dX12_opens_39 : decode cX12_opens 39 = .ok (.iload_n 1, 1) := by decide +kernel
theorem dX12_opens_40 : decode cX12_opens 40 = .ok (.imul, 1) := by decide +kernel
theorem dX12_opens_41 : decode cX12_opens 41 = .ok (.iastore, 1) := by decide +kernel
theorem dX12_opens_42 : decode cX12_opens 42 = .ok (.aload_n 0, 1) := by decide +kernel
theorem dX12_opens_43 : decode cX12_opens 43 = .ok (.aload_n 0, 1) := by decide +kernel
theorem dX12_opens_44 : decode cX12_opens 44 = .ok (.getfield 175, 3) := by decide +kernel
theorem dX12_opens_47 : decode cX12_opens 47 = .ok (.iconst 1, 1) := by decide +kernel
theorem dX12_opens_48 : decode cX12_opens 48 = .ok (.iadd, 1) := by decide +kernel
theorem dX12_opens_49 : decode cX12_opens 49 = .ok (.putfield 175, 3) := by decide +kernel
theorem dX12_opens_52 : decode cX12_opens 52 = .ok (.aload_n 0, 1) := by decide +kernel
theorem dX12_opens_53 : decode cX12_opens 53 = .ok (.aload_n 0, 1) := by decide +kernel
theorem dX12_opens_54 : decode cX12_opens 54 = .ok (.getfield 145, 3) := by decide +kernel
theorem dX12_opens_57 : decode cX12_opens 57 = .ok (.iconst 1, 1) := by decide +kernel
theorem dX12_opens_58 : decode cX12_opens 58 = .ok (.iadd, 1) := by decide +kernel
theorem dX12_opens_59 : decode cX12_opens 59 = .ok (.putfield 145, 3) := by decide +kernel
theorem dX12_opens_62 : decode cX12_opens 62 = .ok (.iconst 1, 1) := by decide +kernel
theorem dX12_opens_63 : decode cX12_opens 63 = .ok (.ireturn, 1) := by decide +kernel
theorem dX12_isDigit_0 : decode cX12_isDigit 0 = .ok (.aload_n 0, 1) := by decide +kernel
theorem dX12_isDigit_1 : decode cX12_isDigit 1 = .ok (.invokevirtual 151, 3) := by decide +kernel
theorem dX12_isDigit_4 : decode cX12_isDigit 4 = .ok (.bipush 48, 2) := by decide +kernel
theorem dX12_isDigit_6 : decode cX12_isDigit 6 = .ok (.if_icmp .lt 16, 3) := by decide +kernel
theorem dX12_isDigit_9 : decode cX12_isDigit 9 = .ok (.aload_n 0, 1) := by decide +kernel
theorem dX12_isDigit_10 : decode cX12_isDigit 10 = .ok (.invokevirtual 151, 3) := by decide +kernel
theorem dX12_isDigit_13 : decode cX12_isDigit 13 = .ok (.bipush 57, 2) := by decide +kernel
theorem dX12_isDigit_15 : decode cX12_isDigit 15 = .ok (.if_icmp .gt 7, 3) := by decide +kernel
theorem dX12_isDigit_18 : decode cX12_isDigit 18 = .ok (.iconst 1, 1) := by decide +kernel
theorem dX12_isDigit_19 : decode cX12_isDigit 19 = .ok (.goto 4, 3) := by decide +kernel
theorem dX12_isDigit_22 : decode cX12_isDigit 22 = .ok (.iconst 0, 1) := by decide +kernel
theorem dX12_isDigit_23 : decode cX12_isDigit 23 = .ok (.ireturn, 1) := by decide +kernel
theorem dX12_readsNumber_0 : decode cX12_readsNumber 0 = .ok (.aload_n 0, 1) := by decide +kernel
theorem dX12_readsNumber_1 : decode cX12_readsNumber 1 = .ok (.getfield 145, 3) := by decide +kernel
theorem dX12_readsNumber_4 : decode cX12_readsNumber 4 = .ok (.istore_n 1, 1) := by decide +kernel
theorem dX12_readsNumber_5 : decode cX12_readsNumber 5 = .ok (.aload_n 0, 1) := by decide +kernel
theorem dX12_readsNumber_6 : decode cX12_readsNumber 6 = .ok (.iconst 0, 1) := by decide +kernel
theorem dX12_readsNumber_7 : decode cX12_readsNumber 7 = .ok (.putfield 161, 3) := by decide +kernel
theorem dX12_readsNumber_10 : decode cX12_readsNumber 10 = .ok (.aload_n 0, 1) := by decide +kernel
theorem dX12_readsNumber_11 : decode cX12_readsNumber 11 = .ok (.invokevirtual 164, 3) := by decide +kernel
theorem dX12_readsNumber_14 : decode cX12_readsNumber 14 = .ok (.ifCond .eq 55, 3) := by decide +kernel
theorem dX12_readsNumber_17 : decode cX12_readsNumber 17 = .ok (.aload_n 0, 1) := by decide +kernel
theorem dX12_readsNumber_18 : decode cX12_readsNumber 18 = .ok (.getfield 145, 3) := by decide +kernel
theorem dX12_readsNumber_21 : decode cX12_readsNumber 21 = .ok (.iload_n 1, 1) := by decide +kernel
theorem dX12_readsNumber_22 : decode cX12_readsNumber 22 = .ok (.iconst 5, 1) := by decide +kernel
theorem dX12_readsNumber_23 : decode cX12_readsNumber 23 = .ok (.iadd, 1) := by decide +kernel
theorem dX12_readsNumber_24 : decode cX12_readsNumber 24 = .ok (.if_icmp .ne 13, 3) := by decide +kernel
theorem dX12_readsNumber_27 : decode cX12_readsNumber 27 = .ok (.aload_n 0, 1) := by decide +kernel
theorem dX12_readsNumber_28 : decode cX12_readsNumber 28 = .ok (.iconst 2, 1) := by decide +kernel
theorem dX12_readsNumber_29 : decode cX12_readsNumber 29 = .ok (.aload_n 0, 1) := by decide +kernel
theorem dX12_readsNumber_30 : decode cX12_readsNumber 30 = .ok (.getfield 145, 3) := by decide +kernel
theorem dX12_readsNumber_33 : decode cX12_readsNumber 33 = .ok (.invokevirtual 158, 3) := by decide +kernel
theorem dX12_readsNumber_36 : decode cX12_readsNumber 36 = .ok (.ireturn, 1) := by decide +kernel
theorem dX12_readsNumber_37 : decode cX12_readsNumber 37 = .ok (.aload_n 0, 1) := by decide +kernel
theorem dX12_readsNumber_38 : decode cX12_readsNumber 38 = .ok (.bipush 10, 2) := by decide +kernel
theorem dX12_readsNumber_40 : decode cX12_readsNumber 40 = .ok (.aload_n 0, 1) := by decide +kernel
theorem dX12_readsNumber_41 : decode cX12_readsNumber 41 = .ok (.getfield 161, 3) := by decide +kernel
theorem dX12_readsNumber_44 : decode cX12_readsNumber 44 = .ok (.imul, 1) := by decide +kernel
theorem dX12_readsNumber_45 : decode cX12_readsNumber 45 = .ok (.aload_n 0, 1) := by decide +kernel
theorem dX12_readsNumber_46 : decode cX12_readsNumber 46 = .ok (.invokevirtual 151, 3) := by decide +kernel
theorem dX12_readsNumber_49 : decode cX12_readsNumber 49 = .ok (.iadd, 1) := by decide +kernel
theorem dX12_readsNumber_50 : decode cX12_readsNumber 50 = .ok (.bipush 48, 2) := by decide +kernel
theorem dX12_readsNumber_52 : decode cX12_readsNumber 52 = .ok (.isub, 1) := by decide +kernel
theorem dX12_readsNumber_53 : decode cX12_readsNumber 53 = .ok (.putfield 161, 3) := by decide +kernel
theorem dX12_readsNumber_56 : decode cX12_readsNumber 56 = .ok (.aload_n 0, 1) := by decide +kernel
theorem dX12_readsNumber_57 : decode cX12_readsNumber 57 = .ok (.aload_n 0, 1) := by decide +kernel
theorem dX12_readsNumber_58 : decode cX12_readsNumber 58 = .ok (.getfield 145, 3) := by decide +kernel
theorem dX12_readsNumber_61 : decode cX12_readsNumber 61 = .ok (.iconst 1, 1) := by decide +kernel
theorem dX12_readsNumber_62 : decode cX12_readsNumber 62 = .ok (.iadd, 1) := by decide +kernel
theorem dX12_readsNumber_63 : decode cX12_readsNumber 63 = .ok (.putfield 145, 3) := by decide +kernel
theorem dX12_readsNumber_66 : decode cX12_readsNumber 66 = .ok (.goto (-56), 3) := by decide +kernel
theorem dX12_readsNumber_69 : decode cX12_readsNumber 69 = .ok (.iconst 1, 1) := by decide +kernel
theorem dX12_readsNumber_70 : decode cX12_readsNumber 70 = .ok (.ireturn, 1) := by decide +kernel
theorem dX12_notes_0 : decode cX12_notes 0 = .ok (.aload_n 0, 1) := by decide +kernel
theorem dX12_notes_1 : decode cX12_notes 1 = .ok (.getfield 32, 3) := by decide +kernel
theorem dX12_notes_4 : decode cX12_notes 4 = .ok (.aload_n 0, 1) := by decide +kernel
theorem dX12_notes_5 : decode cX12_notes 5 = .ok (.getfield 168, 3) := by decide +kernel
theorem dX12_notes_8 : decode cX12_notes 8 = .ok (.ldc 171, 2) := by decide +kernel
theorem dX12_notes_10 : decode cX12_notes 10 = .ok (.iload_n 1, 1) := by decide +kernel
theorem dX12_notes_11 : decode cX12_notes 11 = .ok (.imul, 1) := by decide +kernel
theorem dX12_notes_12 : decode cX12_notes 12 = .ok (.iload_n 2, 1) := by decide +kernel
theorem dX12_notes_13 : decode cX12_notes 13 = .ok (.iadd, 1) := by decide +kernel
theorem dX12_notes_14 : decode cX12_notes 14 = .ok (.iastore, 1) := by decide +kernel
theorem dX12_notes_15 : decode cX12_notes 15 = .ok (.aload_n 0, 1) := by decide +kernel
theorem dX12_notes_16 : decode cX12_notes 16 = .ok (.aload_n 0, 1) := by decide +kernel
theorem dX12_notes_17 : decode cX12_notes 17 = .ok (.getfield 168, 3) := by decide +kernel
theorem dX12_notes_20 : decode cX12_notes 20 = .ok (.iconst 1, 1) := by decide +kernel
theorem dX12_notes_21 : decode cX12_notes 21 = .ok (.iadd, 1) := by decide +kernel
theorem dX12_notes_22 : decode cX12_notes 22 = .ok (.putfield 168, 3) := by decide +kernel
theorem dX12_notes_25 : decode cX12_notes 25 = .ok (.return_, 1) := by decide +kernel
theorem dX12_factOf_0 : decode cX12_factOf 0 = .ok (.iload_n 0, 1) := by decide +kernel
theorem dX12_factOf_1 : decode cX12_factOf 1 = .ok (.tableswitch 128 97 119 #[109, 115, 128, 128, 128, 128, 128, 128, 128, 128, 128, 111, 128, 117, 128, 113, 107, 128, 119, 122, 128, 128, 125], 107) := by decide +kernel
theorem dX12_factOf_108 : decode cX12_factOf 108 = .ok (.iconst 0, 1) := by decide +kernel
theorem dX12_factOf_109 : decode cX12_factOf 109 = .ok (.ireturn, 1) := by decide +kernel
theorem dX12_factOf_110 : decode cX12_factOf 110 = .ok (.iconst 1, 1) := by decide +kernel
theorem dX12_factOf_111 : decode cX12_factOf 111 = .ok (.ireturn, 1) := by decide +kernel
theorem dX12_factOf_112 : decode cX12_factOf 112 = .ok (.iconst 2, 1) := by decide +kernel
theorem dX12_factOf_113 : decode cX12_factOf 113 = .ok (.ireturn, 1) := by decide +kernel
theorem dX12_factOf_114 : decode cX12_factOf 114 = .ok (.iconst 3, 1) := by decide +kernel
theorem dX12_factOf_115 : decode cX12_factOf 115 = .ok (.ireturn, 1) := by decide +kernel
theorem dX12_factOf_116 : decode cX12_factOf 116 = .ok (.iconst 4, 1) := by decide +kernel
theorem dX12_factOf_117 : decode cX12_factOf 117 = .ok (.ireturn, 1) := by decide +kernel
theorem dX12_factOf_118 : decode cX12_factOf 118 = .ok (.iconst 5, 1) := by decide +kernel
theorem dX12_factOf_119 : decode cX12_factOf 119 = .ok (.ireturn, 1) := by decide +kernel
theorem dX12_factOf_120 : decode cX12_factOf 120 = .ok (.bipush 6, 2) := by decide +kernel
theorem dX12_factOf_122 : decode cX12_factOf 122 = .ok (.ireturn, 1) := by decide +kernel
theorem dX12_factOf_123 : decode cX12_factOf 123 = .ok (.bipush 7, 2) := by decide +kernel
theorem dX12_factOf_125 : decode cX12_factOf 125 = .ok (.ireturn, 1) := by decide +kernel
theorem dX12_factOf_126 : decode cX12_factOf 126 = .ok (.bipush 8, 2) := by decide +kernel
theorem dX12_factOf_128 : decode cX12_factOf 128 = .ok (.ireturn, 1) := by decide +kernel
theorem dX12_factOf_129 : decode cX12_factOf 129 = .ok (.iconst (-1), 1) := by decide +kernel
theorem dX12_factOf_130 : decode cX12_factOf 130 = .ok (.ireturn, 1) := by decide +kernel
theorem dX12_sumSign_0 : decode cX12_sumSign 0 = .ok (.iload_n 0, 1) := by decide +kernel
theorem dX12_sumSign_1 : decode cX12_sumSign 1 = .ok (.bipush 43, 2) := by decide +kernel
theorem dX12_sumSign_3 : decode cX12_sumSign 3 = .ok (.if_icmp .ne 7, 3) := by decide +kernel
theorem dX12_sumSign_6 : decode cX12_sumSign 6 = .ok (.iconst 2, 1) := by decide +kernel
theorem dX12_sumSign_7 : decode cX12_sumSign 7 = .ok (.goto 45, 3) := by decide +kernel
theorem dX12_sumSign_10 : decode cX12_sumSign 10 = .ok (.iload_n 0, 1) := by decide +kernel
theorem dX12_sumSign_11 : decode cX12_sumSign 11 = .ok (.bipush 45, 2) := by decide +kernel
theorem dX12_sumSign_13 : decode cX12_sumSign 13 = .ok (.if_icmp .ne 7, 3) := by decide +kernel
theorem dX12_sumSign_16 : decode cX12_sumSign 16 = .ok (.iconst 3, 1) := by decide +kernel
theorem dX12_sumSign_17 : decode cX12_sumSign 17 = .ok (.goto 35, 3) := by decide +kernel
theorem dX12_sumSign_20 : decode cX12_sumSign 20 = .ok (.iload_n 0, 1) := by decide +kernel
theorem dX12_sumSign_21 : decode cX12_sumSign 21 = .ok (.bipush 42, 2) := by decide +kernel
theorem dX12_sumSign_23 : decode cX12_sumSign 23 = .ok (.if_icmp .ne 7, 3) := by decide +kernel
theorem dX12_sumSign_26 : decode cX12_sumSign 26 = .ok (.iconst 4, 1) := by decide +kernel
theorem dX12_sumSign_27 : decode cX12_sumSign 27 = .ok (.goto 25, 3) := by decide +kernel
theorem dX12_sumSign_30 : decode cX12_sumSign 30 = .ok (.iload_n 0, 1) := by decide +kernel
theorem dX12_sumSign_31 : decode cX12_sumSign 31 = .ok (.bipush 47, 2) := by decide +kernel
theorem dX12_sumSign_33 : decode cX12_sumSign 33 = .ok (.if_icmp .ne 7, 3) := by decide +kernel
theorem dX12_sumSign_36 : decode cX12_sumSign 36 = .ok (.iconst 5, 1) := by decide +kernel
theorem dX12_sumSign_37 : decode cX12_sumSign 37 = .ok (.goto 15, 3) := by decide +kernel
theorem dX12_sumSign_40 : decode cX12_sumSign 40 = .ok (.iload_n 0, 1) := by decide +kernel
theorem dX12_sumSign_41 : decode cX12_sumSign 41 = .ok (.bipush 37, 2) := by decide +kernel
theorem dX12_sumSign_43 : decode cX12_sumSign 43 = .ok (.if_icmp .ne 8, 3) := by decide +kernel
theorem dX12_sumSign_46 : decode cX12_sumSign 46 = .ok (.bipush 6, 2) := by decide +kernel
theorem dX12_sumSign_48 : decode cX12_sumSign 48 = .ok (.goto 4, 3) := by decide +kernel
theorem dX12_sumSign_51 : decode cX12_sumSign 51 = .ok (.iconst (-1), 1) := by decide +kernel
theorem dX12_sumSign_52 : decode cX12_sumSign 52 = .ok (.ireturn, 1) := by decide +kernel
theorem dX12_closesSums_0 : decode cX12_closesSums 0 = .ok (.aload_n 0, 1) := by decide +kernel
theorem dX12_closesSums_1 : decode cX12_closesSums 1 = .ok (.invokevirtual 178, 3) := by decide +kernel
theorem dX12_closesSums_4 : decode cX12_closesSums 4 = .ok (.iconst 4, 1) := by decide +kernel
theorem dX12_closesSums_5 : decode cX12_closesSums 5 = .ok (.if_icmp .lt 12, 3) := by decide +kernel
theorem dX12_closesSums_8 : decode cX12_closesSums 8 = .ok (.aload_n 0, 1) := by decide +kernel
theorem dX12_closesSums_9 : decode cX12_closesSums 9 = .ok (.invokevirtual 178, 3) := by decide +kernel
theorem dX12_closesSums_12 : decode cX12_closesSums 12 = .ok (.bipush 6, 2) := by decide +kernel
theorem dX12_closesSums_14 : decode cX12_closesSums 14 = .ok (.if_icmp .le 23, 3) := by decide +kernel
theorem dX12_closesSums_17 : decode cX12_closesSums 17 = .ok (.iload_n 1, 1) := by decide +kernel
theorem dX12_closesSums_18 : decode cX12_closesSums 18 = .ok (.ifCond .eq 41, 3) := by decide +kernel
theorem dX12_closesSums_21 : decode cX12_closesSums 21 = .ok (.aload_n 0, 1) := by decide +kernel
theorem dX12_closesSums_22 : decode cX12_closesSums 22 = .ok (.invokevirtual 178, 3) := by decide +kernel
theorem dX12_closesSums_25 : decode cX12_closesSums 25 = .ok (.iconst 2, 1) := by decide +kernel
theorem dX12_closesSums_26 : decode cX12_closesSums 26 = .ok (.if_icmp .eq 11, 3) := by decide +kernel
theorem dX12_closesSums_29 : decode cX12_closesSums 29 = .ok (.aload_n 0, 1) := by decide +kernel
theorem dX12_closesSums_30 : decode cX12_closesSums 30 = .ok (.invokevirtual 178, 3) := by decide +kernel
theorem dX12_closesSums_33 : decode cX12_closesSums 33 = .ok (.iconst 3, 1) := by decide +kernel
theorem dX12_closesSums_34 : decode cX12_closesSums 34 = .ok (.if_icmp .ne 25, 3) := by decide +kernel
theorem dX12_closesSums_37 : decode cX12_closesSums 37 = .ok (.aload_n 0, 1) := by decide +kernel
theorem dX12_closesSums_38 : decode cX12_closesSums 38 = .ok (.aload_n 0, 1) := by decide +kernel
theorem dX12_closesSums_39 : decode cX12_closesSums 39 = .ok (.invokevirtual 178, 3) := by decide +kernel
theorem dX12_closesSums_42 : decode cX12_closesSums 42 = .ok (.iconst 0, 1) := by decide +kernel
theorem dX12_closesSums_43 : decode cX12_closesSums 43 = .ok (.invokevirtual 181, 3) := by decide +kernel
theorem dX12_closesSums_46 : decode cX12_closesSums 46 = .ok (.aload_n 0, 1) := by decide +kernel
theorem dX12_closesSums_47 : decode cX12_closesSums 47 = .ok (.aload_n 0, 1) := by decide +kernel
theorem dX12_closesSums_48 : decode cX12_closesSums 48 = .ok (.getfield 175, 3) := by decide +kernel
theorem dX12_closesSums_51 : decode cX12_closesSums 51 = .ok (.iconst 1, 1) := by decide +kernel
theorem dX12_closesSums_52 : decode cX12_closesSums 52 = .ok (.isub, 1) := by decide +kernel
theorem dX12_closesSums_53 : decode cX12_closesSums 53 = .ok (.putfield 175, 3) := by decide +kernel
theorem dX12_closesSums_56 : decode cX12_closesSums 56 = .ok (.goto (-56), 3) := by decide +kernel
theorem dX12_closesSums_59 : decode cX12_closesSums 59 = .ok (.return_, 1) := by decide +kernel
theorem dX12_waitTop_0 : decode cX12_waitTop 0 = .ok (.aload_n 0, 1) := by decide +kernel
theorem dX12_waitTop_1 : decode cX12_waitTop 1 = .ok (.getfield 175, 3) := by decide +kernel
theorem dX12_waitTop_4 : decode cX12_waitTop 4 = .ok (.ifCond .ne 7, 3) := by decide +kernel
theorem dX12_waitTop_7 : decode cX12_waitTop 7 = .ok (.iconst (-1), 1) := by decide +kernel
theorem dX12_waitTop_8 : decode cX12_waitTop 8 = .ok (.goto 17, 3) := by decide +kernel
theorem dX12_waitTop_11 : decode cX12_waitTop 11 = .ok (.aload_n 0, 1) := by decide +kernel
theorem dX12_waitTop_12 : decode cX12_waitTop 12 = .ok (.getfield 35, 3) := by decide +kernel
theorem dX12_waitTop_15 : decode cX12_waitTop 15 = .ok (.aload_n 0, 1) := by decide +kernel
theorem dX12_waitTop_16 : decode cX12_waitTop 16 = .ok (.getfield 175, 3) := by decide +kernel
theorem dX12_waitTop_19 : decode cX12_waitTop 19 = .ok (.iconst 1, 1) := by decide +kernel
theorem dX12_waitTop_20 : decode cX12_waitTop 20 = .ok (.isub, 1) := by decide +kernel
theorem dX12_waitTop_21 : decode cX12_waitTop 21 = .ok (.iaload, 1) := by decide +kernel
theorem dX12_waitTop_22 : decode cX12_waitTop 22 = .ok (.ldc 171, 2) := by decide +kernel
theorem dX12_waitTop_24 : decode cX12_waitTop 24 = .ok (.idiv, 1) := by decide +kernel
theorem dX12_waitTop_25 : decode cX12_waitTop 25 = .ok (.ireturn, 1) := by decide +kernel
theorem dX12_hasOpenSum_0 : decode cX12_hasOpenSum 0 = .ok (.iload_n 1, 1) := by decide +kernel
theorem dX12_hasOpenSum_1 : decode cX12_hasOpenSum 1 = .ok (.istore_n 2, 1) := by decide +kernel
theorem dX12_hasOpenSum_2 : decode cX12_hasOpenSum 2 = .ok (.iload_n 2, 1) := by decide +kernel
theorem dX12_hasOpenSum_3 : decode cX12_hasOpenSum 3 = .ok (.aload_n 0, 1) := by decide +kernel
theorem dX12_hasOpenSum_4 : decode cX12_hasOpenSum 4 = .ok (.getfield 175, 3) := by decide +kernel
theorem dX12_hasOpenSum_7 : decode cX12_hasOpenSum 7 = .ok (.if_icmp .ge 25, 3) := by decide +kernel
theorem dX12_hasOpenSum_10 : decode cX12_hasOpenSum 10 = .ok (.aload_n 0, 1) := by decide +kernel
theorem dX12_hasOpenSum_11 : decode cX12_hasOpenSum 11 = .ok (.getfield 35, 3) := by decide +kernel
theorem dX12_hasOpenSum_14 : decode cX12_hasOpenSum 14 = .ok (.iload_n 2, 1) := by decide +kernel
theorem dX12_hasOpenSum_15 : decode cX12_hasOpenSum 15 = .ok (.iaload, 1) := by decide +kernel
theorem dX12_hasOpenSum_16 : decode cX12_hasOpenSum 16 = .ok (.ldc 171, 2) := by decide +kernel
theorem dX12_hasOpenSum_18 : decode cX12_hasOpenSum 18 = .ok (.idiv, 1) := by decide +kernel
theorem dX12_hasOpenSum_19 : decode cX12_hasOpenSum 19 = .ok (.bipush 14, 2) := by decide +kernel
theorem dX12_hasOpenSum_21 : decode cX12_hasOpenSum 21 = .ok (.if_icmp .ne 5, 3) := by decide +kernel
theorem dX12_hasOpenSum_24 : decode cX12_hasOpenSum 24 = .ok (.iconst 1, 1) := by decide +kernel
theorem dX12_hasOpenSum_25 : decode cX12_hasOpenSum 25 = .ok (.ireturn, 1) := by decide +kernel
theorem dX12_hasOpenSum_26 : decode cX12_hasOpenSum 26 = .ok (.iinc 2 1, 3) := by decide +kernel
theorem dX12_hasOpenSum_29 : decode cX12_hasOpenSum 29 = .ok (.goto (-27), 3) := by decide +kernel
theorem dX12_hasOpenSum_32 : decode cX12_hasOpenSum 32 = .ok (.iconst 0, 1) := by decide +kernel
theorem dX12_hasOpenSum_33 : decode cX12_hasOpenSum 33 = .ok (.ireturn, 1) := by decide +kernel
theorem dX12_readsCondition_0 : decode cX12_readsCondition 0 = .ok (.aload_n 0, 1) := by decide +kernel
theorem dX12_readsCondition_1 : decode cX12_readsCondition 1 = .ok (.invokevirtual 151, 3) := by decide +kernel
theorem dX12_readsCondition_4 : decode cX12_readsCondition 4 = .ok (.bipush 40, 2) := by decide +kernel
theorem dX12_readsCondition_6 : decode cX12_readsCondition 6 = .ok (.if_icmp .eq 13, 3) := by decide +kernel
theorem dX12_readsCondition_9 : decode cX12_readsCondition 9 = .ok (.aload_n 0, 1) := by decide +kernel
theorem dX12_readsCondition_10 : decode cX12_readsCondition 10 = .ok (.iconst 1, 1) := by decide +kernel
theorem dX12_readsCondition_11 : decode cX12_readsCondition 11 = .ok (.aload_n 0, 1) := by decide +kernel
theorem dX12_readsCondition_12 : decode cX12_readsCondition 12 = .ok (.getfield 145, 3) := by decide +kernel
theorem dX12_readsCondition_15 : decode cX12_readsCondition 15 = .ok (.invokevirtual 158, 3) := by decide +kernel
theorem dX12_readsCondition_18 : decode cX12_readsCondition 18 = .ok (.ireturn, 1) := by decide +kernel
theorem dX12_readsCondition_19 : decode cX12_readsCondition 19 = .ok (.aload_n 0, 1) := by decide +kernel
theorem dX12_readsCondition_20 : decode cX12_readsCondition 20 = .ok (.iconst 0, 1) := by decide +kernel
theorem dX12_readsCondition_21 : decode cX12_readsCondition 21 = .ok (.putfield 172, 3) := by decide +kernel
theorem dX12_readsCondition_24 : decode cX12_readsCondition 24 = .ok (.aload_n 0, 1) := by decide +kernel
theorem dX12_readsCondition_25 : decode cX12_readsCondition 25 = .ok (.iconst 0, 1) := by decide +kernel
theorem dX12_readsCondition_26 : decode cX12_readsCondition 26 = .ok (.putfield 175, 3) := by decide +kernel
theorem dX12_readsCondition_29 : decode cX12_readsCondition 29 = .ok (.aload_n 0, 1) := by decide +kernel
theorem dX12_readsCondition_30 : decode cX12_readsCondition 30 = .ok (.bipush 13, 2) := by decide +kernel
theorem dX12_readsCondition_32 : decode cX12_readsCondition 32 = .ok (.invokevirtual 185, 3) := by decide +kernel
theorem dX12_readsCondition_35 : decode cX12_readsCondition 35 = .ok (.ifCond .ne 5, 3) := by decide +kernel
theorem dX12_readsCondition_38 : decode cX12_readsCondition 38 = .ok (.iconst 0, 1) := by decide +kernel
theorem dX12_readsCondition_39 : decode cX12_readsCondition 39 = .ok (.ireturn, 1) := by decide +kernel
theorem dX12_readsCondition_40 : decode cX12_readsCondition 40 = .ok (.aload_n 0, 1) := by decide +kernel
theorem dX12_readsCondition_41 : decode cX12_readsCondition 41 = .ok (.invokevirtual 151, 3) := by decide +kernel
theorem dX12_readsCondition_44 : decode cX12_readsCondition 44 = .ok (.bipush 33, 2) := by decide +kernel
theorem dX12_readsCondition_46 : decode cX12_readsCondition 46 = .ok (.if_icmp .eq 12, 3) := by decide +kernel
theorem dX12_readsCondition_49 : decode cX12_readsCondition 49 = .ok (.aload_n 0, 1) := by decide +kernel
theorem dX12_readsCondition_50 : decode cX12_readsCondition 50 = .ok (.invokevirtual 151, 3) := by decide +kernel
theorem dX12_readsCondition_53 : decode cX12_readsCondition 53 = .ok (.bipush 40, 2) := by decide +kernel
theorem dX12_readsCondition_55 : decode cX12_readsCondition 55 = .ok (.if_icmp .ne 28, 3) := by decide +kernel
theorem dX12_readsCondition_58 : decode cX12_readsCondition 58 = .ok (.aload_n 0, 1) := by decide +kernel
theorem dX12_readsCondition_59 : decode cX12_readsCondition 59 = .ok (.aload_n 0, 1) := by decide +kernel
theorem dX12_readsCondition_60 : decode cX12_readsCondition 60 = .ok (.invokevirtual 151, 3) := by decide +kernel
theorem dX12_readsCondition_63 : decode cX12_readsCondition 63 = .ok (.bipush 33, 2) := by decide +kernel
theorem dX12_readsCondition_65 : decode cX12_readsCondition 65 = .ok (.if_icmp .ne 8, 3) := by decide +kernel
theorem dX12_readsCondition_68 : decode cX12_readsCondition 68 = .ok (.bipush 10, 2) := by decide +kernel
theorem dX12_readsCondition_70 : decode cX12_readsCondition 70 = .ok (.goto 5, 3) := by decide +kernel
theorem dX12_readsCondition_73 : decode cX12_readsCondition 73 = .ok (.bipush 13, 2) := by decide +kernel
theorem dX12_readsCondition_75 : decode cX12_readsCondition 75 = .ok (.invokevirtual 185, 3) := by decide +kernel
theorem dX12_readsCondition_78 : decode cX12_readsCondition 78 = .ok (.ifCond .ne (-38), 3) := by decide +kernel
theorem dX12_readsCondition_81 : decode cX12_readsCondition 81 = .ok (.iconst 0, 1) := by decide +kernel
theorem dX12_readsCondition_82 : decode cX12_readsCondition 82 = .ok (.ireturn, 1) := by decide +kernel
theorem dX12_readsCondition_83 : decode cX12_readsCondition 83 = .ok (.aload_n 0, 1) := by decide +kernel
theorem dX12_readsCondition_84 : decode cX12_readsCondition 84 = .ok (.invokevirtual 214, 3) := by decide +kernel
theorem dX12_readsCondition_87 : decode cX12_readsCondition 87 = .ok (.ifCond .ne 5, 3) := by decide +kernel
theorem dX12_readsCondition_90 : decode cX12_readsCondition 90 = .ok (.iconst 0, 1) := by decide +kernel
theorem dX12_readsCondition_91 : decode cX12_readsCondition 91 = .ok (.ireturn, 1) := by decide +kernel
theorem dX12_readsCondition_92 : decode cX12_readsCondition 92 = .ok (.aload_n 0, 1) := by decide +kernel
theorem dX12_readsCondition_93 : decode cX12_readsCondition 93 = .ok (.invokevirtual 151, 3) := by decide +kernel
theorem dX12_readsCondition_96 : decode cX12_readsCondition 96 = .ok (.bipush 41, 2) := by decide +kernel
theorem dX12_readsCondition_98 : decode cX12_readsCondition 98 = .ok (.if_icmp .ne 54, 3) := by decide +kernel
theorem dX12_readsCondition_101 : decode cX12_readsCondition 101 = .ok (.aload_n 0, 1) := by decide +kernel
theorem dX12_readsCondition_102 : decode cX12_readsCondition 102 = .ok (.iconst 1, 1) := by decide +kernel
theorem dX12_readsCondition_103 : decode cX12_readsCondition 103 = .ok (.invokevirtual 217, 3) := by decide +kernel
theorem dX12_readsCondition_106 : decode cX12_readsCondition 106 = .ok (.aload_n 0, 1) := by decide +kernel
theorem dX12_readsCondition_107 : decode cX12_readsCondition 107 = .ok (.aload_n 0, 1) := by decide +kernel
theorem dX12_readsCondition_108 : decode cX12_readsCondition 108 = .ok (.getfield 175, 3) := by decide +kernel
theorem dX12_readsCondition_111 : decode cX12_readsCondition 111 = .ok (.iconst 1, 1) := by decide +kernel
theorem dX12_readsCondition_112 : decode cX12_readsCondition 112 = .ok (.isub, 1) := by decide +kernel
theorem dX12_readsCondition_113 : decode cX12_readsCondition 113 = .ok (.putfield 175, 3) := by decide +kernel
theorem dX12_readsCondition_116 : decode cX12_readsCondition 116 = .ok (.aload_n 0, 1) := by decide +kernel
theorem dX12_readsCondition_117 : decode cX12_readsCondition 117 = .ok (.aload_n 0, 1) := by decide +kernel
theorem dX12_readsCondition_118 : decode cX12_readsCondition 118 = .ok (.getfield 172, 3) := by decide +kernel
theorem dX12_readsCondition_121 : decode cX12_readsCondition 121 = .ok (.iconst 1, 1) := by decide +kernel
theorem dX12_readsCondition_122 : decode cX12_readsCondition 122 = .ok (.isub, 1) := by decide +kernel
theorem dX12_readsCondition_123 : decode cX12_readsCondition 123 = .ok (.putfield 172, 3) := by decide +kernel
theorem dX12_readsCondition_126 : decode cX12_readsCondition 126 = .ok (.aload_n 0, 1) := by decide +kernel
theorem dX12_readsCondition_127 : decode cX12_readsCondition 127 = .ok (.aload_n 0, 1) := by decide +kernel
theorem dX12_readsCondition_128 : decode cX12_readsCondition 128 = .ok (.getfield 145, 3) := by decide +kernel
theorem dX12_readsCondition_131 : decode cX12_readsCondition 131 = .ok (.iconst 1, 1) := by decide +kernel
theorem dX12_readsCondition_132 : decode cX12_readsCondition 132 = .ok (.iadd, 1) := by decide +kernel
theorem dX12_readsCondition_133 : decode cX12_readsCondition 133 = .ok (.putfield 145, 3) := by decide +kernel
theorem dX12_readsCondition_136 : decode cX12_readsCondition 136 = .ok (.aload_n 0, 1) := by decide +kernel
theorem dX12_readsCondition_137 : decode cX12_readsCondition 137 = .ok (.getfield 175, 3) := by decide +kernel
theorem dX12_readsCondition_140 : decode cX12_readsCondition 140 = .ok (.ifCond .ne 5, 3) := by decide +kernel
theorem dX12_readsCondition_143 : decode cX12_readsCondition 143 = .ok (.iconst 1, 1) := by decide +kernel
theorem dX12_readsCondition_144 : decode cX12_readsCondition 144 = .ok (.ireturn, 1) := by decide +kernel
theorem dX12_readsCondition_145 : decode cX12_readsCondition 145 = .ok (.aload_n 0, 1) := by decide +kernel
theorem dX12_readsCondition_146 : decode cX12_readsCondition 146 = .ok (.invokevirtual 211, 3) := by decide +kernel
theorem dX12_readsCondition_149 : decode cX12_readsCondition 149 = .ok (.goto (-57), 3) := by decide +kernel
theorem dX12_readsCondition_152 : decode cX12_readsCondition 152 = .ok (.aload_n 0, 1) := by decide +kernel
theorem dX12_readsCondition_153 : decode cX12_readsCondition 153 = .ok (.invokevirtual 151, 3) := by decide +kernel
theorem dX12_readsCondition_156 : decode cX12_readsCondition 156 = .ok (.bipush 38, 2) := by decide +kernel
theorem dX12_readsCondition_158 : decode cX12_readsCondition 158 = .ok (.if_icmp .eq 22, 3) := by decide +kernel
theorem dX12_readsCondition_161 : decode cX12_readsCondition 161 = .ok (.aload_n 0, 1) := by decide +kernel
theorem dX12_readsCondition_162 : decode cX12_readsCondition 162 = .ok (.invokevirtual 151, 3) := by decide +kernel
theorem dX12_readsCondition_165 : decode cX12_readsCondition 165 = .ok (.bipush 124, 2) := by decide +kernel
theorem dX12_readsCondition_167 : decode cX12_readsCondition 167 = .ok (.if_icmp .eq 13, 3) := by decide +kernel
theorem dX12_readsCondition_170 : decode cX12_readsCondition 170 = .ok (.aload_n 0, 1) := by decide +kernel
theorem dX12_readsCondition_171 : decode cX12_readsCondition 171 = .ok (.iconst 1, 1) := by decide +kernel
theorem dX12_readsCondition_172 : decode cX12_readsCondition 172 = .ok (.aload_n 0, 1) := by decide +kernel
theorem dX12_readsCondition_173 : decode cX12_readsCondition 173 = .ok (.getfield 145, 3) := by decide +kernel
theorem dX12_readsCondition_176 : decode cX12_readsCondition 176 = .ok (.invokevirtual 158, 3) := by decide +kernel
theorem dX12_readsCondition_179 : decode cX12_readsCondition 179 = .ok (.ireturn, 1) := by decide +kernel
theorem dX12_readsCondition_180 : decode cX12_readsCondition 180 = .ok (.aload_n 0, 1) := by decide +kernel
theorem dX12_readsCondition_181 : decode cX12_readsCondition 181 = .ok (.aload_n 0, 1) := by decide +kernel
theorem dX12_readsCondition_182 : decode cX12_readsCondition 182 = .ok (.invokevirtual 151, 3) := by decide +kernel
theorem dX12_readsCondition_185 : decode cX12_readsCondition 185 = .ok (.bipush 124, 2) := by decide +kernel
theorem dX12_readsCondition_187 : decode cX12_readsCondition 187 = .ok (.if_icmp .ne 7, 3) := by decide +kernel
theorem dX12_readsCondition_190 : decode cX12_readsCondition 190 = .ok (.iconst 1, 1) := by decide +kernel
theorem dX12_readsCondition_191 : decode cX12_readsCondition 191 = .ok (.goto 4, 3) := by decide +kernel
theorem dX12_readsCondition_194 : decode cX12_readsCondition 194 = .ok (.iconst 0, 1) := by decide +kernel
theorem dX12_readsCondition_195 : decode cX12_readsCondition 195 = .ok (.invokevirtual 217, 3) := by decide +kernel
theorem dX12_readsCondition_198 : decode cX12_readsCondition 198 = .ok (.aload_n 0, 1) := by decide +kernel
theorem dX12_readsCondition_199 : decode cX12_readsCondition 199 = .ok (.aload_n 0, 1) := by decide +kernel
theorem dX12_readsCondition_200 : decode cX12_readsCondition 200 = .ok (.invokevirtual 151, 3) := by decide +kernel
theorem dX12_readsCondition_203 : decode cX12_readsCondition 203 = .ok (.bipush 38, 2) := by decide +kernel
theorem dX12_readsCondition_205 : decode cX12_readsCondition 205 = .ok (.if_icmp .ne 8, 3) := by decide +kernel
theorem dX12_readsCondition_208 : decode cX12_readsCondition 208 = .ok (.bipush 11, 2) := by decide +kernel
theorem dX12_readsCondition_210 : decode cX12_readsCondition 210 = .ok (.goto 5, 3) := by decide +kernel
theorem dX12_readsCondition_213 : decode cX12_readsCondition 213 = .ok (.bipush 12, 2) := by decide +kernel
theorem dX12_readsCondition_215 : decode cX12_readsCondition 215 = .ok (.invokevirtual 220, 3) := by decide +kernel
theorem dX12_readsCondition_218 : decode cX12_readsCondition 218 = .ok (.goto (-178), 3) := by decide +kernel
theorem dX12_readsCompared_0 : decode cX12_readsCompared 0 = .ok (.aload_n 0, 1) := by decide +kernel
theorem dX12_readsCompared_1 : decode cX12_readsCompared 1 = .ok (.invokevirtual 208, 3) := by decide +kernel
theorem dX12_readsCompared_4 : decode cX12_readsCompared 4 = .ok (.ifCond .ne 5, 3) := by decide +kernel
theorem dX12_readsCompared_7 : decode cX12_readsCompared 7 = .ok (.iconst 0, 1) := by decide +kernel
theorem dX12_readsCompared_8 : decode cX12_readsCompared 8 = .ok (.ireturn, 1) := by decide +kernel
theorem dX12_readsCompared_9 : decode cX12_readsCompared 9 = .ok (.aload_n 0, 1) := by decide +kernel
theorem dX12_readsCompared_10 : decode cX12_readsCompared 10 = .ok (.invokevirtual 151, 3) := by decide +kernel
theorem dX12_readsCompared_13 : decode cX12_readsCompared 13 = .ok (.bipush 60, 2) := by decide +kernel
theorem dX12_readsCompared_15 : decode cX12_readsCompared 15 = .ok (.if_icmp .ne 8, 3) := by decide +kernel
theorem dX12_readsCompared_18 : decode cX12_readsCompared 18 = .ok (.bipush 7, 2) := by decide +kernel
theorem dX12_readsCompared_20 : decode cX12_readsCompared 20 = .ok (.goto 32, 3) := by decide +kernel
theorem dX12_readsCompared_23 : decode cX12_readsCompared 23 = .ok (.aload_n 0, 1) := by decide +kernel
theorem dX12_readsCompared_24 : decode cX12_readsCompared 24 = .ok (.invokevirtual 151, 3) := by decide +kernel
theorem dX12_readsCompared_27 : decode cX12_readsCompared 27 = .ok (.bipush 62, 2) := by decide +kernel
theorem dX12_readsCompared_29 : decode cX12_readsCompared 29 = .ok (.if_icmp .ne 8, 3) := by decide +kernel
theorem dX12_readsCompared_32 : decode cX12_readsCompared 32 = .ok (.bipush 8, 2) := by decide +kernel
theorem dX12_readsCompared_34 : decode cX12_readsCompared 34 = .ok (.goto 18, 3) := by decide +kernel
theorem dX12_readsCompared_37 : decode cX12_readsCompared 37 = .ok (.aload_n 0, 1) := by decide +kernel
theorem dX12_readsCompared_38 : decode cX12_readsCompared 38 = .ok (.invokevirtual 151, 3) := by decide +kernel
theorem dX12_readsCompared_41 : decode cX12_readsCompared 41 = .ok (.bipush 61, 2) := by decide +kernel
theorem dX12_readsCompared_43 : decode cX12_readsCompared 43 = .ok (.if_icmp .ne 8, 3) := by decide +kernel
theorem dX12_readsCompared_46 : decode cX12_readsCompared 46 = .ok (.bipush 9, 2) := by decide +kernel
theorem dX12_readsCompared_48 : decode cX12_readsCompared 48 = .ok (.goto 4, 3) := by decide +kernel
theorem dX12_readsCompared_51 : decode cX12_readsCompared 51 = .ok (.iconst (-1), 1) := by decide +kernel
