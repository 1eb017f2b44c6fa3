theorem dX8_tell_37 : decode cX8_tell 37 = .ok (.return_, 1) := by decide +kernel
theorem dX11_census_0 : decode cX11_census 0 = .ok (.aload_n 0, 1) := by decide +kernel
theorem dX11_census_1 : decode cX11_census 1 = .ok (.iload_n 1, 1) := by decide +kernel
theorem dX11_census_2 : decode cX11_census 2 = .ok (.bipush 60, 2) := by decide +kernel
theorem dX11_census_4 : decode cX11_census 4 = .ok (.invokevirtual 108, 3) := by decide +kernel
theorem dX11_census_7 : decode cX11_census 7 = .ok (.ifCond .eq 13, 3) := by decide +kernel
theorem dX11_census_10 : decode cX11_census 10 = .ok (.aload_n 0, 1) := by decide +kernel
theorem dX11_census_11 : decode cX11_census 11 = .ok (.getfield 42, 3) := by decide +kernel
theorem dX11_census_14 : decode cX11_census 14 = .ok (.invokevirtual 144, 3) := by decide +kernel
theorem dX11_census_17 : decode cX11_census 17 = .ok (.ifCond .ne 5, 3) := by decide +kernel
theorem dX11_census_20 : decode cX11_census 20 = .ok (.iconst (-1), 1) := by decide +kernel
theorem dX11_census_21 : decode cX11_census 21 = .ok (.ireturn, 1) := by decide +kernel
theorem dX11_census_22 : decode cX11_census 22 = .ok (.aload_n 0, 1) := by decide +kernel
theorem dX11_census_23 : decode cX11_census 23 = .ok (.iload_n 1, 1) := by decide +kernel
theorem dX11_census_24 : decode cX11_census 24 = .ok (.invokevirtual 148, 3) := by decide +kernel
theorem dX11_census_27 : decode cX11_census 27 = .ok (.istore_n 2, 1) := by decide +kernel
theorem dX11_census_28 : decode cX11_census 28 = .ok (.iload_n 2, 1) := by decide +kernel
theorem dX11_census_29 : decode cX11_census 29 = .ok (.ifCond .eq 5, 3) := by decide +kernel
theorem dX11_census_32 : decode cX11_census 32 = .ok (.iload_n 2, 1) := by decide +kernel
theorem dX11_census_33 : decode cX11_census 33 = .ok (.ireturn, 1) := by decide +kernel
theorem dX11_census_34 : decode cX11_census 34 = .ok (.iconst 0, 1) := by decide +kernel
theorem dX11_census_35 : decode cX11_census 35 = .ok (.istore_n 3, 1) := by decide +kernel
theorem dX11_census_36 : decode cX11_census 36 = .ok (.iload_n 3, 1) := by decide +kernel
theorem dX11_census_37 : decode cX11_census 37 = .ok (.aload_n 0, 1) := by decide +kernel
theorem dX11_census_38 : decode cX11_census 38 = .ok (.getfield 62, 3) := by decide +kernel
theorem dX11_census_41 : decode cX11_census 41 = .ok (.getfield 152, 3) := by decide +kernel
theorem dX11_census_44 : decode cX11_census 44 = .ok (.if_icmp .ge 28, 3) := by decide +kernel
theorem dX11_census_47 : decode cX11_census 47 = .ok (.aload_n 0, 1) := by decide +kernel
theorem dX11_census_48 : decode cX11_census 48 = .ok (.getfield 29, 3) := by decide +kernel
theorem dX11_census_51 : decode cX11_census 51 = .ok (.aload_n 0, 1) := by decide +kernel
theorem dX11_census_52 : decode cX11_census 52 = .ok (.getfield 42, 3) := by decide +kernel
theorem dX11_census_55 : decode cX11_census 55 = .ok (.aload_n 0, 1) := by decide +kernel
theorem dX11_census_56 : decode cX11_census 56 = .ok (.getfield 62, 3) := by decide +kernel
theorem dX11_census_59 : decode cX11_census 59 = .ok (.iload_n 3, 1) := by decide +kernel
theorem dX11_census_60 : decode cX11_census 60 = .ok (.invokevirtual 155, 3) := by decide +kernel
theorem dX11_census_63 : decode cX11_census 63 = .ok (.invokevirtual 158, 3) := by decide +kernel
theorem dX11_census_66 : decode cX11_census 66 = .ok (.iinc 3 1, 3) := by decide +kernel
theorem dX11_census_69 : decode cX11_census 69 = .ok (.goto (-33), 3) := by decide +kernel
theorem dX11_census_72 : decode cX11_census 72 = .ok (.aload_n 0, 1) := by decide +kernel
theorem dX11_census_73 : decode cX11_census 73 = .ok (.getfield 29, 3) := by decide +kernel
theorem dX11_census_76 : decode cX11_census 76 = .ok (.getfield 135, 3) := by decide +kernel
theorem dX11_census_79 : decode cX11_census 79 = .ok (.ireturn, 1) := by decide +kernel
theorem dX8_isTold_0 : decode cX8_isTold 0 = .ok (.aload_n 0, 1) := by decide +kernel
theorem dX8_isTold_1 : decode cX8_isTold 1 = .ok (.getfield 18, 3) := by decide +kernel
theorem dX8_isTold_4 : decode cX8_isTold 4 = .ok (.ifCond .le 7, 3) := by decide +kernel
theorem dX8_isTold_7 : decode cX8_isTold 7 = .ok (.iconst 1, 1) := by decide +kernel
theorem dX8_isTold_8 : decode cX8_isTold 8 = .ok (.goto 4, 3) := by decide +kernel
theorem dX8_isTold_11 : decode cX8_isTold 11 = .ok (.iconst 0, 1) := by decide +kernel
theorem dX8_isTold_12 : decode cX8_isTold 12 = .ok (.ireturn, 1) := by decide +kernel
theorem dX11_readRow_0 : decode cX11_readRow 0 = .ok (.aload_n 0, 1) := by decide +kernel
theorem dX11_readRow_1 : decode cX11_readRow 1 = .ok (.getfield 12, 3) := by decide +kernel
theorem dX11_readRow_4 : decode cX11_readRow 4 = .ok (.iload_n 1, 1) := by decide +kernel
theorem dX11_readRow_5 : decode cX11_readRow 5 = .ok (.invokevirtual 112, 3) := by decide +kernel
theorem dX11_readRow_8 : decode cX11_readRow 8 = .ok (.aload_n 0, 1) := by decide +kernel
theorem dX11_readRow_9 : decode cX11_readRow 9 = .ok (.getfield 12, 3) := by decide +kernel
theorem dX11_readRow_12 : decode cX11_readRow 12 = .ok (.aload_n 0, 1) := by decide +kernel
theorem dX11_readRow_13 : decode cX11_readRow 13 = .ok (.getfield 62, 3) := by decide +kernel
theorem dX11_readRow_16 : decode cX11_readRow 16 = .ok (.invokestatic 295, 3) := by decide +kernel
theorem dX11_readRow_19 : decode cX11_readRow 19 = .ok (.pop, 1) := by decide +kernel
theorem dX11_readRow_20 : decode cX11_readRow 20 = .ok (.aload_n 0, 1) := by decide +kernel
theorem dX11_readRow_21 : decode cX11_readRow 21 = .ok (.getfield 12, 3) := by decide +kernel
theorem dX11_readRow_24 : decode cX11_readRow 24 = .ok (.invokevirtual 121, 3) := by decide +kernel
theorem dX11_readRow_27 : decode cX11_readRow 27 = .ok (.aload_n 0, 1) := by decide +kernel
theorem dX11_readRow_28 : decode cX11_readRow 28 = .ok (.getfield 12, 3) := by decide +kernel
theorem dX11_readRow_31 : decode cX11_readRow 31 = .ok (.getfield 124, 3) := by decide +kernel
theorem dX11_readRow_34 : decode cX11_readRow 34 = .ok (.ireturn, 1) := by decide +kernel
theorem dX0_read_0 : decode cX0_read 0 = .ok (.aload_n 1, 1) := by decide +kernel
theorem dX0_read_1 : decode cX0_read 1 = .ok (.iconst 0, 1) := by decide +kernel
theorem dX0_read_2 : decode cX0_read 2 = .ok (.putfield 9, 3) := by decide +kernel
theorem dX0_read_5 : decode cX0_read 5 = .ok (.aload_n 0, 1) := by decide +kernel
theorem dX0_read_6 : decode cX0_read 6 = .ok (.aload_n 1, 1) := by decide +kernel
theorem dX0_read_7 : decode cX0_read 7 = .ok (.iconst 0, 1) := by decide +kernel
theorem dX0_read_8 : decode cX0_read 8 = .ok (.invokestatic 15, 3) := by decide +kernel
theorem dX0_read_11 : decode cX0_read 11 = .ok (.ireturn, 1) := by decide +kernel
theorem dX0_readQuestions_0 : decode cX0_readQuestions 0 = .ok (.iconst 0, 1) := by decide +kernel
theorem dX0_readQuestions_1 : decode cX0_readQuestions 1 = .ok (.istore_n 3, 1) := by decide +kernel
theorem dX0_readQuestions_2 : decode cX0_readQuestions 2 = .ok (.iload_n 3, 1) := by decide +kernel
theorem dX0_readQuestions_3 : decode cX0_readQuestions 3 = .ok (.bipush 60, 2) := by decide +kernel
theorem dX0_readQuestions_5 : decode cX0_readQuestions 5 = .ok (.if_icmp .gt 43, 3) := by decide +kernel
theorem dX0_readQuestions_8 : decode cX0_readQuestions 8 = .ok (.aload_n 0, 1) := by decide +kernel
theorem dX0_readQuestions_9 : decode cX0_readQuestions 9 = .ok (.aload_n 1, 1) := by decide +kernel
theorem dX0_readQuestions_10 : decode cX0_readQuestions 10 = .ok (.iload_n 2, 1) := by decide +kernel
theorem dX0_readQuestions_11 : decode cX0_readQuestions 11 = .ok (.invokestatic 21, 3) := by decide +kernel
theorem dX0_readQuestions_14 : decode cX0_readQuestions 14 = .ok (.ifCond .ne 5, 3) := by decide +kernel
theorem dX0_readQuestions_17 : decode cX0_readQuestions 17 = .ok (.iconst 0, 1) := by decide +kernel
theorem dX0_readQuestions_18 : decode cX0_readQuestions 18 = .ok (.ireturn, 1) := by decide +kernel
theorem dX0_readQuestions_19 : decode cX0_readQuestions 19 = .ok (.aload_n 0, 1) := by decide +kernel
theorem dX0_readQuestions_20 : decode cX0_readQuestions 20 = .ok (.getfield 24, 3) := by decide +kernel
theorem dX0_readQuestions_23 : decode cX0_readQuestions 23 = .ok (.iconst (-1), 1) := by decide +kernel
theorem dX0_readQuestions_24 : decode cX0_readQuestions 24 = .ok (.if_icmp .eq 16, 3) := by decide +kernel
theorem dX0_readQuestions_27 : decode cX0_readQuestions 27 = .ok (.iload_n 2, 1) := by decide +kernel
theorem dX0_readQuestions_28 : decode cX0_readQuestions 28 = .ok (.ifCond .le 14, 3) := by decide +kernel
theorem dX0_readQuestions_31 : decode cX0_readQuestions 31 = .ok (.aload_n 0, 1) := by decide +kernel
theorem dX0_readQuestions_32 : decode cX0_readQuestions 32 = .ok (.getfield 24, 3) := by decide +kernel
theorem dX0_readQuestions_35 : decode cX0_readQuestions 35 = .ok (.bipush 41, 2) := by decide +kernel
theorem dX0_readQuestions_37 : decode cX0_readQuestions 37 = .ok (.if_icmp .ne 5, 3) := by decide +kernel
theorem dX0_readQuestions_40 : decode cX0_readQuestions 40 = .ok (.iconst 1, 1) := by decide +kernel
theorem dX0_readQuestions_41 : decode cX0_readQuestions 41 = .ok (.ireturn, 1) := by decide +kernel
theorem dX0_readQuestions_42 : decode cX0_readQuestions 42 = .ok (.iinc 3 1, 3) := by decide +kernel
theorem dX0_readQuestions_45 : decode cX0_readQuestions 45 = .ok (.goto (-43), 3) := by decide +kernel
theorem dX0_readQuestions_48 : decode cX0_readQuestions 48 = .ok (.aload_n 0, 1) := by decide +kernel
theorem dX0_readQuestions_49 : decode cX0_readQuestions 49 = .ok (.iconst 1, 1) := by decide +kernel
theorem dX0_readQuestions_50 : decode cX0_readQuestions 50 = .ok (.aload_n 0, 1) := by decide +kernel
theorem dX0_readQuestions_51 : decode cX0_readQuestions 51 = .ok (.getfield 29, 3) := by decide +kernel
theorem dX0_readQuestions_54 : decode cX0_readQuestions 54 = .ok (.invokevirtual 32, 3) := by decide +kernel
theorem dX0_readQuestions_57 : decode cX0_readQuestions 57 = .ok (.ireturn, 1) := by decide +kernel
theorem dX0_readItem_0 : decode cX0_readItem 0 = .ok (.aload_n 0, 1) := by decide +kernel
theorem dX0_readItem_1 : decode cX0_readItem 1 = .ok (.getfield 29, 3) := by decide +kernel
theorem dX0_readItem_4 : decode cX0_readItem 4 = .ok (.istore_n 3, 1) := by decide +kernel
theorem dX0_readItem_5 : decode cX0_readItem 5 = .ok (.aload_n 1, 1) := by decide +kernel
theorem dX0_readItem_6 : decode cX0_readItem 6 = .ok (.getfield 9, 3) := by decide +kernel
theorem dX0_readItem_9 : decode cX0_readItem 9 = .ok (.istore 4, 2) := by decide +kernel
theorem dX0_readItem_11 : decode cX0_readItem 11 = .ok (.iconst 1, 1) := by decide +kernel
theorem dX0_readItem_12 : decode cX0_readItem 12 = .ok (.istore 5, 2) := by decide +kernel
theorem dX0_readItem_14 : decode cX0_readItem 14 = .ok (.aload_n 0, 1) := by decide +kernel
theorem dX0_readItem_15 : decode cX0_readItem 15 = .ok (.getfield 24, 3) := by decide +kernel
theorem dX0_readItem_18 : decode cX0_readItem 18 = .ok (.bipush 50, 2) := by decide +kernel
theorem dX0_readItem_20 : decode cX0_readItem 20 = .ok (.if_icmp .lt 25, 3) := by decide +kernel
theorem dX0_readItem_23 : decode cX0_readItem 23 = .ok (.aload_n 0, 1) := by decide +kernel
theorem dX0_readItem_24 : decode cX0_readItem 24 = .ok (.getfield 24, 3) := by decide +kernel
theorem dX0_readItem_27 : decode cX0_readItem 27 = .ok (.bipush 57, 2) := by decide +kernel
theorem dX0_readItem_29 : decode cX0_readItem 29 = .ok (.if_icmp .gt 16, 3) := by decide +kernel
theorem dX0_readItem_32 : decode cX0_readItem 32 = .ok (.aload_n 0, 1) := by decide +kernel
theorem dX0_readItem_33 : decode cX0_readItem 33 = .ok (.getfield 24, 3) := by decide +kernel
theorem dX0_readItem_36 : decode cX0_readItem 36 = .ok (.bipush 48, 2) := by decide +kernel
theorem dX0_readItem_38 : decode cX0_readItem 38 = .ok (.isub, 1) := by decide +kernel
theorem dX0_readItem_39 : decode cX0_readItem 39 = .ok (.istore 5, 2) := by decide +kernel
theorem dX0_readItem_41 : decode cX0_readItem 41 = .ok (.aload_n 0, 1) := by decide +kernel
theorem dX0_readItem_42 : decode cX0_readItem 42 = .ok (.invokevirtual 36, 3) := by decide +kernel
theorem dX0_readItem_45 : decode cX0_readItem 45 = .ok (.aload_n 0, 1) := by decide +kernel
theorem dX0_readItem_46 : decode cX0_readItem 46 = .ok (.getfield 24, 3) := by decide +kernel
theorem dX0_readItem_49 : decode cX0_readItem 49 = .ok (.bipush 97, 2) := by decide +kernel
theorem dX0_readItem_51 : decode cX0_readItem 51 = .ok (.isub, 1) := by decide +kernel
theorem dX0_readItem_52 : decode cX0_readItem 52 = .ok (.istore 6, 2) := by decide +kernel
theorem dX0_readItem_54 : decode cX0_readItem 54 = .ok (.iload 6, 2) := by decide +kernel
theorem dX0_readItem_56 : decode cX0_readItem 56 = .ok (.invokestatic 39, 3) := by decide +kernel
theorem dX0_readItem_59 : decode cX0_readItem 59 = .ok (.ifCond .eq 16, 3) := by decide +kernel
theorem dX0_readItem_62 : decode cX0_readItem 62 = .ok (.aload_n 0, 1) := by decide +kernel
theorem dX0_readItem_63 : decode cX0_readItem 63 = .ok (.invokevirtual 36, 3) := by decide +kernel
theorem dX0_readItem_66 : decode cX0_readItem 66 = .ok (.aload_n 1, 1) := by decide +kernel
theorem dX0_readItem_67 : decode cX0_readItem 67 = .ok (.iload 6, 2) := by decide +kernel
theorem dX0_readItem_69 : decode cX0_readItem 69 = .ok (.invokevirtual 43, 3) := by decide +kernel
theorem dX0_readItem_72 : decode cX0_readItem 72 = .ok (.goto 63, 3) := by decide +kernel
theorem dX0_readItem_75 : decode cX0_readItem 75 = .ok (.aload_n 0, 1) := by decide +kernel
theorem dX0_readItem_76 : decode cX0_readItem 76 = .ok (.getfield 24, 3) := by decide +kernel
theorem dX0_readItem_79 : decode cX0_readItem 79 = .ok (.bipush 40, 2) := by decide +kernel
theorem dX0_readItem_81 : decode cX0_readItem 81 = .ok (.if_icmp .ne 44, 3) := by decide +kernel
theorem dX0_readItem_84 : decode cX0_readItem 84 = .ok (.iload_n 2, 1) := by decide +kernel
theorem dX0_readItem_85 : decode cX0_readItem 85 = .ok (.iconst 2, 1) := by decide +kernel
theorem dX0_readItem_86 : decode cX0_readItem 86 = .ok (.if_icmp .lt 13, 3) := by decide +kernel
theorem dX0_readItem_89 : decode cX0_readItem 89 = .ok (.aload_n 0, 1) := by decide +kernel
theorem dX0_readItem_90 : decode cX0_readItem 90 = .ok (.iconst 5, 1) := by decide +kernel
theorem dX0_readItem_91 : decode cX0_readItem 91 = .ok (.aload_n 0, 1) := by decide +kernel
theorem dX0_readItem_92 : decode cX0_readItem 92 = .ok (.getfield 29, 3) := by decide +kernel
theorem dX0_readItem_95 : decode cX0_readItem 95 = .ok (.invokevirtual 32, 3) := by decide +kernel
theorem dX0_readItem_98 : decode cX0_readItem 98 = .ok (.ireturn, 1) := by decide +kernel
theorem dX0_readItem_99 : decode cX0_readItem 99 = .ok (.aload_n 0, 1) := by decide +kernel
theorem dX0_readItem_100 : decode cX0_readItem 100 = .ok (.invokevirtual 36, 3) := by decide +kernel
theorem dX0_readItem_103 : decode cX0_readItem 103 = .ok (.aload_n 0, 1) := by decide +kernel
theorem dX0_readItem_104 : decode cX0_readItem 104 = .ok (.aload_n 1, 1) := by decide +kernel
theorem dX0_readItem_105 : decode cX0_readItem 105 = .ok (.iload_n 2, 1) := by decide +kernel
theorem dX0_readItem_106 : decode cX0_readItem 106 = .ok (.iconst 1, 1) := by decide +kernel
theorem dX0_readItem_107 : decode cX0_readItem 107 = .ok (.iadd, 1) := by decide +kernel
theorem dX0_readItem_108 : decode cX0_readItem 108 = .ok (.invokestatic 15, 3) := by decide +kernel
theorem dX0_readItem_111 : decode cX0_readItem 111 = .ok (.ifCond .eq 12, 3) := by decide +kernel
theorem dX0_readItem_114 : decode cX0_readItem 114 = .ok (.aload_n 0, 1) := by decide +kernel
theorem dX0_readItem_115 : decode cX0_readItem 115 = .ok (.bipush 41, 2) := by decide +kernel
theorem dX0_readItem_117 : decode cX0_readItem 117 = .ok (.invokevirtual 47, 3) := by decide +kernel
theorem dX0_readItem_120 : decode cX0_readItem 120 = .ok (.ifCond .ne 15, 3) := by decide +kernel
theorem dX0_readItem_123 : decode cX0_readItem 123 = .ok (.iconst 0, 1) := by decide +kernel
theorem dX0_readItem_124 : decode cX0_readItem 124 = .ok (.ireturn, 1) := by decide +kernel
theorem dX0_readItem_125 : decode cX0_readItem 125 = .ok (.aload_n 0, 1) := by decide +kernel
theorem dX0_readItem_126 : decode cX0_readItem 126 = .ok (.iconst 1, 1) := by decide +kernel
theorem dX0_readItem_127 : decode cX0_readItem 127 = .ok (.aload_n 0, 1) := by decide +kernel
theorem dX0_readItem_128 : decode cX0_readItem 128 = .ok (.getfield 29, 3) := by decide +kernel
theorem dX0_readItem_131 : decode cX0_readItem 131 = .ok (.invokevirtual 32, 3) := by decide +kernel
theorem dX0_readItem_134 : decode cX0_readItem 134 = .ok (.ireturn, 1) := by decide +kernel
theorem dX0_readItem_135 : decode cX0_readItem 135 = .ok (.iconst 1, 1) := by decide +kernel
theorem dX0_readItem_136 : decode cX0_readItem 136 = .ok (.aload_n 1, 1) := by decide +kernel
theorem dX0_readItem_137 : decode cX0_readItem 137 = .ok (.getfield 9, 3) := by decide +kernel
theorem dX0_readItem_140 : decode cX0_readItem 140 = .ok (.iload 4, 2) := by decide +kernel
theorem dX0_readItem_142 : decode cX0_readItem 142 = .ok (.isub, 1) := by decide +kernel
theorem dX0_readItem_143 : decode cX0_readItem 143 = .ok (.invokestatic 50, 3) := by decide +kernel
theorem dX0_readItem_146 : decode cX0_readItem 146 = .ok (.istore 7, 2) := by decide +kernel
theorem dX0_readItem_148 : decode cX0_readItem 148 = .ok (.iload 4, 2) := by decide +kernel
theorem dX0_readItem_150 : decode cX0_readItem 150 = .ok (.iload 7, 2) := by decide +kernel
theorem dX0_readItem_152 : decode cX0_readItem 152 = .ok (.iload 5, 2) := by decide +kernel
theorem dX0_readItem_154 : decode cX0_readItem 154 = .ok (.imul, 1) := by decide +kernel
theorem dX0_readItem_155 : decode cX0_readItem 155 = .ok (.iadd, 1) := by decide +kernel
theorem dX0_readItem_156 : decode cX0_readItem 156 = .ok (.bipush 40, 2) := by decide +kernel
theorem dX0_readItem_158 : decode cX0_readItem 158 = .ok (.if_icmp .le 11, 3) := by decide +kernel
theorem dX0_readItem_161 : decode cX0_readItem 161 = .ok (.aload_n 0, 1) := by decide +kernel
theorem dX0_readItem_162 : decode cX0_readItem 162 = .ok (.bipush 6, 2) := by decide +kernel
theorem dX0_readItem_164 : decode cX0_readItem 164 = .ok (.iload_n 3, 1) := by decide +kernel
theorem dX0_readItem_165 : decode cX0_readItem 165 = .ok (.invokevirtual 32, 3) := by decide +kernel
theorem dX0_readItem_168 : decode cX0_readItem 168 = .ok (.ireturn, 1) := by decide +kernel
theorem dX0_readItem_169 : decode cX0_readItem 169 = .ok (.iload 7, 2) := by decide +kernel
theorem dX0_readItem_171 : decode cX0_readItem 171 = .ok (.istore 8, 2) := by decide +kernel
theorem dX0_readItem_173 : decode cX0_readItem 173 = .ok (.iload 8, 2) := by decide +kernel
theorem dX0_readItem_175 : decode cX0_readItem 175 = .ok (.iload 7, 2) := by decide +kernel
theorem dX0_readItem_177 : decode cX0_readItem 177 = .ok (.iload 5, 2) := by decide +kernel
theorem dX0_readItem_179 : decode cX0_readItem 179 = .ok (.imul, 1) := by decide +kernel
theorem dX0_readItem_180 : decode cX0_readItem 180 = .ok (.if_icmp .ge 25, 3) := by decide +kernel
theorem dX0_readItem_183 : decode cX0_readItem 183 = .ok (.aload_n 1, 1) := by decide +kernel
theorem dX0_readItem_184 : decode cX0_readItem 184 = .ok (.aload_n 1, 1) := by decide +kernel
theorem dX0_readItem_185 : decode cX0_readItem 185 = .ok (.iload 4, 2) := by decide +kernel
theorem dX0_readItem_187 : decode cX0_readItem 187 = .ok (.iload 8, 2) := by decide +kernel
theorem dX0_readItem_189 : decode cX0_readItem 189 = .ok (.iload 7, 2) := by decide +kernel
theorem dX0_readItem_191 : decode cX0_readItem 191 = .ok (.irem, 1) := by decide +kernel
theorem dX0_readItem_192 : decode cX0_readItem 192 = .ok (.iadd, 1) := by decide +kernel
theorem dX0_readItem_193 : decode cX0_readItem 193 = .ok (.invokevirtual 56, 3) := by decide +kernel
theorem dX0_readItem_196 : decode cX0_readItem 196 = .ok (.invokevirtual 43, 3) := by decide +kernel
theorem dX0_readItem_199 : decode cX0_readItem 199 = .ok (.iinc 8 1, 3) := by decide +kernel
theorem dX0_readItem_202 : decode cX0_readItem 202 = .ok (.goto (-29), 3) := by decide +kernel
theorem dX0_readItem_205 : decode cX0_readItem 205 = .ok (.iconst 1, 1) := by decide +kernel
theorem dX0_readItem_206 : decode cX0_readItem 206 = .ok (.ireturn, 1) := by decide +kernel
theorem dX4_add_0 : decode cX4_add 0 = .ok (.aload_n 0, 1) := by decide +kernel
theorem dX4_add_1 : decode cX4_add 1 = .ok (.getfield 15, 3) := by decide +kernel
theorem dX4_add_4 : decode cX4_add 4 = .ok (.ifCond .lt 32, 3) := by decide +kernel
theorem dX4_add_7 : decode cX4_add 7 = .ok (.aload_n 0, 1) := by decide +kernel
theorem dX4_add_8 : decode cX4_add 8 = .ok (.getfield 15, 3) := by decide +kernel
theorem dX4_add_11 : decode cX4_add 11 = .ok (.bipush 40, 2) := by decide +kernel
theorem dX4_add_13 : decode cX4_add 13 = .ok (.if_icmp .ge 23, 3) := by decide +kernel
theorem dX4_add_16 : decode cX4_add 16 = .ok (.aload_n 0, 1) := by decide +kernel
theorem dX4_add_17 : decode cX4_add 17 = .ok (.getfield 9, 3) := by decide +kernel
theorem dX4_add_20 : decode cX4_add 20 = .ok (.aload_n 0, 1) := by decide +kernel
theorem dX4_add_21 : decode cX4_add 21 = .ok (.getfield 15, 3) := by decide +kernel
theorem dX4_add_24 : decode cX4_add 24 = .ok (.iload_n 1, 1) := by decide +kernel
theorem dX4_add_25 : decode cX4_add 25 = .ok (.iastore, 1) := by decide +kernel
theorem dX4_add_26 : decode cX4_add 26 = .ok (.aload_n 0, 1) := by decide +kernel
theorem dX4_add_27 : decode cX4_add 27 = .ok (.dup, 1) := by decide +kernel
theorem dX4_add_28 : decode cX4_add 28 = .ok (.getfield 15, 3) := by decide +kernel
theorem dX4_add_31 : decode cX4_add 31 = .ok (.iconst 1, 1) := by decide +kernel
theorem dX4_add_32 : decode cX4_add 32 = .ok (.iadd, 1) := by decide +kernel
theorem dX4_add_33 : decode cX4_add 33 = .ok (.putfield 15, 3) := by decide +kernel
theorem dX4_add_36 : decode cX4_add 36 = .ok (.return_, 1) := by decide +kernel
theorem dX4_at_0 : decode cX4_at 0 = .ok (.iload_n 1, 1) := by decide +kernel
theorem dX4_at_1 : decode cX4_at 1 = .ok (.ifCond .lt 18, 3) := by decide +kernel
theorem dX4_at_4 : decode cX4_at 4 = .ok (.iload_n 1, 1) := by decide +kernel
theorem dX4_at_5 : decode cX4_at 5 = .ok (.bipush 40, 2) := by decide +kernel
theorem dX4_at_7 : decode cX4_at 7 = .ok (.if_icmp .ge 12, 3) := by decide +kernel
theorem dX4_at_10 : decode cX4_at 10 = .ok (.aload_n 0, 1) := by decide +kernel
theorem dX4_at_11 : decode cX4_at 11 = .ok (.getfield 9, 3) := by decide +kernel
theorem dX4_at_14 : decode cX4_at 14 = .ok (.iload_n 1, 1) := by decide +kernel
theorem dX4_at_15 : decode cX4_at 15 = .ok (.iaload, 1) := by decide +kernel
theorem dX4_at_16 : decode cX4_at 16 = .ok (.goto 4, 3) := by decide +kernel
theorem dX4_at_19 : decode cX4_at 19 = .ok (.iconst 0, 1) := by decide +kernel
theorem dX4_at_20 : decode cX4_at 20 = .ok (.ireturn, 1) := by decide +kernel
theorem dX6_ask_0 : decode cX6_ask 0 = .ok (.aload_n 0, 1) := by decide +kernel
theorem dX6_ask_1 : decode cX6_ask 1 = .ok (.aload_n 1, 1) := by decide +kernel
theorem dX6_ask_2 : decode cX6_ask 2 = .ok (.iload_n 2, 1) := by decide +kernel
theorem dX6_ask_3 : decode cX6_ask 3 = .ok (.aload_n 0, 1) := by decide +kernel
theorem dX6_ask_4 : decode cX6_ask 4 = .ok (.getfield 21, 3) := by decide +kernel
theorem dX6_ask_7 : decode cX6_ask 7 = .ok (.invokevirtual 36, 3) := by decide +kernel
theorem dX6_ask_10 : decode cX6_ask 10 = .ok (.putfield 24, 3) := by decide +kernel
theorem dX6_ask_13 : decode cX6_ask 13 = .ok (.aload_n 0, 1) := by decide +kernel
theorem dX6_ask_14 : decode cX6_ask 14 = .ok (.iload_n 2, 1) := by decide +kernel
theorem dX6_ask_15 : decode cX6_ask 15 = .ok (.putfield 9, 3) := by decide +kernel
theorem dX6_ask_18 : decode cX6_ask 18 = .ok (.aload_n 0, 1) := by decide +kernel
theorem dX6_ask_19 : decode cX6_ask 19 = .ok (.aload_n 1, 1) := by decide +kernel
theorem dX6_ask_20 : decode cX6_ask 20 = .ok (.iload_n 2, 1) := by decide +kernel
theorem dX6_ask_21 : decode cX6_ask 21 = .ok (.aload_n 0, 1) := by decide +kernel
theorem dX6_ask_22 : decode cX6_ask 22 = .ok (.getfield 21, 3) := by decide +kernel
theorem dX6_ask_25 : decode cX6_ask 25 = .ok (.invokevirtual 42, 3) := by decide +kernel
theorem dX6_ask_28 : decode cX6_ask 28 = .ok (.putfield 21, 3) := by decide +kernel
theorem dX6_ask_31 : decode cX6_ask 31 = .ok (.aload_n 0, 1) := by decide +kernel
theorem dX6_ask_32 : decode cX6_ask 32 = .ok (.sipush 9999, 3) := by decide +kernel
theorem dX6_ask_35 : decode cX6_ask 35 = .ok (.aload_n 0, 1) := by decide +kernel
theorem dX6_ask_36 : decode cX6_ask 36 = .ok (.getfield 27, 3) := by decide +kernel
theorem dX6_ask_39 : decode cX6_ask 39 = .ok (.iconst 1, 1) := by decide +kernel
theorem dX6_ask_40 : decode cX6_ask 40 = .ok (.iadd, 1) := by decide +kernel
theorem dX6_ask_41 : decode cX6_ask 41 = .ok (.invokestatic 45, 3) := by decide +kernel
theorem dX6_ask_44 : decode cX6_ask 44 = .ok (.putfield 27, 3) := by decide +kernel
theorem dX6_ask_47 : decode cX6_ask 47 = .ok (.aload_n 0, 1) := by decide +kernel
theorem dX6_ask_48 : decode cX6_ask 48 = .ok (.ldc 50, 2) := by decide +kernel
theorem dX6_ask_50 : decode cX6_ask 50 = .ok (.aload_n 0, 1) := by decide +kernel
theorem dX6_ask_51 : decode cX6_ask 51 = .ok (.getfield 30, 3) := by decide +kernel
theorem dX6_ask_54 : decode cX6_ask 54 = .ok (.aload_n 0, 1) := by decide +kernel
theorem dX6_ask_55 : decode cX6_ask 55 = .ok (.getfield 24, 3) := by decide +kernel
theorem dX6_ask_58 : decode cX6_ask 58 = .ok (.iadd, 1) := by decide +kernel
theorem dX6_ask_59 : decode cX6_ask 59 = .ok (.invokestatic 45, 3) := by decide +kernel
theorem dX6_ask_62 : decode cX6_ask 62 = .ok (.putfield 30, 3) := by decide +kernel
theorem dX6_ask_65 : decode cX6_ask 65 = .ok (.return_, 1) := by decide +kernel
theorem dX8_answer_0 : decode cX8_answer 0 = .ok (.iload_n 1, 1) := by decide +kernel
theorem dX8_answer_1 : decode cX8_answer 1 = .ok (.bipush 10, 2) := by decide +kernel
theorem dX8_answer_3 : decode cX8_answer 3 = .ok (.imul, 1) := by decide +kernel
theorem dX8_answer_4 : decode cX8_answer 4 = .ok (.iload_n 2, 1) := by decide +kernel
theorem dX8_answer_5 : decode cX8_answer 5 = .ok (.iadd, 1) := by decide +kernel
theorem dX8_answer_6 : decode cX8_answer 6 = .ok (.istore_n 3, 1) := by decide +kernel
theorem dX8_answer_7 : decode cX8_answer 7 = .ok (.iload_n 3, 1) := by decide +kernel
theorem dX8_answer_8 : decode cX8_answer 8 = .ok (.ifCond .lt 18, 3) := by decide +kernel
theorem dX8_answer_11 : decode cX8_answer 11 = .ok (.iload_n 3, 1) := by decide +kernel
theorem dX8_answer_12 : decode cX8_answer 12 = .ok (.bipush 80, 2) := by decide +kernel
theorem dX8_answer_14 : decode cX8_answer 14 = .ok (.if_icmp .ge 12, 3) := by decide +kernel
theorem dX8_answer_17 : decode cX8_answer 17 = .ok (.aload_n 0, 1) := by decide +kernel
theorem dX8_answer_18 : decode cX8_answer 18 = .ok (.getfield 9, 3) := by decide +kernel
theorem dX8_answer_21 : decode cX8_answer 21 = .ok (.iload_n 3, 1) := by decide +kernel
theorem dX8_answer_22 : decode cX8_answer 22 = .ok (.iaload, 1) := by decide +kernel
theorem dX8_answer_23 : decode cX8_answer 23 = .ok (.goto 4, 3) := by decide +kernel
theorem dX8_answer_26 : decode cX8_answer 26 = .ok (.iconst 0, 1) := by decide +kernel
theorem dX8_answer_27 : decode cX8_answer 27 = .ok (.ireturn, 1) := by decide +kernel
theorem dX8_behind_0 : decode cX8_behind 0 = .ok (.iload_n 1, 1) := by decide +kernel
theorem dX8_behind_1 : decode cX8_behind 1 = .ok (.bipush 10, 2) := by decide +kernel
theorem dX8_behind_3 : decode cX8_behind 3 = .ok (.imul, 1) := by decide +kernel
theorem dX8_behind_4 : decode cX8_behind 4 = .ok (.iload_n 2, 1) := by decide +kernel
theorem dX8_behind_5 : decode cX8_behind 5 = .ok (.iadd, 1) := by decide +kernel
theorem dX8_behind_6 : decode cX8_behind 6 = .ok (.istore_n 3, 1) := by decide +kernel
theorem dX8_behind_7 : decode cX8_behind 7 = .ok (.iload_n 3, 1) := by decide +kernel
theorem dX8_behind_8 : decode cX8_behind 8 = .ok (.ifCond .lt 18, 3) := by decide +kernel
theorem dX8_behind_11 : decode cX8_behind 11 = .ok (.iload_n 3, 1) := by decide +kernel
theorem dX8_behind_12 : decode cX8_behind 12 = .ok (.bipush 80, 2) := by decide +kernel
theorem dX8_behind_14 : decode cX8_behind 14 = .ok (.if_icmp .ge 12, 3) := by decide +kernel
theorem dX8_behind_17 : decode cX8_behind 17 = .ok (.aload_n 0, 1) := by decide +kernel
theorem dX8_behind_18 : decode cX8_behind 18 = .ok (.getfield 15, 3) := by decide +kernel
theorem dX8_behind_21 : decode cX8_behind 21 = .ok (.iload_n 3, 1) := by decide +kernel
theorem dX8_behind_22 : decode cX8_behind 22 = .ok (.iaload, 1) := by decide +kernel
theorem dX8_behind_23 : decode cX8_behind 23 = .ok (.goto 4, 3) := by decide +kernel
theorem dX8_behind_26 : decode cX8_behind 26 = .ok (.iconst 0, 1) := by decide +kernel
theorem dX8_behind_27 : decode cX8_behind 27 = .ok (.ireturn, 1) := by decide +kernel
theorem dX11_look_0 : decode cX11_look 0 = .ok (.iload_n 2, 1) := by decide +kernel
theorem dX11_look_1 : decode cX11_look 1 = .ok (.ifCond .lt 9, 3) := by decide +kernel
theorem dX11_look_4 : decode cX11_look 4 = .ok (.iload_n 2, 1) := by decide +kernel
theorem dX11_look_5 : decode cX11_look 5 = .ok (.bipush 40, 2) := by decide +kernel
theorem dX11_look_7 : decode cX11_look 7 = .ok (.if_icmp .lt 15, 3) := by decide +kernel
theorem dX11_look_10 : decode cX11_look 10 = .ok (.iload_n 2, 1) := by decide +kernel
theorem dX11_look_11 : decode cX11_look 11 = .ok (.bipush 100, 2) := by decide +kernel
theorem dX11_look_13 : decode cX11_look 13 = .ok (.if_icmp .lt 13, 3) := by decide +kernel
theorem dX11_look_16 : decode cX11_look 16 = .ok (.iload_n 2, 1) := by decide +kernel
theorem dX11_look_17 : decode cX11_look 17 = .ok (.bipush 104, 2) := by decide +kernel
theorem dX11_look_19 : decode cX11_look 19 = .ok (.if_icmp .gt 7, 3) := by decide +kernel
theorem dX11_look_22 : decode cX11_look 22 = .ok (.iconst 1, 1) := by decide +kernel
theorem dX11_look_23 : decode cX11_look 23 = .ok (.goto 4, 3) := by decide +kernel
theorem dX11_look_26 : decode cX11_look 26 = .ok (.iconst 0, 1) := by decide +kernel
theorem dX11_look_27 : decode cX11_look 27 = .ok (.istore_n 3, 1) := by decide +kernel
theorem dX11_look_28 : decode cX11_look 28 = .ok (.iload_n 3, 1) := by decide +kernel
theorem dX11_look_29 : decode cX11_look 29 = .ok (.ifCond .eq 23, 3) := by decide +kernel
theorem dX11_look_32 : decode cX11_look 32 = .ok (.aload_n 0, 1) := by decide +kernel
theorem dX11_look_33 : decode cX11_look 33 = .ok (.iload_n 1, 1) := by decide +kernel
theorem dX11_look_34 : decode cX11_look 34 = .ok (.bipush 60, 2) := by decide +kernel
theorem dX11_look_36 : decode cX11_look 36 = .ok (.invokevirtual 108, 3) := by decide +kernel
theorem dX11_look_39 : decode cX11_look 39 = .ok (.ifCond .eq 13, 3) := by decide +kernel
theorem dX11_look_42 : decode cX11_look 42 = .ok (.aload_n 0, 1) := by decide +kernel
theorem dX11_look_43 : decode cX11_look 43 = .ok (.getfield 42, 3) := by decide +kernel
theorem dX11_look_46 : decode cX11_look 46 = .ok (.invokevirtual 144, 3) := by decide +kernel
theorem dX11_look_49 : decode cX11_look 49 = .ok (.ifCond .ne 5, 3) := by decide +kernel
theorem dX11_look_52 : decode cX11_look 52 = .ok (.iconst (-1), 1) := by decide +kernel
theorem dX11_look_53 : decode cX11_look 53 = .ok (.ireturn, 1) := by decide +kernel
theorem dX11_look_54 : decode cX11_look 54 = .ok (.aload_n 0, 1) := by decide +kernel
theorem dX11_look_55 : decode cX11_look 55 = .ok (.iload_n 1, 1) := by decide +kernel
theorem dX11_look_56 : decode cX11_look 56 = .ok (.invokevirtual 148, 3) := by decide +kernel
theorem dX11_look_59 : decode cX11_look 59 = .ok (.istore 4, 2) := by decide +kernel
theorem dX11_look_61 : decode cX11_look 61 = .ok (.iload 4, 2) := by decide +kernel
theorem dX11_look_63 : decode cX11_look 63 = .ok (.ifCond .eq 6, 3) := by decide +kernel
theorem dX11_look_66 : decode cX11_look 66 = .ok (.iload 4, 2) := by decide +kernel
theorem dX11_look_68 : decode cX11_look 68 = .ok (.ireturn, 1) := by decide +kernel
theorem dX11_look_69 : decode cX11_look 69 = .ok (.iload_n 2, 1) := by decide +kernel
theorem dX11_look_70 : decode cX11_look 70 = .ok (.bipush 100, 2) := by decide +kernel
theorem dX11_look_72 : decode cX11_look 72 = .ok (.if_icmp .ge 17, 3) := by decide +kernel
theorem dX11_look_75 : decode cX11_look 75 = .ok (.iload_n 2, 1) := by decide +kernel
theorem dX11_look_76 : decode cX11_look 76 = .ok (.aload_n 0, 1) := by decide +kernel
theorem dX11_look_77 : decode cX11_look 77 = .ok (.getfield 62, 3) := by decide +kernel
theorem dX11_look_80 : decode cX11_look 80 = .ok (.getfield 152, 3) := by decide +kernel
theorem dX11_look_83 : decode cX11_look 83 = .ok (.if_icmp .lt 6, 3) := by decide +kernel
theorem dX11_look_86 : decode cX11_look 86 = .ok (.bipush (-4), 2) := by decide +kernel
theorem dX11_look_88 : decode cX11_look 88 = .ok (.ireturn, 1) := by decide +kernel
theorem dX11_look_89 : decode cX11_look 89 = .ok (.aload_n 0, 1) := by decide +kernel
theorem dX11_look_90 : decode cX11_look 90 = .ok (.iload_n 2, 1) := by decide +kernel
theorem dX11_look_91 : decode cX11_look 91 = .ok (.invokevirtual 162, 3) := by decide +kernel
theorem dX11_look_94 : decode cX11_look 94 = .ok (.ireturn, 1) := by decide +kernel
theorem dX11_lookAlong_0 : decode cX11_lookAlong 0 = .ok (.aload_n 0, 1) := by decide +kernel
theorem dX11_lookAlong_1 : decode cX11_lookAlong 1 = .ok (.getfield 29, 3) := by decide +kernel
theorem dX11_lookAlong_4 : decode cX11_lookAlong 4 = .ok (.getfield 91, 3) := by decide +kernel
theorem dX11_lookAlong_7 : decode cX11_lookAlong 7 = .ok (.istore_n 2, 1) := by decide +kernel
theorem dX11_lookAlong_8 : decode cX11_lookAlong 8 = .ok (.iconst 0, 1) := by decide +kernel
theorem dX11_lookAlong_9 : decode cX11_lookAlong 9 = .ok (.istore_n 3, 1) := by decide +kernel
theorem dX11_lookAlong_10 : decode cX11_lookAlong 10 = .ok (.iconst 0, 1) := by decide +kernel
theorem dX11_lookAlong_11 : decode cX11_lookAlong 11 = .ok (.istore 4, 2) := by decide +kernel
theorem dX11_lookAlong_13 : decode cX11_lookAlong 13 = .ok (.iconst 1, 1) := by decide +kernel
theorem dX11_lookAlong_14 : decode cX11_lookAlong 14 = .ok (.iload_n 2, 1) := by decide +kernel
theorem dX11_lookAlong_15 : decode cX11_lookAlong 15 = .ok (.ishl, 1) := by decide +kernel
theorem dX11_lookAlong_16 : decode cX11_lookAlong 16 = .ok (.istore 5, 2) := by decide +kernel
theorem dX11_lookAlong_18 : decode cX11_lookAlong 18 = .ok (.iload_n 1, 1) := by decide +kernel
theorem dX11_lookAlong_19 : decode cX11_lookAlong 19 = .ok (.bipush 100, 2) := by decide +kernel
theorem dX11_lookAlong_21 : decode cX11_lookAlong 21 = .ok (.if_icmp .ge 9, 3) := by decide +kernel
theorem dX11_lookAlong_24 : decode cX11_lookAlong 24 = .ok (.iload_n 1, 1) := by decide +kernel
theorem dX11_lookAlong_25 : decode cX11_lookAlong 25 = .ok (.iconst 1, 1) := by decide +kernel
theorem dX11_lookAlong_26 : decode cX11_lookAlong 26 = .ok (.iadd, 1) := by decide +kernel
theorem dX11_lookAlong_27 : decode cX11_lookAlong 27 = .ok (.goto 10, 3) := by decide +kernel
theorem dX11_lookAlong_30 : decode cX11_lookAlong 30 = .ok (.aload_n 0, 1) := by decide +kernel
theorem dX11_lookAlong_31 : decode cX11_lookAlong 31 = .ok (.getfield 62, 3) := by decide +kernel
theorem dX11_lookAlong_34 : decode cX11_lookAlong 34 = .ok (.getfield 152, 3) := by decide +kernel
theorem dX11_lookAlong_37 : decode cX11_lookAlong 37 = .ok (.istore 6, 2) := by decide +kernel
theorem dX11_lookAlong_39 : decode cX11_lookAlong 39 = .ok (.iconst 0, 1) := by decide +kernel
theorem dX11_lookAlong_40 : decode cX11_lookAlong 40 = .ok (.istore 7, 2) := by decide +kernel
theorem dX11_lookAlong_42 : decode cX11_lookAlong 42 = .ok (.iload 7, 2) := by decide +kernel
theorem dX11_lookAlong_44 : decode cX11_lookAlong 44 = .ok (.iload 6, 2) := by decide +kernel
theorem dX11_lookAlong_46 : decode cX11_lookAlong 46 = .ok (.if_icmp .ge 56, 3) := by decide +kernel
theorem dX11_lookAlong_49 : decode cX11_lookAlong 49 = .ok (.aload_n 0, 1) := by decide +kernel
theorem dX11_lookAlong_50 : decode cX11_lookAlong 50 = .ok (.getfield 62, 3) := by decide +kernel
theorem dX11_lookAlong_53 : decode cX11_lookAlong 53 = .ok (.iload 7, 2) := by decide +kernel
theorem dX11_lookAlong_55 : decode cX11_lookAlong 55 = .ok (.invokevirtual 155, 3) := by decide +kernel
theorem dX11_lookAlong_58 : decode cX11_lookAlong 58 = .ok (.istore 8, 2) := by decide +kernel
theorem dX11_lookAlong_60 : decode cX11_lookAlong 60 = .ok (.aload_n 0, 1) := by decide +kernel
theorem dX11_lookAlong_61 : decode cX11_lookAlong 61 = .ok (.getfield 42, 3) := by decide +kernel
theorem dX11_lookAlong_64 : decode cX11_lookAlong 64 = .ok (.iload 8, 2) := by decide +kernel
theorem dX11_lookAlong_66 : decode cX11_lookAlong 66 = .ok (.iload_n 2, 1) := by decide +kernel
theorem dX11_lookAlong_67 : decode cX11_lookAlong 67 = .ok (.invokevirtual 182, 3) := by decide +kernel
theorem dX11_lookAlong_70 : decode cX11_lookAlong 70 = .ok (.istore_n 3, 1) := by decide +kernel
theorem dX11_lookAlong_71 : decode cX11_lookAlong 71 = .ok (.aload_n 0, 1) := by decide +kernel
theorem dX11_lookAlong_72 : decode cX11_lookAlong 72 = .ok (.getfield 42, 3) := by decide +kernel
theorem dX11_lookAlong_75 : decode cX11_lookAlong 75 = .ok (.iload 8, 2) := by decide +kernel
theorem dX11_lookAlong_77 : decode cX11_lookAlong 77 = .ok (.iload_n 2, 1) := by decide +kernel
theorem dX11_lookAlong_78 : decode cX11_lookAlong 78 = .ok (.invokevirtual 186, 3) := by decide +kernel
theorem dX11_lookAlong_81 : decode cX11_lookAlong 81 = .ok (.istore_n 2, 1) := by decide +kernel
theorem dX11_lookAlong_82 : decode cX11_lookAlong 82 = .ok (.iload 4, 2) := by decide +kernel
theorem dX11_lookAlong_84 : decode cX11_lookAlong 84 = .ok (.iload_n 3, 1) := by decide +kernel
theorem dX11_lookAlong_85 : decode cX11_lookAlong 85 = .ok (.iadd, 1) := by decide +kernel
theorem dX11_lookAlong_86 : decode cX11_lookAlong 86 = .ok (.istore 4, 2) := by decide +kernel
theorem dX11_lookAlong_88 : decode cX11_lookAlong 88 = .ok (.iload 5, 2) := by decide +kernel
theorem dX11_lookAlong_90 : decode cX11_lookAlong 90 = .ok (.iconst 1, 1) := by decide +kernel
theorem dX11_lookAlong_91 : decode cX11_lookAlong 91 = .ok (.iload_n 2, 1) := by decide +kernel
theorem dX11_lookAlong_92 : decode cX11_lookAlong 92 = .ok (.ishl, 1) := by decide +kernel
theorem dX11_lookAlong_93 : decode cX11_lookAlong 93 = .ok (.ior, 1) := by decide +kernel
theorem dX11_lookAlong_94 : decode cX11_lookAlong 94 = .ok (.istore 5, 2) := by decide +kernel
theorem dX11_lookAlong_96 : decode cX11_lookAlong 96 = .ok (.iinc 7 1, 3) := by decide +kernel
theorem dX11_lookAlong_99 : decode cX11_lookAlong 99 = .ok (.goto (-57), 3) := by decide +kernel
theorem dX11_lookAlong_102 : decode cX11_lookAlong 102 = .ok (.iload_n 1, 1) := by decide +kernel
theorem dX11_lookAlong_103 : decode cX11_lookAlong 103 = .ok (.tableswitch 45 101 104 #[29, 31, 34, 42], 29) := by decide +kernel
theorem dX11_lookAlong_132 : decode cX11_lookAlong 132 = .ok (.iload_n 2, 1) := by decide +kernel
theorem dX11_lookAlong_133 : decode cX11_lookAlong 133 = .ok (.ireturn, 1) := by decide +kernel
theorem dX11_lookAlong_134 : decode cX11_lookAlong 134 = .ok (.iload 4, 2) := by decide +kernel
theorem dX11_lookAlong_136 : decode cX11_lookAlong 136 = .ok (.ireturn, 1) := by decide +kernel
theorem dX11_lookAlong_137 : decode cX11_lookAlong 137 = .ok (.aload_n 0, 1) := by decide +kernel
theorem dX11_lookAlong_138 : decode cX11_lookAlong 138 = .ok (.getfield 62, 3) := by decide +kernel
theorem dX11_lookAlong_141 : decode cX11_lookAlong 141 = .ok (.getfield 152, 3) := by decide +kernel
theorem dX11_lookAlong_144 : decode cX11_lookAlong 144 = .ok (.ireturn, 1) := by decide +kernel
theorem dX11_lookAlong_145 : decode cX11_lookAlong 145 = .ok (.iload 5, 2) := by decide +kernel
theorem dX11_lookAlong_147 : decode cX11_lookAlong 147 = .ok (.ireturn, 1) := by decide +kernel
theorem dX11_lookAlong_148 : decode cX11_lookAlong 148 = .ok (.iload_n 3, 1) := by decide +kernel
theorem dX11_lookAlong_149 : decode cX11_lookAlong 149 = .ok (.ireturn, 1) := by decide +kernel
theorem dX11_days_0 : decode cX11_days 0 = .ok (.iload_n 1, 1) := by decide +kernel
theorem dX11_days_1 : decode cX11_days 1 = .ok (.iconst 1, 1) := by decide +kernel
theorem dX11_days_2 : decode cX11_days 2 = .ok (.if_icmp .lt 9, 3) := by decide +kernel
theorem dX11_days_5 : decode cX11_days 5 = .ok (.iload_n 1, 1) := by decide +kernel
theorem dX11_days_6 : decode cX11_days 6 = .ok (.bipush 100, 2) := by decide +kernel
theorem dX11_days_8 : decode cX11_days 8 = .ok (.if_icmp .le 5, 3) := by decide +kernel
theorem dX11_days_11 : decode cX11_days 11 = .ok (.iconst (-1), 1) := by decide +kernel
theorem dX11_days_12 : decode cX11_days 12 = .ok (.ireturn, 1) := by decide +kernel
theorem dX11_days_13 : decode cX11_days 13 = .ok (.aload_n 0, 1) := by decide +kernel
theorem dX11_days_14 : decode cX11_days 14 = .ok (.getfield 69, 3) := by decide +kernel
theorem dX11_days_17 : decode cX11_days 17 = .ok (.iload_n 1, 1) := by decide +kernel
theorem dX11_days_18 : decode cX11_days 18 = .ok (.aload_n 0, 1) := by decide +kernel
theorem dX11_days_19 : decode cX11_days 19 = .ok (.getfield 29, 3) := by decide +kernel
theorem dX11_days_22 : decode cX11_days 22 = .ok (.aload_n 0, 1) := by decide +kernel
theorem dX11_days_23 : decode cX11_days 23 = .ok (.getfield 42, 3) := by decide +kernel
theorem dX11_days_26 : decode cX11_days 26 = .ok (.aload_n 0, 1) := by decide +kernel
theorem dX11_days_27 : decode cX11_days 27 = .ok (.getfield 52, 3) := by decide +kernel
theorem dX11_days_30 : decode cX11_days 30 = .ok (.aload_n 0, 1) := by decide +kernel
theorem dX11_days_31 : decode cX11_days 31 = .ok (.getfield 16, 3) := by decide +kernel
theorem dX11_days_34 : decode cX11_days 34 = .ok (.invokevirtual 165, 3) := by decide +kernel
theorem dX11_days_37 : decode cX11_days 37 = .ok (.aload_n 0, 1) := by decide +kernel
theorem dX11_days_38 : decode cX11_days 38 = .ok (.getfield 69, 3) := by decide +kernel
theorem dX11_days_41 : decode cX11_days 41 = .ok (.getfield 169, 3) := by decide +kernel
theorem dX11_days_44 : decode cX11_days 44 = .ok (.ireturn, 1) := by decide +kernel
theorem dX1_goThrough_0 : decode cX1_goThrough 0 = .ok (.aload_n 0, 1) := by decide +kernel
theorem dX1_goThrough_1 : decode cX1_goThrough 1 = .ok (.iconst 0, 1) := by decide +kernel
theorem dX1_goThrough_2 : decode cX1_goThrough 2 = .ok (.putfield 15, 3) := by decide +kernel
theorem dX1_goThrough_5 : decode cX1_goThrough 5 = .ok (.aload_n 0, 1) := by decide +kernel
theorem dX1_goThrough_6 : decode cX1_goThrough 6 = .ok (.iconst 0, 1) := by decide +kernel
theorem dX1_goThrough_7 : decode cX1_goThrough 7 = .ok (.putfield 19, 3) := by decide +kernel
theorem dX1_goThrough_10 : decode cX1_goThrough 10 = .ok (.iconst 0, 1) := by decide +kernel
theorem dX1_goThrough_11 : decode cX1_goThrough 11 = .ok (.istore 6, 2) := by decide +kernel
theorem dX1_goThrough_13 : decode cX1_goThrough 13 = .ok (.iload 6, 2) := by decide +kernel
theorem dX1_goThrough_15 : decode cX1_goThrough 15 = .ok (.iload_n 1, 1) := by decide +kernel
theorem dX1_goThrough_16 : decode cX1_goThrough 16 = .ok (.if_icmp .ge 161, 3) := by decide +kernel
theorem dX1_goThrough_19 : decode cX1_goThrough 19 = .ok (.aload_n 2, 1) := by decide +kernel
theorem dX1_goThrough_20 : decode cX1_goThrough 20 = .ok (.getfield 22, 3) := by decide +kernel
theorem dX1_goThrough_23 : decode cX1_goThrough 23 = .ok (.sipush 9999, 3) := by decide +kernel
theorem dX1_goThrough_26 : decode cX1_goThrough 26 = .ok (.if_icmp .ge 151, 3) := by decide +kernel
theorem dX1_goThrough_29 : decode cX1_goThrough 29 = .ok (.aload_n 2, 1) := by decide +kernel
theorem dX1_goThrough_30 : decode cX1_goThrough 30 = .ok (.invokevirtual 27, 3) := by decide +kernel
theorem dX1_goThrough_33 : decode cX1_goThrough 33 = .ok (.istore 7, 2) := by decide +kernel
theorem dX1_goThrough_35 : decode cX1_goThrough 35 = .ok (.aload_n 3, 1) := by decide +kernel
theorem dX1_goThrough_36 : decode cX1_goThrough 36 = .ok (.invokevirtual 31, 3) := by decide +kernel
theorem dX1_goThrough_39 : decode cX1_goThrough 39 = .ok (.ifCond .eq 17, 3) := by decide +kernel
theorem dX1_goThrough_42 : decode cX1_goThrough 42 = .ok (.aload_n 0, 1) := by decide +kernel
theorem dX1_goThrough_43 : decode cX1_goThrough 43 = .ok (.aload_n 2, 1) := by decide +kernel
theorem dX1_goThrough_44 : decode cX1_goThrough 44 = .ok (.iload 7, 2) := by decide +kernel
theorem dX1_goThrough_46 : decode cX1_goThrough 46 = .ok (.aload 4, 2) := by decide +kernel
theorem dX1_goThrough_48 : decode cX1_goThrough 48 = .ok (.aload 5, 2) := by decide +kernel
theorem dX1_goThrough_50 : decode cX1_goThrough 50 = .ok (.invokevirtual 37, 3) := by decide +kernel
theorem dX1_goThrough_53 : decode cX1_goThrough 53 = .ok (.goto 4, 3) := by decide +kernel
theorem dX1_goThrough_56 : decode cX1_goThrough 56 = .ok (.iconst (-1), 1) := by decide +kernel
theorem dX1_goThrough_57 : decode cX1_goThrough 57 = .ok (.istore 8, 2) := by decide +kernel
theorem dX1_goThrough_59 : decode cX1_goThrough 59 = .ok (.iload 8, 2) := by decide +kernel
theorem dX1_goThrough_61 : decode cX1_goThrough 61 = .ok (.invokestatic 41, 3) := by decide +kernel
theorem dX1_goThrough_64 : decode cX1_goThrough 64 = .ok (.ifCond .eq 97, 3) := by decide +kernel
theorem dX1_goThrough_67 : decode cX1_goThrough 67 = .ok (.aload_n 2, 1) := by decide +kernel
theorem dX1_goThrough_68 : decode cX1_goThrough 68 = .ok (.dup, 1) := by decide +kernel
theorem dX1_goThrough_69 : decode cX1_goThrough 69 = .ok (.getfield 45, 3) := by decide +kernel
theorem dX1_goThrough_72 : decode cX1_goThrough 72 = .ok (.aload 5, 2) := by decide +kernel
theorem dX1_goThrough_74 : decode cX1_goThrough 74 = .ok (.iload 8, 2) := by decide +kernel
theorem dX1_goThrough_76 : decode cX1_goThrough 76 = .ok (.iaload, 1) := by decide +kernel
theorem dX1_goThrough_77 : decode cX1_goThrough 77 = .ok (.isub, 1) := by decide +kernel
theorem dX1_goThrough_78 : decode cX1_goThrough 78 = .ok (.putfield 45, 3) := by decide +kernel
theorem dX1_goThrough_81 : decode cX1_goThrough 81 = .ok (.aload_n 2, 1) := by decide +kernel
theorem dX1_goThrough_82 : decode cX1_goThrough 82 = .ok (.aload_n 3, 1) := by decide +kernel
theorem dX1_goThrough_83 : decode cX1_goThrough 83 = .ok (.iload 8, 2) := by decide +kernel
theorem dX1_goThrough_85 : decode cX1_goThrough 85 = .ok (.invokevirtual 48, 3) := by decide +kernel
theorem dX1_goThrough_88 : decode cX1_goThrough 88 = .ok (.aload_n 0, 1) := by decide +kernel
theorem dX1_goThrough_89 : decode cX1_goThrough 89 = .ok (.dup, 1) := by decide +kernel
theorem dX1_goThrough_90 : decode cX1_goThrough 90 = .ok (.getfield 15, 3) := by decide +kernel
theorem dX1_goThrough_93 : decode cX1_goThrough 93 = .ok (.iconst 1, 1) := by decide +kernel
theorem dX1_goThrough_94 : decode cX1_goThrough 94 = .ok (.iadd, 1) := by decide +kernel
theorem dX1_goThrough_95 : decode cX1_goThrough 95 = .ok (.putfield 15, 3) := by decide +kernel
theorem dX1_goThrough_98 : decode cX1_goThrough 98 = .ok (.aload_n 0, 1) := by decide +kernel
theorem dX1_goThrough_99 : decode cX1_goThrough 99 = .ok (.dup, 1) := by decide +kernel
theorem dX1_goThrough_100 : decode cX1_goThrough 100 = .ok (.getfield 19, 3) := by decide +kernel
theorem dX1_goThrough_103 : decode cX1_goThrough 103 = .ok (.aload_n 2, 1) := by decide +kernel
theorem dX1_goThrough_104 : decode cX1_goThrough 104 = .ok (.getfield 52, 3) := by decide +kernel
theorem dX1_goThrough_107 : decode cX1_goThrough 107 = .ok (.iadd, 1) := by decide +kernel
theorem dX1_goThrough_108 : decode cX1_goThrough 108 = .ok (.putfield 19, 3) := by decide +kernel
theorem dX1_goThrough_111 : decode cX1_goThrough 111 = .ok (.aload_n 0, 1) := by decide +kernel
theorem dX1_goThrough_112 : decode cX1_goThrough 112 = .ok (.aload_n 2, 1) := by decide +kernel
theorem dX1_goThrough_113 : decode cX1_goThrough 113 = .ok (.iload 7, 2) := by decide +kernel
theorem dX1_goThrough_115 : decode cX1_goThrough 115 = .ok (.invokevirtual 55, 3) := by decide +kernel
theorem dX1_goThrough_118 : decode cX1_goThrough 118 = .ok (.aload_n 0, 1) := by decide +kernel
theorem dX1_goThrough_119 : decode cX1_goThrough 119 = .ok (.iload 8, 2) := by decide +kernel
theorem dX1_goThrough_121 : decode cX1_goThrough 121 = .ok (.aload 5, 2) := by decide +kernel
theorem dX1_goThrough_123 : decode cX1_goThrough 123 = .ok (.iload 8, 2) := by decide +kernel
theorem dX1_goThrough_125 : decode cX1_goThrough 125 = .ok (.iaload, 1) := by decide +kernel
theorem dX1_goThrough_126 : decode cX1_goThrough 126 = .ok (.invokevirtual 59, 3) := by decide +kernel
theorem dX1_goThrough_129 : decode cX1_goThrough 129 = .ok (.aload 4, 2) := by decide +kernel
theorem dX1_goThrough_131 : decode cX1_goThrough 131 = .ok (.bipush 103, 2) := by decide +kernel
theorem dX1_goThrough_133 : decode cX1_goThrough 133 = .ok (.aload_n 0, 1) := by decide +kernel
theorem dX1_goThrough_134 : decode cX1_goThrough 134 = .ok (.getfield 9, 3) := by decide +kernel
theorem dX1_goThrough_137 : decode cX1_goThrough 137 = .ok (.bipush 99, 2) := by decide +kernel
theorem dX1_goThrough_139 : decode cX1_goThrough 139 = .ok (.invokevirtual 63, 3) := by decide +kernel
theorem dX1_goThrough_142 : decode cX1_goThrough 142 = .ok (.istore 9, 2) := by decide +kernel
theorem dX1_goThrough_144 : decode cX1_goThrough 144 = .ok (.aload_n 2, 1) := by decide +kernel
theorem dX1_goThrough_145 : decode cX1_goThrough 145 = .ok (.sipush 9999, 3) := by decide +kernel
theorem dX1_goThrough_148 : decode cX1_goThrough 148 = .ok (.aload_n 2, 1) := by decide +kernel
theorem dX1_goThrough_149 : decode cX1_goThrough 149 = .ok (.getfield 45, 3) := by decide +kernel
theorem dX1_goThrough_152 : decode cX1_goThrough 152 = .ok (.iload 9, 2) := by decide +kernel
theorem dX1_goThrough_154 : decode cX1_goThrough 154 = .ok (.iadd, 1) := by decide +kernel
theorem dX1_goThrough_155 : decode cX1_goThrough 155 = .ok (.invokestatic 69, 3) := by decide +kernel
theorem dX1_goThrough_158 : decode cX1_goThrough 158 = .ok (.putfield 45, 3) := by decide +kernel
theorem dX1_goThrough_161 : decode cX1_goThrough 161 = .ok (.aload_n 2, 1) := by decide +kernel
theorem dX1_goThrough_162 : decode cX1_goThrough 162 = .ok (.dup, 1) := by decide +kernel
theorem dX1_goThrough_163 : decode cX1_goThrough 163 = .ok (.getfield 22, 3) := by decide +kernel
theorem dX1_goThrough_166 : decode cX1_goThrough 166 = .ok (.iconst 1, 1) := by decide +kernel
theorem dX1_goThrough_167 : decode cX1_goThrough 167 = .ok (.iadd, 1) := by decide +kernel
theorem dX1_goThrough_168 : decode cX1_goThrough 168 = .ok (.putfield 22, 3) := by decide +kernel
theorem dX1_goThrough_171 : decode cX1_goThrough 171 = .ok (.iinc 6 1, 3) := by decide +kernel
theorem dX1_goThrough_174 : decode cX1_goThrough 174 = .ok (.goto (-161), 3) := by decide +kernel
theorem dX1_goThrough_177 : decode cX1_goThrough 177 = .ok (.return_, 1) := by decide +kernel
theorem dX6_draw_0 : decode cX6_draw 0 = .ok (.aload_n 0, 1) := by decide +kernel
theorem dX6_draw_1 : decode cX6_draw 1 = .ok (.sipush 25173, 3) := by decide +kernel
theorem dX6_draw_4 : decode cX6_draw 4 = .ok (.aload_n 0, 1) := by decide +kernel
theorem dX6_draw_5 : decode cX6_draw 5 = .ok (.getfield 18, 3) := by decide +kernel
theorem dX6_draw_8 : decode cX6_draw 8 = .ok (.imul, 1) := by decide +kernel
theorem dX6_draw_9 : decode cX6_draw 9 = .ok (.sipush 13849, 3) := by decide +kernel
theorem dX6_draw_12 : decode cX6_draw 12 = .ok (.iadd, 1) := by decide +kernel
theorem dX6_draw_13 : decode cX6_draw 13 = .ok (.ldc 51, 2) := by decide +kernel
theorem dX6_draw_15 : decode cX6_draw 15 = .ok (.iand, 1) := by decide +kernel
theorem dX6_draw_16 : decode cX6_draw 16 = .ok (.putfield 18, 3) := by decide +kernel
theorem dX6_draw_19 : decode cX6_draw 19 = .ok (.aload_n 0, 1) := by decide +kernel
theorem dX6_draw_20 : decode cX6_draw 20 = .ok (.getfield 18, 3) := by decide +kernel
theorem dX6_draw_23 : decode cX6_draw 23 = .ok (.bipush 10, 2) := by decide +kernel
theorem dX6_draw_25 : decode cX6_draw 25 = .ok (.irem, 1) := by decide +kernel
theorem dX6_draw_26 : decode cX6_draw 26 = .ok (.ireturn, 1) := by decide +kernel
theorem dX1_mostLiked_0 : decode cX1_mostLiked 0 = .ok (.aload_n 0, 1) := by decide +kernel
theorem dX1_mostLiked_1 : decode cX1_mostLiked 1 = .ok (.aload_n 1, 1) := by decide +kernel
theorem dX1_mostLiked_2 : decode cX1_mostLiked 2 = .ok (.iload_n 2, 1) := by decide +kernel
theorem dX1_mostLiked_3 : decode cX1_mostLiked 3 = .ok (.invokevirtual 55, 3) := by decide +kernel
theorem dX1_mostLiked_6 : decode cX1_mostLiked 6 = .ok (.iconst (-1), 1) := by decide +kernel
theorem dX1_mostLiked_7 : decode cX1_mostLiked 7 = .ok (.istore 5, 2) := by decide +kernel
theorem dX1_mostLiked_9 : decode cX1_mostLiked 9 = .ok (.iconst 0, 1) := by decide +kernel
theorem dX1_mostLiked_10 : decode cX1_mostLiked 10 = .ok (.istore 6, 2) := by decide +kernel
theorem dX1_mostLiked_12 : decode cX1_mostLiked 12 = .ok (.iconst 0, 1) := by decide +kernel
theorem dX1_mostLiked_13 : decode cX1_mostLiked 13 = .ok (.istore 7, 2) := by decide +kernel
theorem dX1_mostLiked_15 : decode cX1_mostLiked 15 = .ok (.iload 7, 2) := by decide +kernel
theorem dX1_mostLiked_17 : decode cX1_mostLiked 17 = .ok (.bipush 8, 2) := by decide +kernel
theorem dX1_mostLiked_19 : decode cX1_mostLiked 19 = .ok (.if_icmp .ge 83, 3) := by decide +kernel
theorem dX1_mostLiked_22 : decode cX1_mostLiked 22 = .ok (.iload 7, 2) := by decide +kernel
theorem dX1_mostLiked_24 : decode cX1_mostLiked 24 = .ok (.aload 4, 2) := by decide +kernel
theorem dX1_mostLiked_26 : decode cX1_mostLiked 26 = .ok (.arraylength, 1) := by decide +kernel
theorem dX1_mostLiked_27 : decode cX1_mostLiked 27 = .ok (.if_icmp .ge 75, 3) := by decide +kernel
theorem dX1_mostLiked_30 : decode cX1_mostLiked 30 = .ok (.aload 4, 2) := by decide +kernel
theorem dX1_mostLiked_32 : decode cX1_mostLiked 32 = .ok (.iload 7, 2) := by decide +kernel
theorem dX1_mostLiked_34 : decode cX1_mostLiked 34 = .ok (.iaload, 1) := by decide +kernel
theorem dX1_mostLiked_35 : decode cX1_mostLiked 35 = .ok (.aload_n 1, 1) := by decide +kernel
theorem dX1_mostLiked_36 : decode cX1_mostLiked 36 = .ok (.getfield 45, 3) := by decide +kernel
theorem dX1_mostLiked_39 : decode cX1_mostLiked 39 = .ok (.if_icmp .gt 57, 3) := by decide +kernel
theorem dX1_mostLiked_42 : decode cX1_mostLiked 42 = .ok (.aload_n 0, 1) := by decide +kernel
theorem dX1_mostLiked_43 : decode cX1_mostLiked 43 = .ok (.iload 7, 2) := by decide +kernel
theorem dX1_mostLiked_45 : decode cX1_mostLiked 45 = .ok (.aload 4, 2) := by decide +kernel
theorem dX1_mostLiked_47 : decode cX1_mostLiked 47 = .ok (.iload 7, 2) := by decide +kernel
theorem dX1_mostLiked_49 : decode cX1_mostLiked 49 = .ok (.iaload, 1) := by decide +kernel
theorem dX1_mostLiked_50 : decode cX1_mostLiked 50 = .ok (.invokevirtual 59, 3) := by decide +kernel
theorem dX1_mostLiked_53 : decode cX1_mostLiked 53 = .ok (.aload_n 3, 1) := by decide +kernel
theorem dX1_mostLiked_54 : decode cX1_mostLiked 54 = .ok (.bipush 101, 2) := by decide +kernel
theorem dX1_mostLiked_56 : decode cX1_mostLiked 56 = .ok (.aload_n 0, 1) := by decide +kernel
theorem dX1_mostLiked_57 : decode cX1_mostLiked 57 = .ok (.getfield 9, 3) := by decide +kernel
theorem dX1_mostLiked_60 : decode cX1_mostLiked 60 = .ok (.sipush 9999, 3) := by decide +kernel
theorem dX1_mostLiked_63 : decode cX1_mostLiked 63 = .ok (.invokevirtual 63, 3) := by decide +kernel
theorem dX1_mostLiked_66 : decode cX1_mostLiked 66 = .ok (.istore 8, 2) := by decide +kernel
theorem dX1_mostLiked_68 : decode cX1_mostLiked 68 = .ok (.iload 8, 2) := by decide +kernel
theorem dX1_mostLiked_70 : decode cX1_mostLiked 70 = .ok (.iload 6, 2) := by decide +kernel
theorem dX1_mostLiked_72 : decode cX1_mostLiked 72 = .ok (.if_icmp .le 24, 3) := by decide +kernel
theorem dX1_mostLiked_75 : decode cX1_mostLiked 75 = .ok (.aload_n 3, 1) := by decide +kernel
theorem dX1_mostLiked_76 : decode cX1_mostLiked 76 = .ok (.bipush 120, 2) := by decide +kernel
theorem dX1_mostLiked_78 : decode cX1_mostLiked 78 = .ok (.aload_n 0, 1) := by decide +kernel
theorem dX1_mostLiked_79 : decode cX1_mostLiked 79 = .ok (.getfield 9, 3) := by decide +kernel
theorem dX1_mostLiked_82 : decode cX1_mostLiked 82 = .ok (.invokevirtual 75, 3) := by decide +kernel
theorem dX1_mostLiked_85 : decode cX1_mostLiked 85 = .ok (.ifCond .ne 11, 3) := by decide +kernel
theorem dX1_mostLiked_88 : decode cX1_mostLiked 88 = .ok (.iload 7, 2) := by decide +kernel
theorem dX1_mostLiked_90 : decode cX1_mostLiked 90 = .ok (.istore 5, 2) := by decide +kernel
theorem dX1_mostLiked_92 : decode cX1_mostLiked 92 = .ok (.iload 8, 2) := by decide +kernel
theorem dX1_mostLiked_94 : decode cX1_mostLiked 94 = .ok (.istore 6, 2) := by decide +kernel
theorem dX1_mostLiked_96 : decode cX1_mostLiked 96 = .ok (.iinc 7 1, 3) := by decide +kernel
theorem dX1_mostLiked_99 : decode cX1_mostLiked 99 = .ok (.goto (-84), 3) := by decide +kernel
theorem dX1_mostLiked_102 : decode cX1_mostLiked 102 = .ok (.iload 5, 2) := by decide +kernel
theorem dX1_mostLiked_104 : decode cX1_mostLiked 104 = .ok (.ireturn, 1) := by decide +kernel
theorem dX1_setLetters_0 : decode cX1_setLetters 0 = .ok (.aload_n 0, 1) := by decide +kernel
theorem dX1_setLetters_1 : decode cX1_setLetters 1 = .ok (.getfield 9, 3) := by decide +kernel
theorem dX1_setLetters_4 : decode cX1_setLetters 4 = .ok (.iconst 1, 1) := by decide +kernel
theorem dX1_setLetters_5 : decode cX1_setLetters 5 = .ok (.aload_n 1, 1) := by decide +kernel
theorem dX1_setLetters_6 : decode cX1_setLetters 6 = .ok (.getfield 52, 3) := by decide +kernel
theorem dX1_setLetters_9 : decode cX1_setLetters 9 = .ok (.iastore, 1) := by decide +kernel
theorem dX1_setLetters_10 : decode cX1_setLetters 10 = .ok (.aload_n 0, 1) := by decide +kernel
theorem dX1_setLetters_11 : decode cX1_setLetters 11 = .ok (.getfield 9, 3) := by decide +kernel
theorem dX1_setLetters_14 : decode cX1_setLetters 14 = .ok (.iconst 2, 1) := by decide +kernel
theorem dX1_setLetters_15 : decode cX1_setLetters 15 = .ok (.aload_n 1, 1) := by decide +kernel
theorem dX1_setLetters_16 : decode cX1_setLetters 16 = .ok (.getfield 79, 3) := by decide +kernel
theorem dX1_setLetters_19 : decode cX1_setLetters 19 = .ok (.iastore, 1) := by decide +kernel
theorem dX1_setLetters_20 : decode cX1_setLetters 20 = .ok (.aload_n 0, 1) := by decide +kernel
theorem dX1_setLetters_21 : decode cX1_setLetters 21 = .ok (.getfield 9, 3) := by decide +kernel
theorem dX1_setLetters_24 : decode cX1_setLetters 24 = .ok (.iconst 4, 1) := by decide +kernel
theorem dX1_setLetters_25 : decode cX1_setLetters 25 = .ok (.aload_n 1, 1) := by decide +kernel
theorem dX1_setLetters_26 : decode cX1_setLetters 26 = .ok (.getfield 45, 3) := by decide +kernel
theorem dX1_setLetters_29 : decode cX1_setLetters 29 = .ok (.iastore, 1) := by decide +kernel
theorem dX1_setLetters_30 : decode cX1_setLetters 30 = .ok (.aload_n 0, 1) := by decide +kernel
theorem dX1_setLetters_31 : decode cX1_setLetters 31 = .ok (.getfield 9, 3) := by decide +kernel
theorem dX1_setLetters_34 : decode cX1_setLetters 34 = .ok (.iconst 5, 1) := by decide +kernel
theorem dX1_setLetters_35 : decode cX1_setLetters 35 = .ok (.aload_n 1, 1) := by decide +kernel
theorem dX1_setLetters_36 : decode cX1_setLetters 36 = .ok (.getfield 82, 3) := by decide +kernel
theorem dX1_setLetters_39 : decode cX1_setLetters 39 = .ok (.bipush 100, 2) := by decide +kernel
theorem dX1_setLetters_41 : decode cX1_setLetters 41 = .ok (.irem, 1) := by decide +kernel
theorem dX1_setLetters_42 : decode cX1_setLetters 42 = .ok (.iastore, 1) := by decide +kernel
theorem dX1_setLetters_43 : decode cX1_setLetters 43 = .ok (.aload_n 0, 1) := by decide +kernel
theorem dX1_setLetters_44 : decode cX1_setLetters 44 = .ok (.getfield 9, 3) := by decide +kernel
theorem dX1_setLetters_47 : decode cX1_setLetters 47 = .ok (.bipush 6, 2) := by decide +kernel
theorem dX1_setLetters_49 : decode cX1_setLetters 49 = .ok (.aload_n 1, 1) := by decide +kernel
theorem dX1_setLetters_50 : decode cX1_setLetters 50 = .ok (.getfield 85, 3) := by decide +kernel
theorem dX1_setLetters_53 : decode cX1_setLetters 53 = .ok (.bipush 100, 2) := by decide +kernel
theorem dX1_setLetters_55 : decode cX1_setLetters 55 = .ok (.irem, 1) := by decide +kernel
theorem dX1_setLetters_56 : decode cX1_setLetters 56 = .ok (.iastore, 1) := by decide +kernel
theorem dX1_setLetters_57 : decode cX1_setLetters 57 = .ok (.aload_n 0, 1) := by decide +kernel
theorem dX1_setLetters_58 : decode cX1_setLetters 58 = .ok (.getfield 9, 3) := by decide +kernel
theorem dX1_setLetters_61 : decode cX1_setLetters 61 = .ok (.bipush 7, 2) := by decide +kernel
theorem dX1_setLetters_63 : decode cX1_setLetters 63 = .ok (.aload_n 1, 1) := by decide +kernel
theorem dX1_setLetters_64 : decode cX1_setLetters 64 = .ok (.getfield 22, 3) := by decide +kernel
theorem dX1_setLetters_67 : decode cX1_setLetters 67 = .ok (.bipush 100, 2) := by decide +kernel
theorem dX1_setLetters_69 : decode cX1_setLetters 69 = .ok (.irem, 1) := by decide +kernel
theorem dX1_setLetters_70 : decode cX1_setLetters 70 = .ok (.iastore, 1) := by decide +kernel
theorem dX1_setLetters_71 : decode cX1_setLetters 71 = .ok (.aload_n 0, 1) := by decide +kernel
theorem dX1_setLetters_72 : decode cX1_setLetters 72 = .ok (.getfield 9, 3) := by decide +kernel
theorem dX1_setLetters_75 : decode cX1_setLetters 75 = .ok (.bipush 8, 2) := by decide +kernel
theorem dX1_setLetters_77 : decode cX1_setLetters 77 = .ok (.iload_n 2, 1) := by decide +kernel
theorem dX1_setLetters_78 : decode cX1_setLetters 78 = .ok (.iastore, 1) := by decide +kernel
theorem dX1_setLetters_79 : decode cX1_setLetters 79 = .ok (.return_, 1) := by decide +kernel
theorem dX1_setQuestion_0 : decode cX1_setQuestion 0 = .ok (.aload_n 0, 1) := by decide +kernel
theorem dX1_setQuestion_1 : decode cX1_setQuestion 1 = .ok (.getfield 9, 3) := by decide +kernel
theorem dX1_setQuestion_4 : decode cX1_setQuestion 4 = .ok (.iconst 0, 1) := by decide +kernel
theorem dX1_setQuestion_5 : decode cX1_setQuestion 5 = .ok (.iload_n 1, 1) := by decide +kernel
theorem dX1_setQuestion_6 : decode cX1_setQuestion 6 = .ok (.iastore, 1) := by decide +kernel
theorem dX1_setQuestion_7 : decode cX1_setQuestion 7 = .ok (.aload_n 0, 1) := by decide +kernel
theorem dX1_setQuestion_8 : decode cX1_setQuestion 8 = .ok (.getfield 9, 3) := by decide +kernel
theorem dX1_setQuestion_11 : decode cX1_setQuestion 11 = .ok (.iconst 3, 1) := by decide +kernel
theorem dX1_setQuestion_12 : decode cX1_setQuestion 12 = .ok (.iload_n 2, 1) := by decide +kernel
theorem dX1_setQuestion_13 : decode cX1_setQuestion 13 = .ok (.iastore, 1) := by decide +kernel
theorem dX1_setQuestion_14 : decode cX1_setQuestion 14 = .ok (.return_, 1) := by decide +kernel
theorem dX2_firstNumber_0 : decode cX2_firstNumber 0 = .ok (.iconst 0, 1) := by decide +kernel
theorem dX2_firstNumber_1 : decode cX2_firstNumber 1 = .ok (.istore 4, 2) := by decide +kernel
theorem dX2_firstNumber_3 : decode cX2_firstNumber 3 = .ok (.iload 4, 2) := by decide +kernel
theorem dX2_firstNumber_5 : decode cX2_firstNumber 5 = .ok (.aload_n 0, 1) := by decide +kernel
theorem dX2_firstNumber_6 : decode cX2_firstNumber 6 = .ok (.getfield 30, 3) := by decide +kernel
theorem dX2_firstNumber_9 : decode cX2_firstNumber 9 = .ok (.if_icmp .ge 73, 3) := by decide +kernel
theorem dX2_firstNumber_12 : decode cX2_firstNumber 12 = .ok (.iload 4, 2) := by decide +kernel
theorem dX2_firstNumber_14 : decode cX2_firstNumber 14 = .ok (.bipush 16, 2) := by decide +kernel
theorem dX2_firstNumber_16 : decode cX2_firstNumber 16 = .ok (.if_icmp .ge 66, 3) := by decide +kernel
theorem dX2_firstNumber_19 : decode cX2_firstNumber 19 = .ok (.aload_n 0, 1) := by decide +kernel
theorem dX2_firstNumber_20 : decode cX2_firstNumber 20 = .ok (.getfield 11, 3) := by decide +kernel
theorem dX2_firstNumber_23 : decode cX2_firstNumber 23 = .ok (.iload 4, 2) := by decide +kernel
theorem dX2_firstNumber_25 : decode cX2_firstNumber 25 = .ok (.iaload, 1) := by decide +kernel
theorem dX2_firstNumber_26 : decode cX2_firstNumber 26 = .ok (.iload_n 1, 1) := by decide +kernel
theorem dX2_firstNumber_27 : decode cX2_firstNumber 27 = .ok (.if_icmp .ne 49, 3) := by decide +kernel
theorem dX2_firstNumber_30 : decode cX2_firstNumber 30 = .ok (.aload_n 0, 1) := by decide +kernel
theorem dX2_firstNumber_31 : decode cX2_firstNumber 31 = .ok (.iload 4, 2) := by decide +kernel
theorem dX2_firstNumber_33 : decode cX2_firstNumber 33 = .ok (.aload_n 2, 1) := by decide +kernel
theorem dX2_firstNumber_34 : decode cX2_firstNumber 34 = .ok (.invokevirtual 37, 3) := by decide +kernel
theorem dX2_firstNumber_37 : decode cX2_firstNumber 37 = .ok (.ifCond .eq 39, 3) := by decide +kernel
theorem dX2_firstNumber_40 : decode cX2_firstNumber 40 = .ok (.aload_n 0, 1) := by decide +kernel
theorem dX2_firstNumber_41 : decode cX2_firstNumber 41 = .ok (.aload_n 0, 1) := by decide +kernel
theorem dX2_firstNumber_42 : decode cX2_firstNumber 42 = .ok (.getfield 15, 3) := by decide +kernel
theorem dX2_firstNumber_45 : decode cX2_firstNumber 45 = .ok (.iload 4, 2) := by decide +kernel
theorem dX2_firstNumber_47 : decode cX2_firstNumber 47 = .ok (.iaload, 1) := by decide +kernel
theorem dX2_firstNumber_48 : decode cX2_firstNumber 48 = .ok (.aload_n 2, 1) := by decide +kernel
theorem dX2_firstNumber_49 : decode cX2_firstNumber 49 = .ok (.invokevirtual 41, 3) := by decide +kernel
theorem dX2_firstNumber_52 : decode cX2_firstNumber 52 = .ok (.istore 5, 2) := by decide +kernel
theorem dX2_firstNumber_54 : decode cX2_firstNumber 54 = .ok (.aload_n 0, 1) := by decide +kernel
theorem dX2_firstNumber_55 : decode cX2_firstNumber 55 = .ok (.getfield 45, 3) := by decide +kernel
theorem dX2_firstNumber_58 : decode cX2_firstNumber 58 = .ok (.ifCond .eq 7, 3) := by decide +kernel
theorem dX2_firstNumber_61 : decode cX2_firstNumber 61 = .ok (.iconst 0, 1) := by decide +kernel
theorem dX2_firstNumber_62 : decode cX2_firstNumber 62 = .ok (.goto 13, 3) := by decide +kernel
theorem dX2_firstNumber_65 : decode cX2_firstNumber 65 = .ok (.iconst 0, 1) := by decide +kernel
theorem dX2_firstNumber_66 : decode cX2_firstNumber 66 = .ok (.iload_n 3, 1) := by decide +kernel
theorem dX2_firstNumber_67 : decode cX2_firstNumber 67 = .ok (.iload 5, 2) := by decide +kernel
theorem dX2_firstNumber_69 : decode cX2_firstNumber 69 = .ok (.invokestatic 49, 3) := by decide +kernel
theorem dX2_firstNumber_72 : decode cX2_firstNumber 72 = .ok (.invokestatic 55, 3) := by decide +kernel
theorem dX2_firstNumber_75 : decode cX2_firstNumber 75 = .ok (.ireturn, 1) := by decide +kernel
theorem dX2_firstNumber_76 : decode cX2_firstNumber 76 = .ok (.iinc 4 1, 3) := by decide +kernel
theorem dX2_firstNumber_79 : decode cX2_firstNumber 79 = .ok (.goto (-76), 3) := by decide +kernel
theorem dX2_firstNumber_82 : decode cX2_firstNumber 82 = .ok (.iconst 0, 1) := by decide +kernel
theorem dX2_firstNumber_83 : decode cX2_firstNumber 83 = .ok (.ireturn, 1) := by decide +kernel
theorem dX2_isHeld_0 : decode cX2_isHeld 0 = .ok (.iload_n 1, 1) := by decide +kernel
theorem dX2_isHeld_1 : decode cX2_isHeld 1 = .ok (.ifCond .lt 13, 3) := by decide +kernel
theorem dX2_isHeld_4 : decode cX2_isHeld 4 = .ok (.iload_n 1, 1) := by decide +kernel
theorem dX2_isHeld_5 : decode cX2_isHeld 5 = .ok (.bipush 16, 2) := by decide +kernel
theorem dX2_isHeld_7 : decode cX2_isHeld 7 = .ok (.if_icmp .ge 7, 3) := by decide +kernel
theorem dX2_isHeld_10 : decode cX2_isHeld 10 = .ok (.iconst 1, 1) := by decide +kernel
theorem dX2_isHeld_11 : decode cX2_isHeld 11 = .ok (.goto 4, 3) := by decide +kernel
theorem dX2_isHeld_14 : decode cX2_isHeld 14 = .ok (.iconst 0, 1) := by decide +kernel
theorem dX2_isHeld_15 : decode cX2_isHeld 15 = .ok (.istore_n 3, 1) := by decide +kernel
theorem dX2_isHeld_16 : decode cX2_isHeld 16 = .ok (.iload_n 3, 1) := by decide +kernel
theorem dX2_isHeld_17 : decode cX2_isHeld 17 = .ok (.ifCond .eq 28, 3) := by decide +kernel
theorem dX2_isHeld_20 : decode cX2_isHeld 20 = .ok (.aload_n 0, 1) := by decide +kernel
theorem dX2_isHeld_21 : decode cX2_isHeld 21 = .ok (.aload_n 0, 1) := by decide +kernel
theorem dX2_isHeld_22 : decode cX2_isHeld 22 = .ok (.getfield 18, 3) := by decide +kernel
theorem dX2_isHeld_25 : decode cX2_isHeld 25 = .ok (.iload_n 1, 1) := by decide +kernel
theorem dX2_isHeld_26 : decode cX2_isHeld 26 = .ok (.iaload, 1) := by decide +kernel
theorem dX2_isHeld_27 : decode cX2_isHeld 27 = .ok (.aload_n 2, 1) := by decide +kernel
theorem dX2_isHeld_28 : decode cX2_isHeld 28 = .ok (.invokevirtual 41, 3) := by decide +kernel
theorem dX2_isHeld_31 : decode cX2_isHeld 31 = .ok (.ifCond .eq 14, 3) := by decide +kernel
theorem dX2_isHeld_34 : decode cX2_isHeld 34 = .ok (.aload_n 0, 1) := by decide +kernel
theorem dX2_isHeld_35 : decode cX2_isHeld 35 = .ok (.getfield 45, 3) := by decide +kernel
theorem dX2_isHeld_38 : decode cX2_isHeld 38 = .ok (.ifCond .ne 7, 3) := by decide +kernel
theorem dX2_isHeld_41 : decode cX2_isHeld 41 = .ok (.iconst 1, 1) := by decide +kernel
theorem dX2_isHeld_42 : decode cX2_isHeld 42 = .ok (.goto 4, 3) := by decide +kernel
theorem dX2_isHeld_45 : decode cX2_isHeld 45 = .ok (.iconst 0, 1) := by decide +kernel
theorem dX2_isHeld_46 : decode cX2_isHeld 46 = .ok (.ireturn, 1) := by decide +kernel
theorem dX2_reckon_0 : decode cX2_reckon 0 = .ok (.aload_n 0, 1) := by decide +kernel
theorem dX2_reckon_1 : decode cX2_reckon 1 = .ok (.iconst 0, 1) := by decide +kernel
theorem dX2_reckon_2 : decode cX2_reckon 2 = .ok (.putfield 58, 3) := by decide +kernel
theorem dX2_reckon_5 : decode cX2_reckon 5 = .ok (.aload_n 0, 1) := by decide +kernel
theorem dX2_reckon_6 : decode cX2_reckon 6 = .ok (.iconst 0, 1) := by decide +kernel
theorem dX2_reckon_7 : decode cX2_reckon 7 = .ok (.putfield 45, 3) := by decide +kernel
theorem dX2_reckon_10 : decode cX2_reckon 10 = .ok (.iconst 0, 1) := by decide +kernel
theorem dX2_reckon_11 : decode cX2_reckon 11 = .ok (.iload_n 1, 1) := by decide +kernel
theorem dX2_reckon_12 : decode cX2_reckon 12 = .ok (.invokestatic 55, 3) := by decide +kernel
theorem dX2_reckon_15 : decode cX2_reckon 15 = .ok (.istore_n 3, 1) := by decide +kernel
theorem dX2_reckon_16 : decode cX2_reckon 16 = .ok (.iload_n 3, 1) := by decide +kernel
theorem dX2_reckon_17 : decode cX2_reckon 17 = .ok (.aload_n 0, 1) := by decide +kernel
theorem dX2_reckon_18 : decode cX2_reckon 18 = .ok (.getfield 34, 3) := by decide +kernel
theorem dX2_reckon_21 : decode cX2_reckon 21 = .ok (.if_icmp .ge 209, 3) := by decide +kernel
theorem dX2_reckon_24 : decode cX2_reckon 24 = .ok (.iload_n 3, 1) := by decide +kernel
theorem dX2_reckon_25 : decode cX2_reckon 25 = .ok (.sipush 256, 3) := by decide +kernel
theorem dX2_reckon_28 : decode cX2_reckon 28 = .ok (.if_icmp .ge 202, 3) := by decide +kernel
theorem dX2_reckon_31 : decode cX2_reckon 31 = .ok (.aload_n 0, 1) := by decide +kernel
theorem dX2_reckon_32 : decode cX2_reckon 32 = .ok (.getfield 45, 3) := by decide +kernel
theorem dX2_reckon_35 : decode cX2_reckon 35 = .ok (.ifCond .ne 195, 3) := by decide +kernel
theorem dX2_reckon_38 : decode cX2_reckon 38 = .ok (.aload_n 0, 1) := by decide +kernel
theorem dX2_reckon_39 : decode cX2_reckon 39 = .ok (.getfield 24, 3) := by decide +kernel
theorem dX2_reckon_42 : decode cX2_reckon 42 = .ok (.iload_n 3, 1) := by decide +kernel
theorem dX2_reckon_43 : decode cX2_reckon 43 = .ok (.iaload, 1) := by decide +kernel
theorem dX2_reckon_44 : decode cX2_reckon 44 = .ok (.istore 4, 2) := by decide +kernel
theorem dX2_reckon_46 : decode cX2_reckon 46 = .ok (.aload_n 0, 1) := by decide +kernel
theorem dX2_reckon_47 : decode cX2_reckon 47 = .ok (.getfield 21, 3) := by decide +kernel
theorem dX2_reckon_50 : decode cX2_reckon 50 = .ok (.iload_n 3, 1) := by decide +kernel
theorem dX2_reckon_51 : decode cX2_reckon 51 = .ok (.iaload, 1) := by decide +kernel
theorem dX2_reckon_52 : decode cX2_reckon 52 = .ok (.tableswitch 146 0 5 #[40, 45, 54, 81, 94, 94], 40) := by decide +kernel
theorem dX2_reckon_92 : decode cX2_reckon 92 = .ok (.aload_n 0, 1) := by decide +kernel
theorem dX2_reckon_93 : decode cX2_reckon 93 = .ok (.invokevirtual 61, 3) := by decide +kernel
theorem dX2_reckon_96 : decode cX2_reckon 96 = .ok (.ireturn, 1) := by decide +kernel
theorem dX2_reckon_97 : decode cX2_reckon 97 = .ok (.aload_n 0, 1) := by decide +kernel
theorem dX2_reckon_98 : decode cX2_reckon 98 = .ok (.iload 4, 2) := by decide +kernel
theorem dX2_reckon_100 : decode cX2_reckon 100 = .ok (.invokevirtual 65, 3) := by decide +kernel
theorem dX2_reckon_103 : decode cX2_reckon 103 = .ok (.goto 121, 3) := by decide +kernel
theorem dX2_reckon_106 : decode cX2_reckon 106 = .ok (.aload_n 0, 1) := by decide +kernel
theorem dX2_reckon_107 : decode cX2_reckon 107 = .ok (.iload 4, 2) := by decide +kernel
theorem dX2_reckon_109 : decode cX2_reckon 109 = .ok (.ifCond .lt 17, 3) := by decide +kernel
theorem dX2_reckon_112 : decode cX2_reckon 112 = .ok (.iload 4, 2) := by decide +kernel
theorem dX2_reckon_114 : decode cX2_reckon 114 = .ok (.aload_n 2, 1) := by decide +kernel
theorem dX2_reckon_115 : decode cX2_reckon 115 = .ok (.arraylength, 1) := by decide +kernel
theorem dX2_reckon_116 : decode cX2_reckon 116 = .ok (.if_icmp .ge 10, 3) := by decide +kernel
theorem dX2_reckon_119 : decode cX2_reckon 119 = .ok (.aload_n 2, 1) := by decide +kernel
theorem dX2_reckon_120 : decode cX2_reckon 120 = .ok (.iload 4, 2) := by decide +kernel
theorem dX2_reckon_122 : decode cX2_reckon 122 = .ok (.iaload, 1) := by decide +kernel
theorem dX2_reckon_123 : decode cX2_reckon 123 = .ok (.goto 4, 3) := by decide +kernel
theorem dX2_reckon_126 : decode cX2_reckon 126 = .ok (.iconst 0, 1) := by decide +kernel
theorem dX2_reckon_127 : decode cX2_reckon 127 = .ok (.invokevirtual 65, 3) := by decide +kernel
theorem dX2_reckon_130 : decode cX2_reckon 130 = .ok (.goto 94, 3) := by decide +kernel
theorem dX2_reckon_133 : decode cX2_reckon 133 = .ok (.aload_n 0, 1) := by decide +kernel
theorem dX2_reckon_134 : decode cX2_reckon 134 = .ok (.iconst 1, 1) := by decide +kernel
theorem dX2_reckon_135 : decode cX2_reckon 135 = .ok (.aload_n 0, 1) := by decide +kernel
theorem dX2_reckon_136 : decode cX2_reckon 136 = .ok (.invokevirtual 61, 3) := by decide +kernel
theorem dX2_reckon_139 : decode cX2_reckon 139 = .ok (.isub, 1) := by decide +kernel
theorem dX2_reckon_140 : decode cX2_reckon 140 = .ok (.invokevirtual 65, 3) := by decide +kernel
theorem dX2_reckon_143 : decode cX2_reckon 143 = .ok (.goto 81, 3) := by decide +kernel
theorem dX2_reckon_146 : decode cX2_reckon 146 = .ok (.aload_n 0, 1) := by decide +kernel
theorem dX2_reckon_147 : decode cX2_reckon 147 = .ok (.invokevirtual 61, 3) := by decide +kernel
theorem dX2_reckon_150 : decode cX2_reckon 150 = .ok (.istore 5, 2) := by decide +kernel
theorem dX2_reckon_152 : decode cX2_reckon 152 = .ok (.iload 5, 2) := by decide +kernel
theorem dX2_reckon_154 : decode cX2_reckon 154 = .ok (.ifCond .eq 7, 3) := by decide +kernel
theorem dX2_reckon_157 : decode cX2_reckon 157 = .ok (.iconst 1, 1) := by decide +kernel
theorem dX2_reckon_158 : decode cX2_reckon 158 = .ok (.goto 4, 3) := by decide +kernel
theorem dX2_reckon_161 : decode cX2_reckon 161 = .ok (.iconst 0, 1) := by decide +kernel
theorem dX2_reckon_162 : decode cX2_reckon 162 = .ok (.aload_n 0, 1) := by decide +kernel
theorem dX2_reckon_163 : decode cX2_reckon 163 = .ok (.getfield 21, 3) := by decide +kernel
theorem dX2_reckon_166 : decode cX2_reckon 166 = .ok (.iload_n 3, 1) := by decide +kernel
theorem dX2_reckon_167 : decode cX2_reckon 167 = .ok (.iaload, 1) := by decide +kernel
theorem dX2_reckon_168 : decode cX2_reckon 168 = .ok (.iconst 4, 1) := by decide +kernel
theorem dX2_reckon_169 : decode cX2_reckon 169 = .ok (.if_icmp .ne 7, 3) := by decide +kernel
theorem dX2_reckon_172 : decode cX2_reckon 172 = .ok (.iconst 1, 1) := by decide +kernel
theorem dX2_reckon_173 : decode cX2_reckon 173 = .ok (.goto 4, 3) := by decide +kernel
theorem dX2_reckon_176 : decode cX2_reckon 176 = .ok (.iconst 0, 1) := by decide +kernel
theorem dX2_reckon_177 : decode cX2_reckon 177 = .ok (.if_icmp .ne 47, 3) := by decide +kernel
theorem dX2_reckon_180 : decode cX2_reckon 180 = .ok (.aload_n 0, 1) := by decide +kernel
theorem dX2_reckon_181 : decode cX2_reckon 181 = .ok (.iload 5, 2) := by decide +kernel
theorem dX2_reckon_183 : decode cX2_reckon 183 = .ok (.invokevirtual 65, 3) := by decide +kernel
theorem dX2_reckon_186 : decode cX2_reckon 186 = .ok (.iload_n 3, 1) := by decide +kernel
theorem dX2_reckon_187 : decode cX2_reckon 187 = .ok (.iload 4, 2) := by decide +kernel
theorem dX2_reckon_189 : decode cX2_reckon 189 = .ok (.iconst 1, 1) := by decide +kernel
theorem dX2_reckon_190 : decode cX2_reckon 190 = .ok (.isub, 1) := by decide +kernel
theorem dX2_reckon_191 : decode cX2_reckon 191 = .ok (.invokestatic 55, 3) := by decide +kernel
theorem dX2_reckon_194 : decode cX2_reckon 194 = .ok (.istore_n 3, 1) := by decide +kernel
theorem dX2_reckon_195 : decode cX2_reckon 195 = .ok (.goto 29, 3) := by decide +kernel
theorem dX2_reckon_198 : decode cX2_reckon 198 = .ok (.aload_n 0, 1) := by decide +kernel
theorem dX2_reckon_199 : decode cX2_reckon 199 = .ok (.invokevirtual 61, 3) := by decide +kernel
theorem dX2_reckon_202 : decode cX2_reckon 202 = .ok (.istore 6, 2) := by decide +kernel
theorem dX2_reckon_204 : decode cX2_reckon 204 = .ok (.aload_n 0, 1) := by decide +kernel
theorem dX2_reckon_205 : decode cX2_reckon 205 = .ok (.aload_n 0, 1) := by decide +kernel
theorem dX2_reckon_206 : decode cX2_reckon 206 = .ok (.aload_n 0, 1) := by decide +kernel
theorem dX2_reckon_207 : decode cX2_reckon 207 = .ok (.getfield 21, 3) := by decide +kernel
theorem dX2_reckon_210 : decode cX2_reckon 210 = .ok (.iload_n 3, 1) := by decide +kernel
theorem dX2_reckon_211 : decode cX2_reckon 211 = .ok (.iaload, 1) := by decide +kernel
theorem dX2_reckon_212 : decode cX2_reckon 212 = .ok (.aload_n 0, 1) := by decide +kernel
theorem dX2_reckon_213 : decode cX2_reckon 213 = .ok (.invokevirtual 61, 3) := by decide +kernel
theorem dX2_reckon_216 : decode cX2_reckon 216 = .ok (.iload 6, 2) := by decide +kernel
theorem dX2_reckon_218 : decode cX2_reckon 218 = .ok (.invokevirtual 69, 3) := by decide +kernel
theorem dX2_reckon_221 : decode cX2_reckon 221 = .ok (.invokevirtual 65, 3) := by decide +kernel
theorem dX2_reckon_224 : decode cX2_reckon 224 = .ok (.iinc 3 1, 3) := by decide +kernel
theorem dX2_reckon_227 : decode cX2_reckon 227 = .ok (.goto (-211), 3) := by decide +kernel
theorem dX2_reckon_230 : decode cX2_reckon 230 = .ok (.iconst 0, 1) := by decide +kernel
theorem dX2_reckon_231 : decode cX2_reckon 231 = .ok (.ireturn, 1) := by decide +kernel
theorem dX2_pop_0 : decode cX2_pop 0 = .ok (.aload_n 0, 1) := by decide +kernel
theorem dX2_pop_1 : decode cX2_pop 1 = .ok (.getfield 58, 3) := by decide +kernel
theorem dX2_pop_4 : decode cX2_pop 4 = .ok (.ifCond .le 12, 3) := by decide +kernel
theorem dX2_pop_7 : decode cX2_pop 7 = .ok (.aload_n 0, 1) := by decide +kernel
theorem dX2_pop_8 : decode cX2_pop 8 = .ok (.getfield 58, 3) := by decide +kernel
theorem dX2_pop_11 : decode cX2_pop 11 = .ok (.bipush 64, 2) := by decide +kernel
theorem dX2_pop_13 : decode cX2_pop 13 = .ok (.if_icmp .le 5, 3) := by decide +kernel
theorem dX2_pop_16 : decode cX2_pop 16 = .ok (.iconst 0, 1) := by decide +kernel
theorem dX2_pop_17 : decode cX2_pop 17 = .ok (.ireturn, 1) := by decide +kernel
theorem dX2_pop_18 : decode cX2_pop 18 = .ok (.aload_n 0, 1) := by decide +kernel
theorem dX2_pop_19 : decode cX2_pop 19 = .ok (.dup, 1) := by decide +kernel
theorem dX2_pop_20 : decode cX2_pop 20 = .ok (.getfield 58, 3) := by decide +kernel
theorem dX2_pop_23 : decode cX2_pop 23 = .ok (.iconst 1, 1) := by decide +kernel
theorem dX2_pop_24 : decode cX2_pop 24 = .ok (.isub, 1) := by decide +kernel
theorem dX2_pop_25 : decode cX2_pop 25 = .ok (.putfield 58, 3) := by decide +kernel
theorem dX2_pop_28 : decode cX2_pop 28 = .ok (.aload_n 0, 1) := by decide +kernel
theorem dX2_pop_29 : decode cX2_pop 29 = .ok (.getfield 27, 3) := by decide +kernel
theorem dX2_pop_32 : decode cX2_pop 32 = .ok (.aload_n 0, 1) := by decide +kernel
theorem dX2_pop_33 : decode cX2_pop 33 = .ok (.getfield 58, 3) := by decide +kernel
theorem dX2_pop_36 : decode cX2_pop 36 = .ok (.iaload, 1) := by decide +kernel
theorem dX2_pop_37 : decode cX2_pop 37 = .ok (.ireturn, 1) := by decide +kernel
theorem dX2_push_0 : decode cX2_push 0 = .ok (.aload_n 0, 1) := by decide +kernel
theorem dX2_push_1 : decode cX2_push 1 = .ok (.getfield 58, 3) := by decide +kernel
theorem dX2_push_4 : decode cX2_push 4 = .ok (.ifCond .lt 32, 3) := by decide +kernel
theorem dX2_push_7 : decode cX2_push 7 = .ok (.aload_n 0, 1) := by decide +kernel
theorem dX2_push_8 : decode cX2_push 8 = .ok (.getfield 58, 3) := by decide +kernel
theorem dX2_push_11 : decode cX2_push 11 = .ok (.bipush 64, 2) := by decide +kernel
theorem dX2_push_13 : decode cX2_push 13 = .ok (.if_icmp .ge 23, 3) := by decide +kernel
theorem dX2_push_16 : decode cX2_push 16 = .ok (.aload_n 0, 1) := by decide +kernel
theorem dX2_push_17 : decode cX2_push 17 = .ok (.getfield 27, 3) := by decide +kernel
theorem dX2_push_20 : decode cX2_push 20 = .ok (.aload_n 0, 1) := by decide +kernel
theorem dX2_push_21 : decode cX2_push 21 = .ok (.getfield 58, 3) := by decide +kernel
theorem dX2_push_24 : decode cX2_push 24 = .ok (.iload_n 1, 1) := by decide +kernel
theorem dX2_push_25 : decode cX2_push 25 = .ok (.iastore, 1) := by decide +kernel
theorem dX2_push_26 : decode cX2_push 26 = .ok (.aload_n 0, 1) := by decide +kernel
theorem dX2_push_27 : decode cX2_push 27 = .ok (.dup, 1) := by decide +kernel
theorem dX2_push_28 : decode cX2_push 28 = .ok (.getfield 58, 3) := by decide +kernel
theorem dX2_push_31 : decode cX2_push 31 = .ok (.iconst 1, 1) := by decide +kernel
theorem dX2_push_32 : decode cX2_push 32 = .ok (.iadd, 1) := by decide +kernel
theorem dX2_push_33 : decode cX2_push 33 = .ok (.putfield 58, 3) := by decide +kernel
theorem dX2_push_36 : decode cX2_push 36 = .ok (.return_, 1) := by decide +kernel
theorem dX2_join_0 : decode cX2_join 0 = .ok (.iload_n 1, 1) := by decide +kernel
theorem dX2_join_1 : decode cX2_join 1 = .ok (.lookupswitch 128 #[(37, 79), (42, 75), (43, 67), (45, 71), (47, 79), (60, 106), (62, 117)], 67) := by decide +kernel
theorem dX2_join_68 : decode cX2_join 68 = .ok (.iload_n 2, 1) := by decide +kernel
theorem dX2_join_69 : decode cX2_join 69 = .ok (.iload_n 3, 1) := by decide +kernel
theorem dX2_join_70 : decode cX2_join 70 = .ok (.iadd, 1) := by decide +kernel
theorem dX2_join_71 : decode cX2_join 71 = .ok (.ireturn, 1) := by decide +kernel
theorem dX2_join_72 : decode cX2_join 72 = .ok (.iload_n 2, 1) := by decide +kernel
theorem dX2_join_73 : decode cX2_join 73 = .ok (.iload_n 3, 1) := by decide +kernel
theorem dX2_join_74 : decode cX2_join 74 = .ok (.isub, 1) := by decide +kernel
theorem dX2_join_75 : decode cX2_join 75 = .ok (.ireturn, 1) := by decide +kernel
theorem dX2_join_76 : decode cX2_join 76 = .ok (.iload_n 2, 1) := by decide +kernel
theorem dX2_join_77 : decode cX2_join 77 = .ok (.iload_n 3, 1) := by decide +kernel
theorem dX2_join_78 : decode cX2_join 78 = .ok (.imul, 1) := by decide +kernel
theorem dX2_join_79 : decode cX2_join 79 = .ok (.ireturn, 1) := by decide +kernel
theorem dX2_join_80 : decode cX2_join 80 = .ok (.iload_n 3, 1) := by decide +kernel
theorem dX2_join_81 : decode cX2_join 81 = .ok (.ifCond .ne 10, 3) := by decide +kernel
theorem dX2_join_84 : decode cX2_join 84 = .ok (.aload_n 0, 1) := by decide +kernel
theorem dX2_join_85 : decode cX2_join 85 = .ok (.iconst 1, 1) := by decide +kernel
theorem dX2_join_86 : decode cX2_join 86 = .ok (.putfield 45, 3) := by decide +kernel
theorem dX2_join_89 : decode cX2_join 89 = .ok (.iconst 0, 1) := by decide +kernel
theorem dX2_join_90 : decode cX2_join 90 = .ok (.ireturn, 1) := by decide +kernel
theorem dX2_join_91 : decode cX2_join 91 = .ok (.iload_n 1, 1) := by decide +kernel
theorem dX2_join_92 : decode cX2_join 92 = .ok (.bipush 47, 2) := by decide +kernel
theorem dX2_join_94 : decode cX2_join 94 = .ok (.if_icmp .ne 9, 3) := by decide +kernel
theorem dX2_join_97 : decode cX2_join 97 = .ok (.iload_n 2, 1) := by decide +kernel
theorem dX2_join_98 : decode cX2_join 98 = .ok (.iload_n 3, 1) := by decide +kernel
theorem dX2_join_99 : decode cX2_join 99 = .ok (.idiv, 1) := by decide +kernel
theorem dX2_join_100 : decode cX2_join 100 = .ok (.goto 6, 3) := by decide +kernel
theorem dX2_join_103 : decode cX2_join 103 = .ok (.iload_n 2, 1) := by decide +kernel
theorem dX2_join_104 : decode cX2_join 104 = .ok (.iload_n 3, 1) := by decide +kernel
theorem dX2_join_105 : decode cX2_join 105 = .ok (.irem, 1) := by decide +kernel
theorem dX2_join_106 : decode cX2_join 106 = .ok (.ireturn, 1) := by decide +kernel
theorem dX2_join_107 : decode cX2_join 107 = .ok (.iload_n 2, 1) := by decide +kernel
theorem dX2_join_108 : decode cX2_join 108 = .ok (.iload_n 3, 1) := by decide +kernel
theorem dX2_join_109 : decode cX2_join 109 = .ok (.if_icmp .ge 7, 3) := by decide +kernel
theorem dX2_join_112 : decode cX2_join 112 = .ok (.iconst 1, 1) := by decide +kernel
theorem dX2_join_113 : decode cX2_join 113 = .ok (.goto 4, 3) := by decide +kernel
theorem dX2_join_116 : decode cX2_join 116 = .ok (.iconst 0, 1) := by decide +kernel
theorem dX2_join_117 : decode cX2_join 117 = .ok (.ireturn, 1) := by decide +kernel
theorem dX2_join_118 : decode cX2_join 118 = .ok (.iload_n 2, 1) := by decide +kernel
theorem dX2_join_119 : decode cX2_join 119 = .ok (.iload_n 3, 1) := by decide +kernel
theorem dX2_join_120 : decode cX2_join 120 = .ok (.if_icmp .le 7, 3) := by decide +kernel
theorem dX2_join_123 : decode cX2_join 123 = .ok (.iconst 1, 1) := by decide +kernel
theorem dX2_join_124 : decode cX2_join 124 = .ok (.goto 4, 3) := by decide +kernel
theorem dX2_join_127 : decode cX2_join 127 = .ok (.iconst 0, 1) := by decide +kernel
theorem dX2_join_128 : decode cX2_join 128 = .ok (.ireturn, 1) := by decide +kernel
theorem dX2_join_129 : decode cX2_join 129 = .ok (.iload_n 2, 1) := by decide +kernel
theorem dX2_join_130 : decode cX2_join 130 = .ok (.iload_n 3, 1) := by decide +kernel
theorem dX2_join_131 : decode cX2_join 131 = .ok (.if_icmp .ne 7, 3) := by decide +kernel
theorem dX2_join_134 : decode cX2_join 134 = .ok (.iconst 1, 1) := by decide +kernel
theorem dX2_join_135 : decode cX2_join 135 = .ok (.goto 4, 3) := by decide +kernel
theorem dX2_join_138 : decode cX2_join 138 = .ok (.iconst 0, 1) := by decide +kernel
theorem dX2_join_139 : decode cX2_join 139 = .ok (.ireturn, 1) := by decide +kernel
theorem dX2_holdsAny_0 : decode cX2_holdsAny 0 = .ok (.iconst 0, 1) := by decide +kernel
theorem dX2_holdsAny_1 : decode cX2_holdsAny 1 = .ok (.istore_n 3, 1) := by decide +kernel
theorem dX2_holdsAny_2 : decode cX2_holdsAny 2 = .ok (.iload_n 3, 1) := by decide +kernel
theorem dX2_holdsAny_3 : decode cX2_holdsAny 3 = .ok (.aload_n 0, 1) := by decide +kernel
theorem dX2_holdsAny_4 : decode cX2_holdsAny 4 = .ok (.getfield 30, 3) := by decide +kernel
theorem dX2_holdsAny_7 : decode cX2_holdsAny 7 = .ok (.if_icmp .ge 36, 3) := by decide +kernel
theorem dX2_holdsAny_10 : decode cX2_holdsAny 10 = .ok (.iload_n 3, 1) := by decide +kernel
theorem dX2_holdsAny_11 : decode cX2_holdsAny 11 = .ok (.bipush 16, 2) := by decide +kernel
theorem dX2_holdsAny_13 : decode cX2_holdsAny 13 = .ok (.if_icmp .ge 30, 3) := by decide +kernel
theorem dX2_holdsAny_16 : decode cX2_holdsAny 16 = .ok (.aload_n 0, 1) := by decide +kernel
theorem dX2_holdsAny_17 : decode cX2_holdsAny 17 = .ok (.getfield 11, 3) := by decide +kernel
theorem dX2_holdsAny_20 : decode cX2_holdsAny 20 = .ok (.iload_n 3, 1) := by decide +kernel
theorem dX2_holdsAny_21 : decode cX2_holdsAny 21 = .ok (.iaload, 1) := by decide +kernel
theorem dX2_holdsAny_22 : decode cX2_holdsAny 22 = .ok (.iload_n 1, 1) := by decide +kernel
theorem dX2_holdsAny_23 : decode cX2_holdsAny 23 = .ok (.if_icmp .ne 14, 3) := by decide +kernel
theorem dX2_holdsAny_26 : decode cX2_holdsAny 26 = .ok (.aload_n 0, 1) := by decide +kernel
theorem dX2_holdsAny_27 : decode cX2_holdsAny 27 = .ok (.iload_n 3, 1) := by decide +kernel
theorem dX2_holdsAny_28 : decode cX2_holdsAny 28 = .ok (.aload_n 2, 1) := by decide +kernel
theorem dX2_holdsAny_29 : decode cX2_holdsAny 29 = .ok (.invokevirtual 37, 3) := by decide +kernel
theorem dX2_holdsAny_32 : decode cX2_holdsAny 32 = .ok (.ifCond .eq 5, 3) := by decide +kernel
theorem dX2_holdsAny_35 : decode cX2_holdsAny 35 = .ok (.iconst 1, 1) := by decide +kernel
theorem dX2_holdsAny_36 : decode cX2_holdsAny 36 = .ok (.ireturn, 1) := by decide +kernel
theorem dX2_holdsAny_37 : decode cX2_holdsAny 37 = .ok (.iinc 3 1, 3) := by decide +kernel
theorem dX2_holdsAny_40 : decode cX2_holdsAny 40 = .ok (.goto (-38), 3) := by decide +kernel
theorem dX2_holdsAny_43 : decode cX2_holdsAny 43 = .ok (.iconst 0, 1) := by decide +kernel
theorem dX2_holdsAny_44 : decode cX2_holdsAny 44 = .ok (.ireturn, 1) := by decide +kernel
theorem dX11_tried_0 : decode cX11_tried 0 = .ok (.iload_n 1, 1) := by decide +kernel
theorem dX11_tried_1 : decode cX11_tried 1 = .ok (.iconst 1, 1) := by decide +kernel
theorem dX11_tried_2 : decode cX11_tried 2 = .ok (.if_icmp .lt 18, 3) := by decide +kernel
theorem dX11_tried_5 : decode cX11_tried 5 = .ok (.iload_n 1, 1) := by decide +kernel
theorem dX11_tried_6 : decode cX11_tried 6 = .ok (.bipush 100, 2) := by decide +kernel
theorem dX11_tried_8 : decode cX11_tried 8 = .ok (.if_icmp .gt 12, 3) := by decide +kernel
theorem dX11_tried_11 : decode cX11_tried 11 = .ok (.iload_n 2, 1) := by decide +kernel
theorem dX11_tried_12 : decode cX11_tried 12 = .ok (.ifCond .lt 8, 3) := by decide +kernel
theorem dX11_tried_15 : decode cX11_tried 15 = .ok (.iload_n 2, 1) := by decide +kernel
theorem dX11_tried_16 : decode cX11_tried 16 = .ok (.iconst 5, 1) := by decide +kernel
theorem dX11_tried_17 : decode cX11_tried 17 = .ok (.if_icmp .le 5, 3) := by decide +kernel
theorem dX11_tried_20 : decode cX11_tried 20 = .ok (.iconst (-1), 1) := by decide +kernel
theorem dX11_tried_21 : decode cX11_tried 21 = .ok (.ireturn, 1) := by decide +kernel
theorem dX11_tried_22 : decode cX11_tried 22 = .ok (.aload_n 0, 1) := by decide +kernel
theorem dX11_tried_23 : decode cX11_tried 23 = .ok (.getfield 36, 3) := by decide +kernel
theorem dX11_tried_26 : decode cX11_tried 26 = .ok (.aload_n 0, 1) := by decide +kernel
theorem dX11_tried_27 : decode cX11_tried 27 = .ok (.getfield 29, 3) := by decide +kernel
theorem dX11_tried_30 : decode cX11_tried 30 = .ok (.invokevirtual 172, 3) := by decide +kernel
theorem dX11_tried_33 : decode cX11_tried 33 = .ok (.aload_n 0, 1) := by decide +kernel
theorem dX11_tried_34 : decode cX11_tried 34 = .ok (.getfield 69, 3) := by decide +kernel
theorem dX11_tried_37 : decode cX11_tried 37 = .ok (.iload_n 1, 1) := by decide +kernel
theorem dX11_tried_38 : decode cX11_tried 38 = .ok (.aload_n 0, 1) := by decide +kernel
theorem dX11_tried_39 : decode cX11_tried 39 = .ok (.getfield 36, 3) := by decide +kernel
theorem dX11_tried_42 : decode cX11_tried 42 = .ok (.aload_n 0, 1) := by decide +kernel
theorem dX11_tried_43 : decode cX11_tried 43 = .ok (.getfield 42, 3) := by decide +kernel
theorem dX11_tried_46 : decode cX11_tried 46 = .ok (.aload_n 0, 1) := by decide +kernel
theorem dX11_tried_47 : decode cX11_tried 47 = .ok (.getfield 52, 3) := by decide +kernel
theorem dX11_tried_50 : decode cX11_tried 50 = .ok (.aload_n 0, 1) := by decide +kernel
theorem dX11_tried_51 : decode cX11_tried 51 = .ok (.getfield 16, 3) := by decide +kernel
theorem dX11_tried_54 : decode cX11_tried 54 = .ok (.invokevirtual 165, 3) := by decide +kernel
theorem dX11_tried_57 : decode cX11_tried 57 = .ok (.iload_n 2, 1) := by decide +kernel
theorem dX11_tried_58 : decode cX11_tried 58 = .ok (.tableswitch 74 0 4 #[34, 42, 50, 58, 66], 34) := by decide +kernel
theorem dX11_tried_92 : decode cX11_tried 92 = .ok (.aload_n 0, 1) := by decide +kernel
theorem dX11_tried_93 : decode cX11_tried 93 = .ok (.getfield 69, 3) := by decide +kernel
theorem dX11_tried_96 : decode cX11_tried 96 = .ok (.getfield 169, 3) := by decide +kernel
theorem dX11_tried_99 : decode cX11_tried 99 = .ok (.ireturn, 1) := by decide +kernel
theorem dX11_tried_100 : decode cX11_tried 100 = .ok (.aload_n 0, 1) := by decide +kernel
theorem dX11_tried_101 : decode cX11_tried 101 = .ok (.getfield 69, 3) := by decide +kernel
theorem dX11_tried_104 : decode cX11_tried 104 = .ok (.getfield 176, 3) := by decide +kernel
theorem dX11_tried_107 : decode cX11_tried 107 = .ok (.ireturn, 1) := by decide +kernel
theorem dX11_tried_108 : decode cX11_tried 108 = .ok (.aload_n 0, 1) := by decide +kernel
theorem dX11_tried_109 : decode cX11_tried 109 = .ok (.getfield 36, 3) := by decide +kernel
theorem dX11_tried_112 : decode cX11_tried 112 = .ok (.getfield 98, 3) := by decide +kernel
theorem dX11_tried_115 : decode cX11_tried 115 = .ok (.ireturn, 1) := by decide +kernel
theorem dX11_tried_116 : decode cX11_tried 116 = .ok (.aload_n 0, 1) := by decide +kernel
theorem dX11_tried_117 : decode cX11_tried 117 = .ok (.getfield 36, 3) := by decide +kernel
theorem dX11_tried_120 : decode cX11_tried 120 = .ok (.getfield 91, 3) := by decide +kernel
theorem dX11_tried_123 : decode cX11_tried 123 = .ok (.ireturn, 1) := by decide +kernel
theorem dX11_tried_124 : decode cX11_tried 124 = .ok (.aload_n 0, 1) := by decide +kernel
theorem dX11_tried_125 : decode cX11_tried 125 = .ok (.getfield 36, 3) := by decide +kernel
theorem dX11_tried_128 : decode cX11_tried 128 = .ok (.getfield 135, 3) := by decide +kernel
theorem dX11_tried_131 : decode cX11_tried 131 = .ok (.ireturn, 1) := by decide +kernel
theorem dX11_tried_132 : decode cX11_tried 132 = .ok (.aload_n 0, 1) := by decide +kernel
theorem dX11_tried_133 : decode cX11_tried 133 = .ok (.getfield 36, 3) := by decide +kernel
theorem dX11_tried_136 : decode cX11_tried 136 = .ok (.getfield 138, 3) := by decide +kernel
theorem dX11_tried_139 : decode cX11_tried 139 = .ok (.ireturn, 1) := by decide +kernel
theorem dX6_copyFrom_0 : decode cX6_copyFrom 0 = .ok (.aload_n 0, 1) := by decide +kernel
theorem dX6_copyFrom_1 : decode cX6_copyFrom 1 = .ok (.aload_n 1, 1) := by decide +kernel
theorem dX6_copyFrom_2 : decode cX6_copyFrom 2 = .ok (.getfield 21, 3) := by decide +kernel
theorem dX6_copyFrom_5 : decode cX6_copyFrom 5 = .ok (.putfield 21, 3) := by decide +kernel
theorem dX6_copyFrom_8 : decode cX6_copyFrom 8 = .ok (.aload_n 0, 1) := by decide +kernel
theorem dX6_copyFrom_9 : decode cX6_copyFrom 9 = .ok (.aload_n 1, 1) := by decide +kernel
theorem dX6_copyFrom_10 : decode cX6_copyFrom 10 = .ok (.getfield 24, 3) := by decide +kernel
theorem dX6_copyFrom_13 : decode cX6_copyFrom 13 = .ok (.putfield 24, 3) := by decide +kernel
theorem dX6_copyFrom_16 : decode cX6_copyFrom 16 = .ok (.aload_n 0, 1) := by decide +kernel
theorem dX6_copyFrom_17 : decode cX6_copyFrom 17 = .ok (.aload_n 1, 1) := by decide +kernel
theorem dX6_copyFrom_18 : decode cX6_copyFrom 18 = .ok (.getfield 9, 3) := by decide +kernel
theorem dX6_copyFrom_21 : decode cX6_copyFrom 21 = .ok (.putfield 9, 3) := by decide +kernel
theorem dX6_copyFrom_24 : decode cX6_copyFrom 24 = .ok (.aload_n 0, 1) := by decide +kernel
theorem dX6_copyFrom_25 : decode cX6_copyFrom 25 = .ok (.aload_n 1, 1) := by decide +kernel
theorem dX6_copyFrom_26 : decode cX6_copyFrom 26 = .ok (.getfield 15, 3) := by decide +kernel
theorem dX6_copyFrom_29 : decode cX6_copyFrom 29 = .ok (.putfield 15, 3) := by decide +kernel
theorem dX6_copyFrom_32 : decode cX6_copyFrom 32 = .ok (.aload_n 0, 1) := by decide +kernel
theorem dX6_copyFrom_33 : decode cX6_copyFrom 33 = .ok (.aload_n 1, 1) := by decide +kernel
theorem dX6_copyFrom_34 : decode cX6_copyFrom 34 = .ok (.getfield 27, 3) := by decide +kernel
theorem dX6_copyFrom_37 : decode cX6_copyFrom 37 = .ok (.putfield 27, 3) := by decide +kernel
theorem dX6_copyFrom_40 : decode cX6_copyFrom 40 = .ok (.aload_n 0, 1) := by decide +kernel
theorem dX6_copyFrom_41 : decode cX6_copyFrom 41 = .ok (.aload_n 1, 1) := by decide +kernel
theorem dX6_copyFrom_42 : decode cX6_copyFrom 42 = .ok (.getfield 30, 3) := by decide +kernel
theorem dX6_copyFrom_45 : decode cX6_copyFrom 45 = .ok (.putfield 30, 3) := by decide +kernel
theorem dX6_copyFrom_48 : decode cX6_copyFrom 48 = .ok (.aload_n 0, 1) := by decide +kernel
theorem dX6_copyFrom_49 : decode cX6_copyFrom 49 = .ok (.aload_n 1, 1) := by decide +kernel
theorem dX6_copyFrom_50 : decode cX6_copyFrom 50 = .ok (.getfield 33, 3) := by decide +kernel
theorem dX6_copyFrom_53 : decode cX6_copyFrom 53 = .ok (.putfield 33, 3) := by decide +kernel
theorem dX6_copyFrom_56 : decode cX6_copyFrom 56 = .ok (.aload_n 0, 1) := by decide +kernel
theorem dX6_copyFrom_57 : decode cX6_copyFrom 57 = .ok (.aload_n 1, 1) := by decide +kernel
theorem dX6_copyFrom_58 : decode cX6_copyFrom 58 = .ok (.getfield 18, 3) := by decide +kernel
theorem dX6_copyFrom_61 : decode cX6_copyFrom 61 = .ok (.putfield 18, 3) := by decide +kernel
theorem dX6_copyFrom_64 : decode cX6_copyFrom 64 = .ok (.return_, 1) := by decide +kernel
theorem dX11_askedAt_0 : decode cX11_askedAt 0 = .ok (.iload_n 1, 1) := by decide +kernel
theorem dX11_askedAt_1 : decode cX11_askedAt 1 = .ok (.invokestatic 95, 3) := by decide +kernel
theorem dX11_askedAt_4 : decode cX11_askedAt 4 = .ok (.ifCond .eq 21, 3) := by decide +kernel
theorem dX11_askedAt_7 : decode cX11_askedAt 7 = .ok (.aload_n 0, 1) := by decide +kernel
theorem dX11_askedAt_8 : decode cX11_askedAt 8 = .ok (.getfield 42, 3) := by decide +kernel
theorem dX11_askedAt_11 : decode cX11_askedAt 11 = .ok (.iload_n 2, 1) := by decide +kernel
theorem dX11_askedAt_12 : decode cX11_askedAt 12 = .ok (.invokevirtual 87, 3) := by decide +kernel
theorem dX11_askedAt_15 : decode cX11_askedAt 15 = .ok (.ifCond .eq 10, 3) := by decide +kernel
theorem dX11_askedAt_18 : decode cX11_askedAt 18 = .ok (.iload_n 3, 1) := by decide +kernel
theorem dX11_askedAt_19 : decode cX11_askedAt 19 = .ok (.invokestatic 179, 3) := by decide +kernel
theorem dX11_askedAt_22 : decode cX11_askedAt 22 = .ok (.ifCond .ne 5, 3) := by decide +kernel
theorem dX11_askedAt_25 : decode cX11_askedAt 25 = .ok (.iconst (-1), 1) := by decide +kernel
theorem dX11_askedAt_26 : decode cX11_askedAt 26 = .ok (.ireturn, 1) := by decide +kernel
theorem dX11_askedAt_27 : decode cX11_askedAt 27 = .ok (.iload_n 3, 1) := by decide +kernel
theorem dX11_askedAt_28 : decode cX11_askedAt 28 = .ok (.ifCond .ne 15, 3) := by decide +kernel
theorem dX11_askedAt_31 : decode cX11_askedAt 31 = .ok (.aload_n 0, 1) := by decide +kernel
theorem dX11_askedAt_32 : decode cX11_askedAt 32 = .ok (.getfield 42, 3) := by decide +kernel
theorem dX11_askedAt_35 : decode cX11_askedAt 35 = .ok (.iload_n 1, 1) := by decide +kernel
theorem dX11_askedAt_36 : decode cX11_askedAt 36 = .ok (.iload_n 2, 1) := by decide +kernel
theorem dX11_askedAt_37 : decode cX11_askedAt 37 = .ok (.invokevirtual 182, 3) := by decide +kernel
theorem dX11_askedAt_40 : decode cX11_askedAt 40 = .ok (.goto 12, 3) := by decide +kernel
theorem dX11_askedAt_43 : decode cX11_askedAt 43 = .ok (.aload_n 0, 1) := by decide +kernel
theorem dX11_askedAt_44 : decode cX11_askedAt 44 = .ok (.getfield 42, 3) := by decide +kernel
theorem dX11_askedAt_47 : decode cX11_askedAt 47 = .ok (.iload_n 1, 1) := by decide +kernel
theorem dX11_askedAt_48 : decode cX11_askedAt 48 = .ok (.iload_n 2, 1) := by decide +kernel
theorem dX11_askedAt_49 : decode cX11_askedAt 49 = .ok (.invokevirtual 186, 3) := by decide +kernel
theorem dX11_askedAt_52 : decode cX11_askedAt 52 = .ok (.ireturn, 1) := by decide +kernel
theorem dX11_isZeroOrOne_0 : decode cX11_isZeroOrOne 0 = .ok (.iload_n 0, 1) := by decide +kernel
theorem dX11_isZeroOrOne_1 : decode cX11_isZeroOrOne 1 = .ok (.ifCond .eq 8, 3) := by decide +kernel
theorem dX11_isZeroOrOne_4 : decode cX11_isZeroOrOne 4 = .ok (.iload_n 0, 1) := by decide +kernel
theorem dX11_isZeroOrOne_5 : decode cX11_isZeroOrOne 5 = .ok (.iconst 1, 1) := by decide +kernel
theorem dX11_isZeroOrOne_6 : decode cX11_isZeroOrOne 6 = .ok (.if_icmp .ne 7, 3) := by decide +kernel
theorem dX11_isZeroOrOne_9 : decode cX11_isZeroOrOne 9 = .ok (.iconst 1, 1) := by decide +kernel
theorem dX11_isZeroOrOne_10 : decode cX11_isZeroOrOne 10 = .ok (.goto 4, 3) := by decide +kernel
theorem dX11_isZeroOrOne_13 : decode cX11_isZeroOrOne 13 = .ok (.iconst 0, 1) := by decide +kernel
theorem dX11_isZeroOrOne_14 : decode cX11_isZeroOrOne 14 = .ok (.ireturn, 1) := by decide +kernel
theorem dX11_changePlaces_0 : decode cX11_changePlaces 0 = .ok (.iload_n 1, 1) := by decide +kernel
theorem dX11_changePlaces_1 : decode cX11_changePlaces 1 = .ok (.invokestatic 95, 3) := by decide +kernel
theorem dX11_changePlaces_4 : decode cX11_changePlaces 4 = .ok (.ifCond .eq 20, 3) := by decide +kernel
theorem dX11_changePlaces_7 : decode cX11_changePlaces 7 = .ok (.iload_n 2, 1) := by decide +kernel
theorem dX11_changePlaces_8 : decode cX11_changePlaces 8 = .ok (.invokestatic 95, 3) := by decide +kernel
theorem dX11_changePlaces_11 : decode cX11_changePlaces 11 = .ok (.ifCond .eq 13, 3) := by decide +kernel
theorem dX11_changePlaces_14 : decode cX11_changePlaces 14 = .ok (.aload_n 0, 1) := by decide +kernel
theorem dX11_changePlaces_15 : decode cX11_changePlaces 15 = .ok (.getfield 42, 3) := by decide +kernel
theorem dX11_changePlaces_18 : decode cX11_changePlaces 18 = .ok (.invokevirtual 144, 3) := by decide +kernel
theorem dX11_changePlaces_21 : decode cX11_changePlaces 21 = .ok (.ifCond .ne 5, 3) := by decide +kernel
theorem dX11_changePlaces_24 : decode cX11_changePlaces 24 = .ok (.iconst (-1), 1) := by decide +kernel
theorem dX11_changePlaces_25 : decode cX11_changePlaces 25 = .ok (.ireturn, 1) := by decide +kernel
theorem dX11_changePlaces_26 : decode cX11_changePlaces 26 = .ok (.aload_n 0, 1) := by decide +kernel
theorem dX11_changePlaces_27 : decode cX11_changePlaces 27 = .ok (.getfield 42, 3) := by decide +kernel
theorem dX11_changePlaces_30 : decode cX11_changePlaces 30 = .ok (.iload_n 1, 1) := by decide +kernel
theorem dX11_changePlaces_31 : decode cX11_changePlaces 31 = .ok (.iload_n 2, 1) := by decide +kernel
theorem dX11_changePlaces_32 : decode cX11_changePlaces 32 = .ok (.invokevirtual 189, 3) := by decide +kernel
theorem dX11_changePlaces_35 : decode cX11_changePlaces 35 = .ok (.ifCond .eq 7, 3) := by decide +kernel
theorem dX11_changePlaces_38 : decode cX11_changePlaces 38 = .ok (.iconst 1, 1) := by decide +kernel
theorem dX11_changePlaces_39 : decode cX11_changePlaces 39 = .ok (.goto 4, 3) := by decide +kernel
theorem dX11_changePlaces_42 : decode cX11_changePlaces 42 = .ok (.iconst 0, 1) := by decide +kernel
theorem dX11_changePlaces_43 : decode cX11_changePlaces 43 = .ok (.ireturn, 1) := by decide +kernel
theorem dX8_maySwap_0 : decode cX8_maySwap 0 = .ok (.iload_n 1, 1) := by decide +kernel
theorem dX8_maySwap_1 : decode cX8_maySwap 1 = .ok (.iload_n 2, 1) := by decide +kernel
theorem dX8_maySwap_2 : decode cX8_maySwap 2 = .ok (.if_icmp .ne 5, 3) := by decide +kernel
theorem dX8_maySwap_5 : decode cX8_maySwap 5 = .ok (.iconst 1, 1) := by decide +kernel
theorem dX8_maySwap_6 : decode cX8_maySwap 6 = .ok (.ireturn, 1) := by decide +kernel
theorem dX8_maySwap_7 : decode cX8_maySwap 7 = .ok (.iconst 0, 1) := by decide +kernel
theorem dX8_maySwap_8 : decode cX8_maySwap 8 = .ok (.istore_n 3, 1) := by decide +kernel
theorem dX8_maySwap_9 : decode cX8_maySwap 9 = .ok (.iload_n 3, 1) := by decide +kernel
theorem dX8_maySwap_10 : decode cX8_maySwap 10 = .ok (.aload_n 0, 1) := by decide +kernel
theorem dX8_maySwap_11 : decode cX8_maySwap 11 = .ok (.getfield 18, 3) := by decide +kernel
theorem dX8_maySwap_14 : decode cX8_maySwap 14 = .ok (.if_icmp .ge 68, 3) := by decide +kernel
theorem dX8_maySwap_17 : decode cX8_maySwap 17 = .ok (.aload_n 0, 1) := by decide +kernel
theorem dX8_maySwap_18 : decode cX8_maySwap 18 = .ok (.iload_n 2, 1) := by decide +kernel
theorem dX8_maySwap_19 : decode cX8_maySwap 19 = .ok (.aload_n 0, 1) := by decide +kernel
theorem dX8_maySwap_20 : decode cX8_maySwap 20 = .ok (.iload_n 1, 1) := by decide +kernel
theorem dX8_maySwap_21 : decode cX8_maySwap 21 = .ok (.iload_n 3, 1) := by decide +kernel
theorem dX8_maySwap_22 : decode cX8_maySwap 22 = .ok (.invokevirtual 26, 3) := by decide +kernel
theorem dX8_maySwap_25 : decode cX8_maySwap 25 = .ok (.invokevirtual 26, 3) := by decide +kernel
theorem dX8_maySwap_28 : decode cX8_maySwap 28 = .ok (.aload_n 0, 1) := by decide +kernel
theorem dX8_maySwap_29 : decode cX8_maySwap 29 = .ok (.iload_n 1, 1) := by decide +kernel
theorem dX8_maySwap_30 : decode cX8_maySwap 30 = .ok (.aload_n 0, 1) := by decide +kernel
theorem dX8_maySwap_31 : decode cX8_maySwap 31 = .ok (.iload_n 2, 1) := by decide +kernel
theorem dX8_maySwap_32 : decode cX8_maySwap 32 = .ok (.iload_n 3, 1) := by decide +kernel
theorem dX8_maySwap_33 : decode cX8_maySwap 33 = .ok (.invokevirtual 26, 3) := by decide +kernel
theorem dX8_maySwap_36 : decode cX8_maySwap 36 = .ok (.invokevirtual 26, 3) := by decide +kernel
theorem dX8_maySwap_39 : decode cX8_maySwap 39 = .ok (.if_icmp .ne 7, 3) := by decide +kernel
theorem dX8_maySwap_42 : decode cX8_maySwap 42 = .ok (.iconst 1, 1) := by decide +kernel
theorem dX8_maySwap_43 : decode cX8_maySwap 43 = .ok (.goto 4, 3) := by decide +kernel
theorem dX8_maySwap_46 : decode cX8_maySwap 46 = .ok (.iconst 0, 1) := by decide +kernel
theorem dX8_maySwap_47 : decode cX8_maySwap 47 = .ok (.istore 4, 2) := by decide +kernel
theorem dX8_maySwap_49 : decode cX8_maySwap 49 = .ok (.iload 4, 2) := by decide +kernel
theorem dX8_maySwap_51 : decode cX8_maySwap 51 = .ok (.ifCond .eq 23, 3) := by decide +kernel
theorem dX8_maySwap_54 : decode cX8_maySwap 54 = .ok (.aload_n 0, 1) := by decide +kernel
theorem dX8_maySwap_55 : decode cX8_maySwap 55 = .ok (.iload_n 1, 1) := by decide +kernel
theorem dX8_maySwap_56 : decode cX8_maySwap 56 = .ok (.iload_n 2, 1) := by decide +kernel
theorem dX8_maySwap_57 : decode cX8_maySwap 57 = .ok (.iload_n 3, 1) := by decide +kernel
theorem dX8_maySwap_58 : decode cX8_maySwap 58 = .ok (.invokevirtual 33, 3) := by decide +kernel
theorem dX8_maySwap_61 : decode cX8_maySwap 61 = .ok (.ifCond .eq 13, 3) := by decide +kernel
theorem dX8_maySwap_64 : decode cX8_maySwap 64 = .ok (.aload_n 0, 1) := by decide +kernel
theorem dX8_maySwap_65 : decode cX8_maySwap 65 = .ok (.iload_n 2, 1) := by decide +kernel
theorem dX8_maySwap_66 : decode cX8_maySwap 66 = .ok (.iload_n 1, 1) := by decide +kernel
theorem dX8_maySwap_67 : decode cX8_maySwap 67 = .ok (.iload_n 3, 1) := by decide +kernel
theorem dX8_maySwap_68 : decode cX8_maySwap 68 = .ok (.invokevirtual 33, 3) := by decide +kernel
theorem dX8_maySwap_71 : decode cX8_maySwap 71 = .ok (.ifCond .ne 5, 3) := by decide +kernel
theorem dX8_maySwap_74 : decode cX8_maySwap 74 = .ok (.iconst 0, 1) := by decide +kernel
theorem dX8_maySwap_75 : decode cX8_maySwap 75 = .ok (.ireturn, 1) := by decide +kernel
theorem dX8_maySwap_76 : decode cX8_maySwap 76 = .ok (.iinc 3 1, 3) := by decide +kernel
theorem dX8_maySwap_79 : decode cX8_maySwap 79 = .ok (.goto (-70), 3) := by decide +kernel
theorem dX8_maySwap_82 : decode cX8_maySwap 82 = .ok (.iconst 1, 1) := by decide +kernel
theorem dX8_maySwap_83 : decode cX8_maySwap 83 = .ok (.ireturn, 1) := by decide +kernel
theorem dX8_keepsAnswer_0 : decode cX8_keepsAnswer 0 = .ok (.aload_n 0, 1) := by decide +kernel
theorem dX8_keepsAnswer_1 : decode cX8_keepsAnswer 1 = .ok (.iload_n 2, 1) := by decide +kernel
theorem dX8_keepsAnswer_2 : decode cX8_keepsAnswer 2 = .ok (.aload_n 0, 1) := by decide +kernel
theorem dX8_keepsAnswer_3 : decode cX8_keepsAnswer 3 = .ok (.iload_n 1, 1) := by decide +kernel
theorem dX8_keepsAnswer_4 : decode cX8_keepsAnswer 4 = .ok (.iload_n 3, 1) := by decide +kernel
theorem dX8_keepsAnswer_5 : decode cX8_keepsAnswer 5 = .ok (.invokevirtual 26, 3) := by decide +kernel
theorem dX8_keepsAnswer_8 : decode cX8_keepsAnswer 8 = .ok (.invokevirtual 30, 3) := by decide +kernel
theorem dX8_keepsAnswer_11 : decode cX8_keepsAnswer 11 = .ok (.aload_n 0, 1) := by decide +kernel
theorem dX8_keepsAnswer_12 : decode cX8_keepsAnswer 12 = .ok (.iload_n 2, 1) := by decide +kernel
theorem dX8_keepsAnswer_13 : decode cX8_keepsAnswer 13 = .ok (.iload_n 3, 1) := by decide +kernel
theorem dX8_keepsAnswer_14 : decode cX8_keepsAnswer 14 = .ok (.invokevirtual 30, 3) := by decide +kernel
theorem dX8_keepsAnswer_17 : decode cX8_keepsAnswer 17 = .ok (.if_icmp .ne 7, 3) := by decide +kernel
theorem dX8_keepsAnswer_20 : decode cX8_keepsAnswer 20 = .ok (.iconst 1, 1) := by decide +kernel
theorem dX8_keepsAnswer_21 : decode cX8_keepsAnswer 21 = .ok (.goto 4, 3) := by decide +kernel
theorem dX8_keepsAnswer_24 : decode cX8_keepsAnswer 24 = .ok (.iconst 0, 1) := by decide +kernel
theorem dX8_keepsAnswer_25 : decode cX8_keepsAnswer 25 = .ok (.ireturn, 1) := by decide +kernel
theorem dX11_forms_0 : decode cX11_forms 0 = .ok (.iload_n 2, 1) := by decide +kernel
theorem dX11_forms_1 : decode cX11_forms 1 = .ok (.bipush 100, 2) := by decide +kernel
theorem dX11_forms_3 : decode cX11_forms 3 = .ok (.if_icmp .eq 12, 3) := by decide +kernel
theorem dX11_forms_6 : decode cX11_forms 6 = .ok (.iload_n 2, 1) := by decide +kernel
theorem dX11_forms_7 : decode cX11_forms 7 = .ok (.ifCond .lt 12, 3) := by decide +kernel
theorem dX11_forms_10 : decode cX11_forms 10 = .ok (.iload_n 2, 1) := by decide +kernel
theorem dX11_forms_11 : decode cX11_forms 11 = .ok (.iload_n 1, 1) := by decide +kernel
theorem dX11_forms_12 : decode cX11_forms 12 = .ok (.if_icmp .ge 7, 3) := by decide +kernel
theorem dX11_forms_15 : decode cX11_forms 15 = .ok (.iconst 1, 1) := by decide +kernel
theorem dX11_forms_16 : decode cX11_forms 16 = .ok (.goto 4, 3) := by decide +kernel
theorem dX11_forms_19 : decode cX11_forms 19 = .ok (.iconst 0, 1) := by decide +kernel
theorem dX11_forms_20 : decode cX11_forms 20 = .ok (.istore_n 3, 1) := by decide +kernel
theorem dX11_forms_21 : decode cX11_forms 21 = .ok (.iload_n 3, 1) := by decide +kernel
theorem dX11_forms_22 : decode cX11_forms 22 = .ok (.ifCond .eq 23, 3) := by decide +kernel
theorem dX11_forms_25 : decode cX11_forms 25 = .ok (.aload_n 0, 1) := by decide +kernel
theorem dX11_forms_26 : decode cX11_forms 26 = .ok (.iload_n 1, 1) := by decide +kernel
theorem dX11_forms_27 : decode cX11_forms 27 = .ok (.bipush 10, 2) := by decide +kernel
theorem dX11_forms_29 : decode cX11_forms 29 = .ok (.invokevirtual 108, 3) := by decide +kernel
theorem dX11_forms_32 : decode cX11_forms 32 = .ok (.ifCond .eq 13, 3) := by decide +kernel
theorem dX11_forms_35 : decode cX11_forms 35 = .ok (.aload_n 0, 1) := by decide +kernel
theorem dX11_forms_36 : decode cX11_forms 36 = .ok (.getfield 42, 3) := by decide +kernel
theorem dX11_forms_39 : decode cX11_forms 39 = .ok (.invokevirtual 144, 3) := by decide +kernel
theorem dX11_forms_42 : decode cX11_forms 42 = .ok (.ifCond .ne 5, 3) := by decide +kernel
theorem dX11_forms_45 : decode cX11_forms 45 = .ok (.iconst (-1), 1) := by decide +kernel
theorem dX11_forms_46 : decode cX11_forms 46 = .ok (.ireturn, 1) := by decide +kernel
theorem dX11_forms_47 : decode cX11_forms 47 = .ok (.aload_n 0, 1) := by decide +kernel
theorem dX11_forms_48 : decode cX11_forms 48 = .ok (.getfield 12, 3) := by decide +kernel
theorem dX11_forms_51 : decode cX11_forms 51 = .ok (.iconst 0, 1) := by decide +kernel
theorem dX11_forms_52 : decode cX11_forms 52 = .ok (.iload_n 1, 1) := by decide +kernel
theorem dX11_forms_53 : decode cX11_forms 53 = .ok (.bipush 8, 2) := by decide +kernel
theorem dX11_forms_55 : decode cX11_forms 55 = .ok (.invokevirtual 192, 3) := by decide +kernel
theorem dX11_forms_58 : decode cX11_forms 58 = .ok (.istore 4, 2) := by decide +kernel
theorem dX11_forms_60 : decode cX11_forms 60 = .ok (.iload 4, 2) := by decide +kernel
theorem dX11_forms_62 : decode cX11_forms 62 = .ok (.ifCond .eq 19, 3) := by decide +kernel
theorem dX11_forms_65 : decode cX11_forms 65 = .ok (.aload_n 0, 1) := by decide +kernel
theorem dX11_forms_66 : decode cX11_forms 66 = .ok (.getfield 83, 3) := by decide +kernel
theorem dX11_forms_69 : decode cX11_forms 69 = .ok (.aload_n 0, 1) := by decide +kernel
theorem dX11_forms_70 : decode cX11_forms 70 = .ok (.getfield 42, 3) := by decide +kernel
theorem dX11_forms_73 : decode cX11_forms 73 = .ok (.aload_n 0, 1) := by decide +kernel
theorem dX11_forms_74 : decode cX11_forms 74 = .ok (.getfield 12, 3) := by decide +kernel
theorem dX11_forms_77 : decode cX11_forms 77 = .ok (.iload_n 1, 1) := by decide +kernel
theorem dX11_forms_78 : decode cX11_forms 78 = .ok (.invokevirtual 196, 3) := by decide +kernel
theorem dX11_forms_81 : decode cX11_forms 81 = .ok (.aload_n 0, 1) := by decide +kernel
theorem dX11_forms_82 : decode cX11_forms 82 = .ok (.getfield 12, 3) := by decide +kernel
theorem dX11_forms_85 : decode cX11_forms 85 = .ok (.invokevirtual 121, 3) := by decide +kernel
theorem dX11_forms_88 : decode cX11_forms 88 = .ok (.iload 4, 2) := by decide +kernel
theorem dX11_forms_90 : decode cX11_forms 90 = .ok (.ifCond .ne 6, 3) := by decide +kernel
theorem dX11_forms_93 : decode cX11_forms 93 = .ok (.bipush (-3), 2) := by decide +kernel
theorem dX11_forms_95 : decode cX11_forms 95 = .ok (.ireturn, 1) := by decide +kernel
theorem dX11_forms_96 : decode cX11_forms 96 = .ok (.iload_n 2, 1) := by decide +kernel
theorem dX11_forms_97 : decode cX11_forms 97 = .ok (.bipush 100, 2) := by decide +kernel
theorem dX11_forms_99 : decode cX11_forms 99 = .ok (.if_icmp .ne 14, 3) := by decide +kernel
theorem dX11_forms_102 : decode cX11_forms 102 = .ok (.aload_n 0, 1) := by decide +kernel
theorem dX11_forms_103 : decode cX11_forms 103 = .ok (.getfield 83, 3) := by decide +kernel
theorem dX11_forms_106 : decode cX11_forms 106 = .ok (.iload_n 1, 1) := by decide +kernel
theorem dX11_forms_107 : decode cX11_forms 107 = .ok (.invokevirtual 200, 3) := by decide +kernel
theorem dX11_forms_110 : decode cX11_forms 110 = .ok (.goto 12, 3) := by decide +kernel
theorem dX11_forms_113 : decode cX11_forms 113 = .ok (.aload_n 0, 1) := by decide +kernel
theorem dX11_forms_114 : decode cX11_forms 114 = .ok (.getfield 83, 3) := by decide +kernel
theorem dX11_forms_117 : decode cX11_forms 117 = .ok (.iload_n 1, 1) := by decide +kernel
theorem dX11_forms_118 : decode cX11_forms 118 = .ok (.iload_n 2, 1) := by decide +kernel
theorem dX11_forms_119 : decode cX11_forms 119 = .ok (.invokevirtual 203, 3) := by decide +kernel
theorem dX11_forms_122 : decode cX11_forms 122 = .ok (.ireturn, 1) := by decide +kernel
theorem dX7_isBelow_0 : decode cX7_isBelow 0 = .ok (.iload_n 1, 1) := by decide +kernel
theorem dX7_isBelow_1 : decode cX7_isBelow 1 = .ok (.istore 4, 2) := by decide +kernel
theorem dX7_isBelow_3 : decode cX7_isBelow 3 = .ok (.iload 4, 2) := by decide +kernel
theorem dX7_isBelow_5 : decode cX7_isBelow 5 = .ok (.iload_n 2, 1) := by decide +kernel
theorem dX7_isBelow_6 : decode cX7_isBelow 6 = .ok (.if_icmp .ge 21, 3) := by decide +kernel
theorem dX7_isBelow_9 : decode cX7_isBelow 9 = .ok (.aload_n 0, 1) := by decide +kernel
theorem dX7_isBelow_10 : decode cX7_isBelow 10 = .ok (.iload 4, 2) := by decide +kernel
theorem dX7_isBelow_12 : decode cX7_isBelow 12 = .ok (.invokevirtual 19, 3) := by decide +kernel
theorem dX7_isBelow_15 : decode cX7_isBelow 15 = .ok (.iload_n 3, 1) := by decide +kernel
theorem dX7_isBelow_16 : decode cX7_isBelow 16 = .ok (.if_icmp .lt 5, 3) := by decide +kernel
theorem dX7_isBelow_19 : decode cX7_isBelow 19 = .ok (.iconst 0, 1) := by decide +kernel
theorem dX7_isBelow_20 : decode cX7_isBelow 20 = .ok (.ireturn, 1) := by decide +kernel
theorem dX7_isBelow_21 : decode cX7_isBelow 21 = .ok (.iinc 4 1, 3) := by decide +kernel
theorem dX7_isBelow_24 : decode cX7_isBelow 24 = .ok (.goto (-21), 3) := by decide +kernel
theorem dX7_isBelow_27 : decode cX7_isBelow 27 = .ok (.iconst 1, 1) := by decide +kernel
theorem dX7_isBelow_28 : decode cX7_isBelow 28 = .ok (.ireturn, 1) := by decide +kernel
theorem dX5_orderForms_0 : decode cX5_orderForms 0 = .ok (.iconst 0, 1) := by decide +kernel
theorem dX5_orderForms_1 : decode cX5_orderForms 1 = .ok (.istore 4, 2) := by decide +kernel
theorem dX5_orderForms_3 : decode cX5_orderForms 3 = .ok (.iload 4, 2) := by decide +kernel
theorem dX5_orderForms_5 : decode cX5_orderForms 5 = .ok (.iload_n 3, 1) := by decide +kernel
theorem dX5_orderForms_6 : decode cX5_orderForms 6 = .ok (.if_icmp .ge 105, 3) := by decide +kernel
theorem dX5_orderForms_9 : decode cX5_orderForms 9 = .ok (.iload 4, 2) := by decide +kernel
theorem dX5_orderForms_11 : decode cX5_orderForms 11 = .ok (.bipush 10, 2) := by decide +kernel
theorem dX5_orderForms_13 : decode cX5_orderForms 13 = .ok (.if_icmp .ge 98, 3) := by decide +kernel
theorem dX5_orderForms_16 : decode cX5_orderForms 16 = .ok (.aload_n 0, 1) := by decide +kernel
theorem dX5_orderForms_17 : decode cX5_orderForms 17 = .ok (.getfield 24, 3) := by decide +kernel
theorem dX5_orderForms_20 : decode cX5_orderForms 20 = .ok (.iload 4, 2) := by decide +kernel
theorem dX5_orderForms_22 : decode cX5_orderForms 22 = .ok (.aload_n 2, 1) := by decide +kernel
theorem dX5_orderForms_23 : decode cX5_orderForms 23 = .ok (.iload 4, 2) := by decide +kernel
theorem dX5_orderForms_25 : decode cX5_orderForms 25 = .ok (.invokevirtual 30, 3) := by decide +kernel
theorem dX5_orderForms_28 : decode cX5_orderForms 28 = .ok (.iastore, 1) := by decide +kernel
theorem dX5_orderForms_29 : decode cX5_orderForms 29 = .ok (.aload_n 0, 1) := by decide +kernel
theorem dX5_orderForms_30 : decode cX5_orderForms 30 = .ok (.getfield 27, 3) := by decide +kernel
theorem dX5_orderForms_33 : decode cX5_orderForms 33 = .ok (.iload 4, 2) := by decide +kernel
theorem dX5_orderForms_35 : decode cX5_orderForms 35 = .ok (.iconst 0, 1) := by decide +kernel
theorem dX5_orderForms_36 : decode cX5_orderForms 36 = .ok (.iastore, 1) := by decide +kernel
theorem dX5_orderForms_37 : decode cX5_orderForms 37 = .ok (.iconst 0, 1) := by decide +kernel
theorem dX5_orderForms_38 : decode cX5_orderForms 38 = .ok (.istore 5, 2) := by decide +kernel
theorem dX5_orderForms_40 : decode cX5_orderForms 40 = .ok (.iload 5, 2) := by decide +kernel
theorem dX5_orderForms_42 : decode cX5_orderForms 42 = .ok (.iload 4, 2) := by decide +kernel
theorem dX5_orderForms_44 : decode cX5_orderForms 44 = .ok (.if_icmp .ge 61, 3) := by decide +kernel
theorem dX5_orderForms_47 : decode cX5_orderForms 47 = .ok (.aload_n 0, 1) := by decide +kernel
theorem dX5_orderForms_48 : decode cX5_orderForms 48 = .ok (.getfield 24, 3) := by decide +kernel
theorem dX5_orderForms_51 : decode cX5_orderForms 51 = .ok (.iload 5, 2) := by decide +kernel
theorem dX5_orderForms_53 : decode cX5_orderForms 53 = .ok (.iaload, 1) := by decide +kernel
theorem dX5_orderForms_54 : decode cX5_orderForms 54 = .ok (.aload_n 0, 1) := by decide +kernel
theorem dX5_orderForms_55 : decode cX5_orderForms 55 = .ok (.getfield 24, 3) := by decide +kernel
theorem dX5_orderForms_58 : decode cX5_orderForms 58 = .ok (.iload 4, 2) := by decide +kernel
theorem dX5_orderForms_60 : decode cX5_orderForms 60 = .ok (.iaload, 1) := by decide +kernel
theorem dX5_orderForms_61 : decode cX5_orderForms 61 = .ok (.if_icmp .eq 24, 3) := by decide +kernel
theorem dX5_orderForms_64 : decode cX5_orderForms 64 = .ok (.aload_n 1, 1) := by decide +kernel
theorem dX5_orderForms_65 : decode cX5_orderForms 65 = .ok (.aload_n 0, 1) := by decide +kernel
theorem dX5_orderForms_66 : decode cX5_orderForms 66 = .ok (.getfield 24, 3) := by decide +kernel
theorem dX5_orderForms_69 : decode cX5_orderForms 69 = .ok (.iload 5, 2) := by decide +kernel
theorem dX5_orderForms_71 : decode cX5_orderForms 71 = .ok (.iaload, 1) := by decide +kernel
theorem dX5_orderForms_72 : decode cX5_orderForms 72 = .ok (.aload_n 0, 1) := by decide +kernel
theorem dX5_orderForms_73 : decode cX5_orderForms 73 = .ok (.getfield 24, 3) := by decide +kernel
theorem dX5_orderForms_76 : decode cX5_orderForms 76 = .ok (.iload 4, 2) := by decide +kernel
theorem dX5_orderForms_78 : decode cX5_orderForms 78 = .ok (.iaload, 1) := by decide +kernel
theorem dX5_orderForms_79 : decode cX5_orderForms 79 = .ok (.invokevirtual 36, 3) := by decide +kernel
theorem dX5_orderForms_82 : decode cX5_orderForms 82 = .ok (.ifCond .ne 17, 3) := by decide +kernel
theorem dX5_orderForms_85 : decode cX5_orderForms 85 = .ok (.aload_n 0, 1) := by decide +kernel
theorem dX5_orderForms_86 : decode cX5_orderForms 86 = .ok (.getfield 27, 3) := by decide +kernel
theorem dX5_orderForms_89 : decode cX5_orderForms 89 = .ok (.iload 4, 2) := by decide +kernel
theorem dX5_orderForms_91 : decode cX5_orderForms 91 = .ok (.dup2, 1) := by decide +kernel
theorem dX5_orderForms_92 : decode cX5_orderForms 92 = .ok (.iaload, 1) := by decide +kernel
theorem dX5_orderForms_93 : decode cX5_orderForms 93 = .ok (.iconst 1, 1) := by decide +kernel
theorem dX5_orderForms_94 : decode cX5_orderForms 94 = .ok (.iload 5, 2) := by decide +kernel
theorem dX5_orderForms_96 : decode cX5_orderForms 96 = .ok (.ishl, 1) := by decide +kernel
theorem dX5_orderForms_97 : decode cX5_orderForms 97 = .ok (.ior, 1) := by decide +kernel
theorem dX5_orderForms_98 : decode cX5_orderForms 98 = .ok (.iastore, 1) := by decide +kernel
theorem dX5_orderForms_99 : decode cX5_orderForms 99 = .ok (.iinc 5 1, 3) := by decide +kernel
theorem dX5_orderForms_102 : decode cX5_orderForms 102 = .ok (.goto (-62), 3) := by decide +kernel
theorem dX5_orderForms_105 : decode cX5_orderForms 105 = .ok (.iinc 4 1, 3) := by decide +kernel
theorem dX5_orderForms_108 : decode cX5_orderForms 108 = .ok (.goto (-105), 3) := by decide +kernel
theorem dX5_orderForms_111 : decode cX5_orderForms 111 = .ok (.return_, 1) := by decide +kernel
theorem dX5_countForms_0 : decode cX5_countForms 0 = .ok (.iconst 0, 1) := by decide +kernel
theorem dX5_countForms_1 : decode cX5_countForms 1 = .ok (.iload_n 1, 1) := by decide +kernel
theorem dX5_countForms_2 : decode cX5_countForms 2 = .ok (.bipush 10, 2) := by decide +kernel
theorem dX5_countForms_4 : decode cX5_countForms 4 = .ok (.invokestatic 42, 3) := by decide +kernel
theorem dX5_countForms_7 : decode cX5_countForms 7 = .ok (.invokestatic 48, 3) := by decide +kernel
theorem dX5_countForms_10 : decode cX5_countForms 10 = .ok (.istore_n 2, 1) := by decide +kernel
theorem dX5_countForms_11 : decode cX5_countForms 11 = .ok (.iconst 1, 1) := by decide +kernel
theorem dX5_countForms_12 : decode cX5_countForms 12 = .ok (.iload_n 2, 1) := by decide +kernel
theorem dX5_countForms_13 : decode cX5_countForms 13 = .ok (.ishl, 1) := by decide +kernel
theorem dX5_countForms_14 : decode cX5_countForms 14 = .ok (.iconst 1, 1) := by decide +kernel
theorem dX5_countForms_15 : decode cX5_countForms 15 = .ok (.isub, 1) := by decide +kernel
theorem dX5_countForms_16 : decode cX5_countForms 16 = .ok (.istore_n 3, 1) := by decide +kernel
theorem dX5_countForms_17 : decode cX5_countForms 17 = .ok (.aload_n 0, 1) := by decide +kernel
theorem dX5_countForms_18 : decode cX5_countForms 18 = .ok (.getfield 15, 3) := by decide +kernel
theorem dX5_countForms_21 : decode cX5_countForms 21 = .ok (.iconst 0, 1) := by decide +kernel
theorem dX5_countForms_22 : decode cX5_countForms 22 = .ok (.invokestatic 51, 3) := by decide +kernel
theorem dX5_countForms_25 : decode cX5_countForms 25 = .ok (.aload_n 0, 1) := by decide +kernel
theorem dX5_countForms_26 : decode cX5_countForms 26 = .ok (.getfield 15, 3) := by decide +kernel
theorem dX5_countForms_29 : decode cX5_countForms 29 = .ok (.iconst 0, 1) := by decide +kernel
theorem dX5_countForms_30 : decode cX5_countForms 30 = .ok (.iconst 1, 1) := by decide +kernel
theorem dX5_countForms_31 : decode cX5_countForms 31 = .ok (.iastore, 1) := by decide +kernel
theorem dX5_countForms_32 : decode cX5_countForms 32 = .ok (.iconst 0, 1) := by decide +kernel
theorem dX5_countForms_33 : decode cX5_countForms 33 = .ok (.istore 4, 2) := by decide +kernel
theorem dX5_countForms_35 : decode cX5_countForms 35 = .ok (.iload 4, 2) := by decide +kernel
theorem dX5_countForms_37 : decode cX5_countForms 37 = .ok (.iload_n 3, 1) := by decide +kernel
theorem dX5_countForms_38 : decode cX5_countForms 38 = .ok (.if_icmp .ge 98, 3) := by decide +kernel
theorem dX5_countForms_41 : decode cX5_countForms 41 = .ok (.iload 4, 2) := by decide +kernel
theorem dX5_countForms_43 : decode cX5_countForms 43 = .ok (.sipush 1024, 3) := by decide +kernel
theorem dX5_countForms_46 : decode cX5_countForms 46 = .ok (.if_icmp .ge 90, 3) := by decide +kernel
theorem dX5_countForms_49 : decode cX5_countForms 49 = .ok (.iconst 0, 1) := by decide +kernel
theorem dX5_countForms_50 : decode cX5_countForms 50 = .ok (.istore 5, 2) := by decide +kernel
theorem dX5_countForms_52 : decode cX5_countForms 52 = .ok (.iload 5, 2) := by decide +kernel
theorem dX5_countForms_54 : decode cX5_countForms 54 = .ok (.iload_n 2, 1) := by decide +kernel
theorem dX5_countForms_55 : decode cX5_countForms 55 = .ok (.if_icmp .ge 75, 3) := by decide +kernel
theorem dX5_countForms_58 : decode cX5_countForms 58 = .ok (.aload_n 0, 1) := by decide +kernel
theorem dX5_countForms_59 : decode cX5_countForms 59 = .ok (.getfield 15, 3) := by decide +kernel
theorem dX5_countForms_62 : decode cX5_countForms 62 = .ok (.iload 4, 2) := by decide +kernel
theorem dX5_countForms_64 : decode cX5_countForms 64 = .ok (.iaload, 1) := by decide +kernel
theorem dX5_countForms_65 : decode cX5_countForms 65 = .ok (.ifCond .eq 65, 3) := by decide +kernel
theorem dX5_countForms_68 : decode cX5_countForms 68 = .ok (.iload 4, 2) := by decide +kernel
theorem dX5_countForms_70 : decode cX5_countForms 70 = .ok (.iconst 1, 1) := by decide +kernel
theorem dX5_countForms_71 : decode cX5_countForms 71 = .ok (.iload 5, 2) := by decide +kernel
theorem dX5_countForms_73 : decode cX5_countForms 73 = .ok (.ishl, 1) := by decide +kernel
theorem dX5_countForms_74 : decode cX5_countForms 74 = .ok (.ior, 1) := by decide +kernel
theorem dX5_countForms_75 : decode cX5_countForms 75 = .ok (.istore 6, 2) := by decide +kernel
theorem dX5_countForms_77 : decode cX5_countForms 77 = .ok (.iload 6, 2) := by decide +kernel
theorem dX5_countForms_79 : decode cX5_countForms 79 = .ok (.iload 4, 2) := by decide +kernel
theorem dX5_countForms_81 : decode cX5_countForms 81 = .ok (.if_icmp .eq 43, 3) := by decide +kernel
theorem dX5_countForms_84 : decode cX5_countForms 84 = .ok (.aload_n 0, 1) := by decide +kernel
theorem dX5_countForms_85 : decode cX5_countForms 85 = .ok (.getfield 27, 3) := by decide +kernel
theorem dX5_countForms_88 : decode cX5_countForms 88 = .ok (.iload 5, 2) := by decide +kernel
theorem dX5_countForms_90 : decode cX5_countForms 90 = .ok (.iaload, 1) := by decide +kernel
theorem dX5_countForms_91 : decode cX5_countForms 91 = .ok (.iload 4, 2) := by decide +kernel
theorem dX5_countForms_93 : decode cX5_countForms 93 = .ok (.iconst (-1), 1) := by decide +kernel
theorem dX5_countForms_94 : decode cX5_countForms 94 = .ok (.ixor, 1) := by decide +kernel
theorem dX5_countForms_95 : decode cX5_countForms 95 = .ok (.iand, 1) := by decide +kernel
theorem dX5_countForms_96 : decode cX5_countForms 96 = .ok (.ifCond .ne 28, 3) := by decide +kernel
theorem dX5_countForms_99 : decode cX5_countForms 99 = .ok (.iload 6, 2) := by decide +kernel
theorem dX5_countForms_101 : decode cX5_countForms 101 = .ok (.sipush 1024, 3) := by decide +kernel
theorem dX5_countForms_104 : decode cX5_countForms 104 = .ok (.if_icmp .ge 20, 3) := by decide +kernel
theorem dX5_countForms_107 : decode cX5_countForms 107 = .ok (.aload_n 0, 1) := by decide +kernel
theorem dX5_countForms_108 : decode cX5_countForms 108 = .ok (.getfield 15, 3) := by decide +kernel
theorem dX5_countForms_111 : decode cX5_countForms 111 = .ok (.iload 6, 2) := by decide +kernel
theorem dX5_countForms_113 : decode cX5_countForms 113 = .ok (.dup2, 1) := by decide +kernel
theorem dX5_countForms_114 : decode cX5_countForms 114 = .ok (.iaload, 1) := by decide +kernel
theorem dX5_countForms_115 : decode cX5_countForms 115 = .ok (.aload_n 0, 1) := by decide +kernel
theorem dX5_countForms_116 : decode cX5_countForms 116 = .ok (.getfield 15, 3) := by decide +kernel
theorem dX5_countForms_119 : decode cX5_countForms 119 = .ok (.iload 4, 2) := by decide +kernel
theorem dX5_countForms_121 : decode cX5_countForms 121 = .ok (.iaload, 1) := by decide +kernel
theorem dX5_countForms_122 : decode cX5_countForms 122 = .ok (.iadd, 1) := by decide +kernel
theorem dX5_countForms_123 : decode cX5_countForms 123 = .ok (.iastore, 1) := by decide +kernel
theorem dX5_countForms_124 : decode cX5_countForms 124 = .ok (.iinc 5 1, 3) := by decide +kernel
theorem dX5_countForms_127 : decode cX5_countForms 127 = .ok (.goto (-75), 3) := by decide +kernel
theorem dX5_countForms_130 : decode cX5_countForms 130 = .ok (.iinc 4 1, 3) := by decide +kernel
theorem dX5_countForms_133 : decode cX5_countForms 133 = .ok (.goto (-98), 3) := by decide +kernel
theorem dX5_countForms_136 : decode cX5_countForms 136 = .ok (.iload_n 3, 1) := by decide +kernel
theorem dX5_countForms_137 : decode cX5_countForms 137 = .ok (.sipush 1024, 3) := by decide +kernel
theorem dX5_countForms_140 : decode cX5_countForms 140 = .ok (.if_icmp .ge 12, 3) := by decide +kernel
theorem dX5_countForms_143 : decode cX5_countForms 143 = .ok (.aload_n 0, 1) := by decide +kernel
theorem dX5_countForms_144 : decode cX5_countForms 144 = .ok (.getfield 15, 3) := by decide +kernel
theorem dX5_countForms_147 : decode cX5_countForms 147 = .ok (.iload_n 3, 1) := by decide +kernel
theorem dX5_countForms_148 : decode cX5_countForms 148 = .ok (.iaload, 1) := by decide +kernel
theorem dX5_countForms_149 : decode cX5_countForms 149 = .ok (.goto 4, 3) := by decide +kernel
theorem dX5_countForms_152 : decode cX5_countForms 152 = .ok (.iconst 0, 1) := by decide +kernel
theorem dX5_countForms_153 : decode cX5_countForms 153 = .ok (.ireturn, 1) := by decide +kernel
theorem dX5_firstForm_0 : decode cX5_firstForm 0 = .ok (.iconst 0, 1) := by decide +kernel
theorem dX5_firstForm_1 : decode cX5_firstForm 1 = .ok (.istore_n 3, 1) := by decide +kernel
theorem dX5_firstForm_2 : decode cX5_firstForm 2 = .ok (.iconst (-1), 1) := by decide +kernel
theorem dX5_firstForm_3 : decode cX5_firstForm 3 = .ok (.istore 4, 2) := by decide +kernel
theorem dX5_firstForm_5 : decode cX5_firstForm 5 = .ok (.iconst 0, 1) := by decide +kernel
theorem dX5_firstForm_6 : decode cX5_firstForm 6 = .ok (.istore 5, 2) := by decide +kernel
theorem dX5_firstForm_8 : decode cX5_firstForm 8 = .ok (.iload 5, 2) := by decide +kernel
theorem dX5_firstForm_10 : decode cX5_firstForm 10 = .ok (.iload_n 2, 1) := by decide +kernel
theorem dX5_firstForm_11 : decode cX5_firstForm 11 = .ok (.if_icmp .gt 117, 3) := by decide +kernel
theorem dX5_firstForm_14 : decode cX5_firstForm 14 = .ok (.iload 5, 2) := by decide +kernel
theorem dX5_firstForm_16 : decode cX5_firstForm 16 = .ok (.iload_n 1, 1) := by decide +kernel
theorem dX5_firstForm_17 : decode cX5_firstForm 17 = .ok (.if_icmp .ge 111, 3) := by decide +kernel
theorem dX5_firstForm_20 : decode cX5_firstForm 20 = .ok (.iconst (-1), 1) := by decide +kernel
theorem dX5_firstForm_21 : decode cX5_firstForm 21 = .ok (.istore 4, 2) := by decide +kernel
theorem dX5_firstForm_23 : decode cX5_firstForm 23 = .ok (.iconst 0, 1) := by decide +kernel
theorem dX5_firstForm_24 : decode cX5_firstForm 24 = .ok (.istore 6, 2) := by decide +kernel
theorem dX5_firstForm_26 : decode cX5_firstForm 26 = .ok (.iload 6, 2) := by decide +kernel
theorem dX5_firstForm_28 : decode cX5_firstForm 28 = .ok (.iload_n 1, 1) := by decide +kernel
theorem dX5_firstForm_29 : decode cX5_firstForm 29 = .ok (.if_icmp .ge 78, 3) := by decide +kernel
theorem dX5_firstForm_32 : decode cX5_firstForm 32 = .ok (.iload 6, 2) := by decide +kernel
theorem dX5_firstForm_34 : decode cX5_firstForm 34 = .ok (.bipush 10, 2) := by decide +kernel
theorem dX5_firstForm_36 : decode cX5_firstForm 36 = .ok (.if_icmp .ge 71, 3) := by decide +kernel
theorem dX5_firstForm_39 : decode cX5_firstForm 39 = .ok (.iload_n 3, 1) := by decide +kernel
theorem dX5_firstForm_40 : decode cX5_firstForm 40 = .ok (.iload 6, 2) := by decide +kernel
theorem dX5_firstForm_42 : decode cX5_firstForm 42 = .ok (.ishr, 1) := by decide +kernel
theorem dX5_firstForm_43 : decode cX5_firstForm 43 = .ok (.iconst 1, 1) := by decide +kernel
theorem dX5_firstForm_44 : decode cX5_firstForm 44 = .ok (.iand, 1) := by decide +kernel
theorem dX5_firstForm_45 : decode cX5_firstForm 45 = .ok (.ifCond .ne 21, 3) := by decide +kernel
theorem dX5_firstForm_48 : decode cX5_firstForm 48 = .ok (.aload_n 0, 1) := by decide +kernel
theorem dX5_firstForm_49 : decode cX5_firstForm 49 = .ok (.getfield 27, 3) := by decide +kernel
theorem dX5_firstForm_52 : decode cX5_firstForm 52 = .ok (.iload 6, 2) := by decide +kernel
theorem dX5_firstForm_54 : decode cX5_firstForm 54 = .ok (.iaload, 1) := by decide +kernel
theorem dX5_firstForm_55 : decode cX5_firstForm 55 = .ok (.iload_n 3, 1) := by decide +kernel
theorem dX5_firstForm_56 : decode cX5_firstForm 56 = .ok (.iconst (-1), 1) := by decide +kernel
theorem dX5_firstForm_57 : decode cX5_firstForm 57 = .ok (.ixor, 1) := by decide +kernel
theorem dX5_firstForm_58 : decode cX5_firstForm 58 = .ok (.iand, 1) := by decide +kernel
theorem dX5_firstForm_59 : decode cX5_firstForm 59 = .ok (.ifCond .ne 7, 3) := by decide +kernel
theorem dX5_firstForm_62 : decode cX5_firstForm 62 = .ok (.iconst 1, 1) := by decide +kernel
theorem dX5_firstForm_63 : decode cX5_firstForm 63 = .ok (.goto 4, 3) := by decide +kernel
theorem dX5_firstForm_66 : decode cX5_firstForm 66 = .ok (.iconst 0, 1) := by decide +kernel
theorem dX5_firstForm_67 : decode cX5_firstForm 67 = .ok (.istore 7, 2) := by decide +kernel
theorem dX5_firstForm_69 : decode cX5_firstForm 69 = .ok (.iload 7, 2) := by decide +kernel
theorem dX5_firstForm_71 : decode cX5_firstForm 71 = .ok (.ifCond .eq 30, 3) := by decide +kernel
theorem dX5_firstForm_74 : decode cX5_firstForm 74 = .ok (.iload 4, 2) := by decide +kernel
theorem dX5_firstForm_76 : decode cX5_firstForm 76 = .ok (.iconst (-1), 1) := by decide +kernel
theorem dX5_firstForm_77 : decode cX5_firstForm 77 = .ok (.if_icmp .eq 20, 3) := by decide +kernel
theorem dX5_firstForm_80 : decode cX5_firstForm 80 = .ok (.aload_n 0, 1) := by decide +kernel
theorem dX5_firstForm_81 : decode cX5_firstForm 81 = .ok (.getfield 24, 3) := by decide +kernel
theorem dX5_firstForm_84 : decode cX5_firstForm 84 = .ok (.iload 6, 2) := by decide +kernel
theorem dX5_firstForm_86 : decode cX5_firstForm 86 = .ok (.iaload, 1) := by decide +kernel
theorem dX5_firstForm_87 : decode cX5_firstForm 87 = .ok (.aload_n 0, 1) := by decide +kernel
theorem dX5_firstForm_88 : decode cX5_firstForm 88 = .ok (.getfield 24, 3) := by decide +kernel
theorem dX5_firstForm_91 : decode cX5_firstForm 91 = .ok (.iload 4, 2) := by decide +kernel
theorem dX5_firstForm_93 : decode cX5_firstForm 93 = .ok (.iaload, 1) := by decide +kernel
theorem dX5_firstForm_94 : decode cX5_firstForm 94 = .ok (.if_icmp .ge 7, 3) := by decide +kernel
theorem dX5_firstForm_97 : decode cX5_firstForm 97 = .ok (.iload 6, 2) := by decide +kernel
theorem dX5_firstForm_99 : decode cX5_firstForm 99 = .ok (.istore 4, 2) := by decide +kernel
theorem dX5_firstForm_101 : decode cX5_firstForm 101 = .ok (.iinc 6 1, 3) := by decide +kernel
theorem dX5_firstForm_104 : decode cX5_firstForm 104 = .ok (.goto (-78), 3) := by decide +kernel
theorem dX5_firstForm_107 : decode cX5_firstForm 107 = .ok (.iload 4, 2) := by decide +kernel
theorem dX5_firstForm_109 : decode cX5_firstForm 109 = .ok (.iconst (-1), 1) := by decide +kernel
theorem dX5_firstForm_110 : decode cX5_firstForm 110 = .ok (.if_icmp .ne 5, 3) := by decide +kernel
theorem dX5_firstForm_113 : decode cX5_firstForm 113 = .ok (.iconst (-1), 1) := by decide +kernel
theorem dX5_firstForm_114 : decode cX5_firstForm 114 = .ok (.ireturn, 1) := by decide +kernel
theorem dX5_firstForm_115 : decode cX5_firstForm 115 = .ok (.iload_n 3, 1) := by decide +kernel
theorem dX5_firstForm_116 : decode cX5_firstForm 116 = .ok (.iconst 1, 1) := by decide +kernel
theorem dX5_firstForm_117 : decode cX5_firstForm 117 = .ok (.iload 4, 2) := by decide +kernel
theorem dX5_firstForm_119 : decode cX5_firstForm 119 = .ok (.ishl, 1) := by decide +kernel
theorem dX5_firstForm_120 : decode cX5_firstForm 120 = .ok (.ior, 1) := by decide +kernel
theorem dX5_firstForm_121 : decode cX5_firstForm 121 = .ok (.istore_n 3, 1) := by decide +kernel
theorem dX5_firstForm_122 : decode cX5_firstForm 122 = .ok (.iinc 5 1, 3) := by decide +kernel
theorem dX5_firstForm_125 : decode cX5_firstForm 125 = .ok (.goto (-117), 3) := by decide +kernel
theorem dX5_firstForm_128 : decode cX5_firstForm 128 = .ok (.iload 4, 2) := by decide +kernel
theorem dX5_firstForm_130 : decode cX5_firstForm 130 = .ok (.ifCond .lt 20, 3) := by decide +kernel
theorem dX5_firstForm_133 : decode cX5_firstForm 133 = .ok (.iload 4, 2) := by decide +kernel
theorem dX5_firstForm_135 : decode cX5_firstForm 135 = .ok (.bipush 10, 2) := by decide +kernel
theorem dX5_firstForm_137 : decode cX5_firstForm 137 = .ok (.if_icmp .ge 13, 3) := by decide +kernel
theorem dX5_firstForm_140 : decode cX5_firstForm 140 = .ok (.aload_n 0, 1) := by decide +kernel
theorem dX5_firstForm_141 : decode cX5_firstForm 141 = .ok (.getfield 24, 3) := by decide +kernel
theorem dX5_firstForm_144 : decode cX5_firstForm 144 = .ok (.iload 4, 2) := by decide +kernel
theorem dX5_firstForm_146 : decode cX5_firstForm 146 = .ok (.iaload, 1) := by decide +kernel
theorem dX5_firstForm_147 : decode cX5_firstForm 147 = .ok (.goto 4, 3) := by decide +kernel
theorem dX5_firstForm_150 : decode cX5_firstForm 150 = .ok (.iconst (-1), 1) := by decide +kernel
theorem dX5_firstForm_151 : decode cX5_firstForm 151 = .ok (.ireturn, 1) := by decide +kernel
theorem dX11_leads_0 : decode cX11_leads 0 = .ok (.aload_n 0, 1) := by decide +kernel
theorem dX11_leads_1 : decode cX11_leads 1 = .ok (.getfield 42, 3) := by decide +kernel
theorem dX11_leads_4 : decode cX11_leads 4 = .ok (.iload_n 1, 1) := by decide +kernel
