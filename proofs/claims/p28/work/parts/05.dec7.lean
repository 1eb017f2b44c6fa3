theorem dX12_liesFrom_58 : decode cX12_liesFrom 58 = .ok (.iinc 5 1, 3) := by decide +kernel
theorem dX12_liesFrom_61 : decode cX12_liesFrom 61 = .ok (.goto (-53), 3) := by decide +kernel
theorem dX12_liesFrom_64 : decode cX12_liesFrom 64 = .ok (.aload_n 0, 1) := by decide +kernel
theorem dX12_liesFrom_65 : decode cX12_liesFrom 65 = .ok (.iload_n 3, 1) := by decide +kernel
theorem dX12_liesFrom_66 : decode cX12_liesFrom 66 = .ok (.putfield 413, 3) := by decide +kernel
theorem dX12_liesFrom_69 : decode cX12_liesFrom 69 = .ok (.iload 4, 2) := by decide +kernel
theorem dX12_liesFrom_71 : decode cX12_liesFrom 71 = .ok (.ireturn, 1) := by decide +kernel
theorem dX12_next_0 : decode cX12_next 0 = .ok (.aload_n 0, 1) := by decide +kernel
theorem dX12_next_1 : decode cX12_next 1 = .ok (.getfield 123, 3) := by decide +kernel
theorem dX12_next_4 : decode cX12_next 4 = .ok (.ifCond .eq 20, 3) := by decide +kernel
theorem dX12_next_7 : decode cX12_next 7 = .ok (.aload_n 0, 1) := by decide +kernel
theorem dX12_next_8 : decode cX12_next 8 = .ok (.iload_n 1, 1) := by decide +kernel
theorem dX12_next_9 : decode cX12_next 9 = .ok (.invokevirtual 407, 3) := by decide +kernel
theorem dX12_next_12 : decode cX12_next 12 = .ok (.ifCond .eq 12, 3) := by decide +kernel
theorem dX12_next_15 : decode cX12_next 15 = .ok (.iload_n 2, 1) := by decide +kernel
theorem dX12_next_16 : decode cX12_next 16 = .ok (.iconst 0, 1) := by decide +kernel
theorem dX12_next_17 : decode cX12_next 17 = .ok (.iconst 1, 1) := by decide +kernel
theorem dX12_next_18 : decode cX12_next 18 = .ok (.invokestatic 127, 3) := by decide +kernel
theorem dX12_next_21 : decode cX12_next 21 = .ok (.ifCond .ne 5, 3) := by decide +kernel
theorem dX12_next_24 : decode cX12_next 24 = .ok (.iconst (-1), 1) := by decide +kernel
theorem dX12_next_25 : decode cX12_next 25 = .ok (.ireturn, 1) := by decide +kernel
theorem dX12_next_26 : decode cX12_next 26 = .ok (.iconst 0, 1) := by decide +kernel
theorem dX12_next_27 : decode cX12_next 27 = .ok (.istore_n 3, 1) := by decide +kernel
theorem dX12_next_28 : decode cX12_next 28 = .ok (.iconst 1, 1) := by decide +kernel
theorem dX12_next_29 : decode cX12_next 29 = .ok (.istore 4, 2) := by decide +kernel
theorem dX12_next_31 : decode cX12_next 31 = .ok (.iload 4, 2) := by decide +kernel
theorem dX12_next_33 : decode cX12_next 33 = .ok (.bipush 8, 2) := by decide +kernel
theorem dX12_next_35 : decode cX12_next 35 = .ok (.if_icmp .ge 28, 3) := by decide +kernel
theorem dX12_next_38 : decode cX12_next 38 = .ok (.aload_n 0, 1) := by decide +kernel
theorem dX12_next_39 : decode cX12_next 39 = .ok (.iload_n 1, 1) := by decide +kernel
theorem dX12_next_40 : decode cX12_next 40 = .ok (.iload 4, 2) := by decide +kernel
theorem dX12_next_42 : decode cX12_next 42 = .ok (.invokevirtual 419, 3) := by decide +kernel
theorem dX12_next_45 : decode cX12_next 45 = .ok (.aload_n 0, 1) := by decide +kernel
theorem dX12_next_46 : decode cX12_next 46 = .ok (.iload_n 1, 1) := by decide +kernel
theorem dX12_next_47 : decode cX12_next 47 = .ok (.iload_n 3, 1) := by decide +kernel
theorem dX12_next_48 : decode cX12_next 48 = .ok (.invokevirtual 419, 3) := by decide +kernel
theorem dX12_next_51 : decode cX12_next 51 = .ok (.if_icmp .ge 6, 3) := by decide +kernel
theorem dX12_next_54 : decode cX12_next 54 = .ok (.iload 4, 2) := by decide +kernel
theorem dX12_next_56 : decode cX12_next 56 = .ok (.istore_n 3, 1) := by decide +kernel
theorem dX12_next_57 : decode cX12_next 57 = .ok (.iinc 4 1, 3) := by decide +kernel
theorem dX12_next_60 : decode cX12_next 60 = .ok (.goto (-29), 3) := by decide +kernel
theorem dX12_next_63 : decode cX12_next 63 = .ok (.iload_n 2, 1) := by decide +kernel
theorem dX12_next_64 : decode cX12_next 64 = .ok (.ifCond .ne 7, 3) := by decide +kernel
theorem dX12_next_67 : decode cX12_next 67 = .ok (.iload_n 3, 1) := by decide +kernel
theorem dX12_next_68 : decode cX12_next 68 = .ok (.goto 9, 3) := by decide +kernel
theorem dX12_next_71 : decode cX12_next 71 = .ok (.aload_n 0, 1) := by decide +kernel
theorem dX12_next_72 : decode cX12_next 72 = .ok (.iload_n 1, 1) := by decide +kernel
theorem dX12_next_73 : decode cX12_next 73 = .ok (.iload_n 3, 1) := by decide +kernel
theorem dX12_next_74 : decode cX12_next 74 = .ok (.invokevirtual 419, 3) := by decide +kernel
theorem dX12_next_77 : decode cX12_next 77 = .ok (.ireturn, 1) := by decide +kernel
theorem dX12_greatestBy_0 : decode cX12_greatestBy 0 = .ok (.iconst 0, 1) := by decide +kernel
theorem dX12_greatestBy_1 : decode cX12_greatestBy 1 = .ok (.istore_n 3, 1) := by decide +kernel
theorem dX12_greatestBy_2 : decode cX12_greatestBy 2 = .ok (.iconst 0, 1) := by decide +kernel
theorem dX12_greatestBy_3 : decode cX12_greatestBy 3 = .ok (.istore 4, 2) := by decide +kernel
theorem dX12_greatestBy_5 : decode cX12_greatestBy 5 = .ok (.iload 4, 2) := by decide +kernel
theorem dX12_greatestBy_7 : decode cX12_greatestBy 7 = .ok (.bipush 10, 2) := by decide +kernel
theorem dX12_greatestBy_9 : decode cX12_greatestBy 9 = .ok (.if_icmp .ge 64, 3) := by decide +kernel
theorem dX12_greatestBy_12 : decode cX12_greatestBy 12 = .ok (.iconst 0, 1) := by decide +kernel
theorem dX12_greatestBy_13 : decode cX12_greatestBy 13 = .ok (.istore 5, 2) := by decide +kernel
theorem dX12_greatestBy_15 : decode cX12_greatestBy 15 = .ok (.iconst 0, 1) := by decide +kernel
theorem dX12_greatestBy_16 : decode cX12_greatestBy 16 = .ok (.istore 6, 2) := by decide +kernel
theorem dX12_greatestBy_18 : decode cX12_greatestBy 18 = .ok (.iload 6, 2) := by decide +kernel
theorem dX12_greatestBy_20 : decode cX12_greatestBy 20 = .ok (.aload_n 0, 1) := by decide +kernel
theorem dX12_greatestBy_21 : decode cX12_greatestBy 21 = .ok (.getfield 123, 3) := by decide +kernel
theorem dX12_greatestBy_24 : decode cX12_greatestBy 24 = .ok (.if_icmp .ge 36, 3) := by decide +kernel
theorem dX12_greatestBy_27 : decode cX12_greatestBy 27 = .ok (.iload_n 1, 1) := by decide +kernel
theorem dX12_greatestBy_28 : decode cX12_greatestBy 28 = .ok (.iload 6, 2) := by decide +kernel
theorem dX12_greatestBy_30 : decode cX12_greatestBy 30 = .ok (.invokestatic 119, 3) := by decide +kernel
theorem dX12_greatestBy_33 : decode cX12_greatestBy 33 = .ok (.ifCond .eq 21, 3) := by decide +kernel
theorem dX12_greatestBy_36 : decode cX12_greatestBy 36 = .ok (.aload_n 0, 1) := by decide +kernel
theorem dX12_greatestBy_37 : decode cX12_greatestBy 37 = .ok (.iload_n 2, 1) := by decide +kernel
theorem dX12_greatestBy_38 : decode cX12_greatestBy 38 = .ok (.iload 6, 2) := by decide +kernel
theorem dX12_greatestBy_40 : decode cX12_greatestBy 40 = .ok (.invokevirtual 299, 3) := by decide +kernel
theorem dX12_greatestBy_43 : decode cX12_greatestBy 43 = .ok (.iload 4, 2) := by decide +kernel
theorem dX12_greatestBy_45 : decode cX12_greatestBy 45 = .ok (.if_icmp .ne 9, 3) := by decide +kernel
theorem dX12_greatestBy_48 : decode cX12_greatestBy 48 = .ok (.iload 5, 2) := by decide +kernel
theorem dX12_greatestBy_50 : decode cX12_greatestBy 50 = .ok (.iconst 1, 1) := by decide +kernel
theorem dX12_greatestBy_51 : decode cX12_greatestBy 51 = .ok (.iadd, 1) := by decide +kernel
theorem dX12_greatestBy_52 : decode cX12_greatestBy 52 = .ok (.istore 5, 2) := by decide +kernel
theorem dX12_greatestBy_54 : decode cX12_greatestBy 54 = .ok (.iinc 6 1, 3) := by decide +kernel
theorem dX12_greatestBy_57 : decode cX12_greatestBy 57 = .ok (.goto (-39), 3) := by decide +kernel
theorem dX12_greatestBy_60 : decode cX12_greatestBy 60 = .ok (.iload_n 3, 1) := by decide +kernel
theorem dX12_greatestBy_61 : decode cX12_greatestBy 61 = .ok (.iload 5, 2) := by decide +kernel
theorem dX12_greatestBy_63 : decode cX12_greatestBy 63 = .ok (.invokestatic 401, 3) := by decide +kernel
theorem dX12_greatestBy_66 : decode cX12_greatestBy 66 = .ok (.istore_n 3, 1) := by decide +kernel
theorem dX12_greatestBy_67 : decode cX12_greatestBy 67 = .ok (.iinc 4 1, 3) := by decide +kernel
theorem dX12_greatestBy_70 : decode cX12_greatestBy 70 = .ok (.goto (-65), 3) := by decide +kernel
theorem dX12_greatestBy_73 : decode cX12_greatestBy 73 = .ok (.iload_n 3, 1) := by decide +kernel
theorem dX12_greatestBy_74 : decode cX12_greatestBy 74 = .ok (.ireturn, 1) := by decide +kernel
theorem dX12_odds_0 : decode cX12_odds 0 = .ok (.aload_n 0, 1) := by decide +kernel
theorem dX12_odds_1 : decode cX12_odds 1 = .ok (.getfield 123, 3) := by decide +kernel
theorem dX12_odds_4 : decode cX12_odds 4 = .ok (.ifCond .eq 45, 3) := by decide +kernel
theorem dX12_odds_7 : decode cX12_odds 7 = .ok (.iload_n 1, 1) := by decide +kernel
theorem dX12_odds_8 : decode cX12_odds 8 = .ok (.iconst 1, 1) := by decide +kernel
theorem dX12_odds_9 : decode cX12_odds 9 = .ok (.bipush 20, 2) := by decide +kernel
theorem dX12_odds_11 : decode cX12_odds 11 = .ok (.invokestatic 127, 3) := by decide +kernel
theorem dX12_odds_14 : decode cX12_odds 14 = .ok (.ifCond .eq 35, 3) := by decide +kernel
theorem dX12_odds_17 : decode cX12_odds 17 = .ok (.iload_n 2, 1) := by decide +kernel
theorem dX12_odds_18 : decode cX12_odds 18 = .ok (.iconst 0, 1) := by decide +kernel
theorem dX12_odds_19 : decode cX12_odds 19 = .ok (.bipush 9, 2) := by decide +kernel
theorem dX12_odds_21 : decode cX12_odds 21 = .ok (.invokestatic 127, 3) := by decide +kernel
theorem dX12_odds_24 : decode cX12_odds 24 = .ok (.ifCond .eq 25, 3) := by decide +kernel
theorem dX12_odds_27 : decode cX12_odds 27 = .ok (.iload_n 3, 1) := by decide +kernel
theorem dX12_odds_28 : decode cX12_odds 28 = .ok (.iconst 0, 1) := by decide +kernel
theorem dX12_odds_29 : decode cX12_odds 29 = .ok (.iconst 1, 1) := by decide +kernel
theorem dX12_odds_30 : decode cX12_odds 30 = .ok (.invokestatic 127, 3) := by decide +kernel
theorem dX12_odds_33 : decode cX12_odds 33 = .ok (.ifCond .eq 16, 3) := by decide +kernel
theorem dX12_odds_36 : decode cX12_odds 36 = .ok (.iload_n 1, 1) := by decide +kernel
theorem dX12_odds_37 : decode cX12_odds 37 = .ok (.aload_n 0, 1) := by decide +kernel
theorem dX12_odds_38 : decode cX12_odds 38 = .ok (.getfield 123, 3) := by decide +kernel
theorem dX12_odds_41 : decode cX12_odds 41 = .ok (.iadd, 1) := by decide +kernel
theorem dX12_odds_42 : decode cX12_odds 42 = .ok (.aload_n 0, 1) := by decide +kernel
theorem dX12_odds_43 : decode cX12_odds 43 = .ok (.getfield 138, 3) := by decide +kernel
theorem dX12_odds_46 : decode cX12_odds 46 = .ok (.if_icmp .le 5, 3) := by decide +kernel
theorem dX12_odds_49 : decode cX12_odds 49 = .ok (.iconst (-1), 1) := by decide +kernel
theorem dX12_odds_50 : decode cX12_odds 50 = .ok (.ireturn, 1) := by decide +kernel
theorem dX12_odds_51 : decode cX12_odds 51 = .ok (.aload_n 0, 1) := by decide +kernel
theorem dX12_odds_52 : decode cX12_odds 52 = .ok (.iconst 0, 1) := by decide +kernel
theorem dX12_odds_53 : decode cX12_odds 53 = .ok (.putfield 138, 3) := by decide +kernel
theorem dX12_odds_56 : decode cX12_odds 56 = .ok (.iconst 0, 1) := by decide +kernel
theorem dX12_odds_57 : decode cX12_odds 57 = .ok (.istore 4, 2) := by decide +kernel
theorem dX12_odds_59 : decode cX12_odds 59 = .ok (.iload 4, 2) := by decide +kernel
theorem dX12_odds_61 : decode cX12_odds 61 = .ok (.iload_n 1, 1) := by decide +kernel
theorem dX12_odds_62 : decode cX12_odds 62 = .ok (.if_icmp .ge 23, 3) := by decide +kernel
theorem dX12_odds_65 : decode cX12_odds 65 = .ok (.aload_n 0, 1) := by decide +kernel
theorem dX12_odds_66 : decode cX12_odds 66 = .ok (.iload 4, 2) := by decide +kernel
theorem dX12_odds_68 : decode cX12_odds 68 = .ok (.invokevirtual 357, 3) := by decide +kernel
theorem dX12_odds_71 : decode cX12_odds 71 = .ok (.bipush 8, 2) := by decide +kernel
theorem dX12_odds_73 : decode cX12_odds 73 = .ok (.if_icmp .lt 6, 3) := by decide +kernel
theorem dX12_odds_76 : decode cX12_odds 76 = .ok (.bipush (-3), 2) := by decide +kernel
theorem dX12_odds_78 : decode cX12_odds 78 = .ok (.ireturn, 1) := by decide +kernel
theorem dX12_odds_79 : decode cX12_odds 79 = .ok (.iinc 4 1, 3) := by decide +kernel
theorem dX12_odds_82 : decode cX12_odds 82 = .ok (.goto (-23), 3) := by decide +kernel
theorem dX12_odds_85 : decode cX12_odds 85 = .ok (.iconst 0, 1) := by decide +kernel
theorem dX12_odds_86 : decode cX12_odds 86 = .ok (.istore 4, 2) := by decide +kernel
theorem dX12_odds_88 : decode cX12_odds 88 = .ok (.iconst 0, 1) := by decide +kernel
theorem dX12_odds_89 : decode cX12_odds 89 = .ok (.istore 5, 2) := by decide +kernel
theorem dX12_odds_91 : decode cX12_odds 91 = .ok (.iconst 0, 1) := by decide +kernel
theorem dX12_odds_92 : decode cX12_odds 92 = .ok (.istore 6, 2) := by decide +kernel
theorem dX12_odds_94 : decode cX12_odds 94 = .ok (.iload 6, 2) := by decide +kernel
theorem dX12_odds_96 : decode cX12_odds 96 = .ok (.aload_n 0, 1) := by decide +kernel
theorem dX12_odds_97 : decode cX12_odds 97 = .ok (.getfield 123, 3) := by decide +kernel
theorem dX12_odds_100 : decode cX12_odds 100 = .ok (.if_icmp .ge 62, 3) := by decide +kernel
theorem dX12_odds_103 : decode cX12_odds 103 = .ok (.aload_n 0, 1) := by decide +kernel
theorem dX12_odds_104 : decode cX12_odds 104 = .ok (.iload_n 1, 1) := by decide +kernel
theorem dX12_odds_105 : decode cX12_odds 105 = .ok (.iload 6, 2) := by decide +kernel
theorem dX12_odds_107 : decode cX12_odds 107 = .ok (.iadd, 1) := by decide +kernel
theorem dX12_odds_108 : decode cX12_odds 108 = .ok (.invokevirtual 357, 3) := by decide +kernel
theorem dX12_odds_111 : decode cX12_odds 111 = .ok (.bipush 25, 2) := by decide +kernel
theorem dX12_odds_113 : decode cX12_odds 113 = .ok (.if_icmp .le 6, 3) := by decide +kernel
theorem dX12_odds_116 : decode cX12_odds 116 = .ok (.bipush (-3), 2) := by decide +kernel
theorem dX12_odds_118 : decode cX12_odds 118 = .ok (.ireturn, 1) := by decide +kernel
theorem dX12_odds_119 : decode cX12_odds 119 = .ok (.iload 4, 2) := by decide +kernel
theorem dX12_odds_121 : decode cX12_odds 121 = .ok (.aload_n 0, 1) := by decide +kernel
theorem dX12_odds_122 : decode cX12_odds 122 = .ok (.iload_n 1, 1) := by decide +kernel
theorem dX12_odds_123 : decode cX12_odds 123 = .ok (.iload 6, 2) := by decide +kernel
theorem dX12_odds_125 : decode cX12_odds 125 = .ok (.iadd, 1) := by decide +kernel
theorem dX12_odds_126 : decode cX12_odds 126 = .ok (.invokevirtual 357, 3) := by decide +kernel
theorem dX12_odds_129 : decode cX12_odds 129 = .ok (.iadd, 1) := by decide +kernel
theorem dX12_odds_130 : decode cX12_odds 130 = .ok (.istore 4, 2) := by decide +kernel
theorem dX12_odds_132 : decode cX12_odds 132 = .ok (.aload_n 0, 1) := by decide +kernel
theorem dX12_odds_133 : decode cX12_odds 133 = .ok (.iload 6, 2) := by decide +kernel
theorem dX12_odds_135 : decode cX12_odds 135 = .ok (.iload_n 1, 1) := by decide +kernel
theorem dX12_odds_136 : decode cX12_odds 136 = .ok (.invokevirtual 422, 3) := by decide +kernel
theorem dX12_odds_139 : decode cX12_odds 139 = .ok (.iload_n 2, 1) := by decide +kernel
theorem dX12_odds_140 : decode cX12_odds 140 = .ok (.if_icmp .ne 16, 3) := by decide +kernel
theorem dX12_odds_143 : decode cX12_odds 143 = .ok (.iload 5, 2) := by decide +kernel
theorem dX12_odds_145 : decode cX12_odds 145 = .ok (.aload_n 0, 1) := by decide +kernel
theorem dX12_odds_146 : decode cX12_odds 146 = .ok (.iload_n 1, 1) := by decide +kernel
theorem dX12_odds_147 : decode cX12_odds 147 = .ok (.iload 6, 2) := by decide +kernel
theorem dX12_odds_149 : decode cX12_odds 149 = .ok (.iadd, 1) := by decide +kernel
theorem dX12_odds_150 : decode cX12_odds 150 = .ok (.invokevirtual 357, 3) := by decide +kernel
theorem dX12_odds_153 : decode cX12_odds 153 = .ok (.iadd, 1) := by decide +kernel
theorem dX12_odds_154 : decode cX12_odds 154 = .ok (.istore 5, 2) := by decide +kernel
theorem dX12_odds_156 : decode cX12_odds 156 = .ok (.iinc 6 1, 3) := by decide +kernel
theorem dX12_odds_159 : decode cX12_odds 159 = .ok (.goto (-65), 3) := by decide +kernel
theorem dX12_odds_162 : decode cX12_odds 162 = .ok (.iload 4, 2) := by decide +kernel
theorem dX12_odds_164 : decode cX12_odds 164 = .ok (.ifCond .ne 6, 3) := by decide +kernel
theorem dX12_odds_167 : decode cX12_odds 167 = .ok (.bipush (-2), 2) := by decide +kernel
theorem dX12_odds_169 : decode cX12_odds 169 = .ok (.ireturn, 1) := by decide +kernel
theorem dX12_odds_170 : decode cX12_odds 170 = .ok (.iload_n 3, 1) := by decide +kernel
theorem dX12_odds_171 : decode cX12_odds 171 = .ok (.ifCond .ne 16, 3) := by decide +kernel
theorem dX12_odds_174 : decode cX12_odds 174 = .ok (.iload 5, 2) := by decide +kernel
theorem dX12_odds_176 : decode cX12_odds 176 = .ok (.iload 4, 2) := by decide +kernel
theorem dX12_odds_178 : decode cX12_odds 178 = .ok (.iload 5, 2) := by decide +kernel
theorem dX12_odds_180 : decode cX12_odds 180 = .ok (.invokestatic 425, 3) := by decide +kernel
theorem dX12_odds_183 : decode cX12_odds 183 = .ok (.idiv, 1) := by decide +kernel
theorem dX12_odds_184 : decode cX12_odds 184 = .ok (.goto 13, 3) := by decide +kernel
theorem dX12_odds_187 : decode cX12_odds 187 = .ok (.iload 4, 2) := by decide +kernel
theorem dX12_odds_189 : decode cX12_odds 189 = .ok (.iload 4, 2) := by decide +kernel
theorem dX12_odds_191 : decode cX12_odds 191 = .ok (.iload 5, 2) := by decide +kernel
theorem dX12_odds_193 : decode cX12_odds 193 = .ok (.invokestatic 425, 3) := by decide +kernel
theorem dX12_odds_196 : decode cX12_odds 196 = .ok (.idiv, 1) := by decide +kernel
theorem dX12_odds_197 : decode cX12_odds 197 = .ok (.ireturn, 1) := by decide +kernel
theorem dX12_lastFrom_0 : decode cX12_lastFrom 0 = .ok (.iload_n 1, 1) := by decide +kernel
theorem dX12_lastFrom_1 : decode cX12_lastFrom 1 = .ok (.istore_n 3, 1) := by decide +kernel
theorem dX12_lastFrom_2 : decode cX12_lastFrom 2 = .ok (.iconst 0, 1) := by decide +kernel
theorem dX12_lastFrom_3 : decode cX12_lastFrom 3 = .ok (.istore 4, 2) := by decide +kernel
theorem dX12_lastFrom_5 : decode cX12_lastFrom 5 = .ok (.iload 4, 2) := by decide +kernel
theorem dX12_lastFrom_7 : decode cX12_lastFrom 7 = .ok (.iload_n 2, 1) := by decide +kernel
theorem dX12_lastFrom_8 : decode cX12_lastFrom 8 = .ok (.iconst 1, 1) := by decide +kernel
theorem dX12_lastFrom_9 : decode cX12_lastFrom 9 = .ok (.isub, 1) := by decide +kernel
theorem dX12_lastFrom_10 : decode cX12_lastFrom 10 = .ok (.if_icmp .ge 21, 3) := by decide +kernel
theorem dX12_lastFrom_13 : decode cX12_lastFrom 13 = .ok (.aload_n 0, 1) := by decide +kernel
theorem dX12_lastFrom_14 : decode cX12_lastFrom 14 = .ok (.aload_n 0, 1) := by decide +kernel
theorem dX12_lastFrom_15 : decode cX12_lastFrom 15 = .ok (.iload 4, 2) := by decide +kernel
theorem dX12_lastFrom_17 : decode cX12_lastFrom 17 = .ok (.invokevirtual 357, 3) := by decide +kernel
theorem dX12_lastFrom_20 : decode cX12_lastFrom 20 = .ok (.iload_n 3, 1) := by decide +kernel
theorem dX12_lastFrom_21 : decode cX12_lastFrom 21 = .ok (.invokevirtual 306, 3) := by decide +kernel
theorem dX12_lastFrom_24 : decode cX12_lastFrom 24 = .ok (.istore_n 3, 1) := by decide +kernel
theorem dX12_lastFrom_25 : decode cX12_lastFrom 25 = .ok (.iinc 4 1, 3) := by decide +kernel
theorem dX12_lastFrom_28 : decode cX12_lastFrom 28 = .ok (.goto (-23), 3) := by decide +kernel
theorem dX12_lastFrom_31 : decode cX12_lastFrom 31 = .ok (.aload_n 0, 1) := by decide +kernel
theorem dX12_lastFrom_32 : decode cX12_lastFrom 32 = .ok (.aload_n 0, 1) := by decide +kernel
theorem dX12_lastFrom_33 : decode cX12_lastFrom 33 = .ok (.iload_n 2, 1) := by decide +kernel
theorem dX12_lastFrom_34 : decode cX12_lastFrom 34 = .ok (.iconst 1, 1) := by decide +kernel
theorem dX12_lastFrom_35 : decode cX12_lastFrom 35 = .ok (.isub, 1) := by decide +kernel
theorem dX12_lastFrom_36 : decode cX12_lastFrom 36 = .ok (.invokevirtual 357, 3) := by decide +kernel
theorem dX12_lastFrom_39 : decode cX12_lastFrom 39 = .ok (.iload_n 3, 1) := by decide +kernel
theorem dX12_lastFrom_40 : decode cX12_lastFrom 40 = .ok (.invokevirtual 299, 3) := by decide +kernel
theorem dX12_lastFrom_43 : decode cX12_lastFrom 43 = .ok (.ireturn, 1) := by decide +kernel
theorem dX12_gcd_0 : decode cX12_gcd 0 = .ok (.iload_n 0, 1) := by decide +kernel
theorem dX12_gcd_1 : decode cX12_gcd 1 = .ok (.istore_n 2, 1) := by decide +kernel
theorem dX12_gcd_2 : decode cX12_gcd 2 = .ok (.iload_n 1, 1) := by decide +kernel
theorem dX12_gcd_3 : decode cX12_gcd 3 = .ok (.istore_n 3, 1) := by decide +kernel
theorem dX12_gcd_4 : decode cX12_gcd 4 = .ok (.iload_n 3, 1) := by decide +kernel
theorem dX12_gcd_5 : decode cX12_gcd 5 = .ok (.ifCond .eq 16, 3) := by decide +kernel
theorem dX12_gcd_8 : decode cX12_gcd 8 = .ok (.iload_n 2, 1) := by decide +kernel
theorem dX12_gcd_9 : decode cX12_gcd 9 = .ok (.iload_n 3, 1) := by decide +kernel
theorem dX12_gcd_10 : decode cX12_gcd 10 = .ok (.irem, 1) := by decide +kernel
theorem dX12_gcd_11 : decode cX12_gcd 11 = .ok (.istore 4, 2) := by decide +kernel
theorem dX12_gcd_13 : decode cX12_gcd 13 = .ok (.iload_n 3, 1) := by decide +kernel
theorem dX12_gcd_14 : decode cX12_gcd 14 = .ok (.istore_n 2, 1) := by decide +kernel
theorem dX12_gcd_15 : decode cX12_gcd 15 = .ok (.iload 4, 2) := by decide +kernel
theorem dX12_gcd_17 : decode cX12_gcd 17 = .ok (.istore_n 3, 1) := by decide +kernel
theorem dX12_gcd_18 : decode cX12_gcd 18 = .ok (.goto (-14), 3) := by decide +kernel
theorem dX12_gcd_21 : decode cX12_gcd 21 = .ok (.iload_n 2, 1) := by decide +kernel
theorem dX12_gcd_22 : decode cX12_gcd 22 = .ok (.ireturn, 1) := by decide +kernel
theorem dX12_inspectors_0 : decode cX12_inspectors 0 = .ok (.aload_n 0, 1) := by decide +kernel
theorem dX12_inspectors_1 : decode cX12_inspectors 1 = .ok (.iload_n 1, 1) := by decide +kernel
theorem dX12_inspectors_2 : decode cX12_inspectors 2 = .ok (.invokevirtual 131, 3) := by decide +kernel
theorem dX12_inspectors_5 : decode cX12_inspectors 5 = .ok (.ifCond .eq 22, 3) := by decide +kernel
theorem dX12_inspectors_8 : decode cX12_inspectors 8 = .ok (.iload_n 2, 1) := by decide +kernel
theorem dX12_inspectors_9 : decode cX12_inspectors 9 = .ok (.iconst 0, 1) := by decide +kernel
theorem dX12_inspectors_10 : decode cX12_inspectors 10 = .ok (.bipush 9, 2) := by decide +kernel
theorem dX12_inspectors_12 : decode cX12_inspectors 12 = .ok (.invokestatic 127, 3) := by decide +kernel
theorem dX12_inspectors_15 : decode cX12_inspectors 15 = .ok (.ifCond .eq 12, 3) := by decide +kernel
theorem dX12_inspectors_18 : decode cX12_inspectors 18 = .ok (.iload_n 3, 1) := by decide +kernel
theorem dX12_inspectors_19 : decode cX12_inspectors 19 = .ok (.iconst 0, 1) := by decide +kernel
theorem dX12_inspectors_20 : decode cX12_inspectors 20 = .ok (.iconst 1, 1) := by decide +kernel
theorem dX12_inspectors_21 : decode cX12_inspectors 21 = .ok (.invokestatic 127, 3) := by decide +kernel
theorem dX12_inspectors_24 : decode cX12_inspectors 24 = .ok (.ifCond .ne 5, 3) := by decide +kernel
theorem dX12_inspectors_27 : decode cX12_inspectors 27 = .ok (.iconst (-1), 1) := by decide +kernel
theorem dX12_inspectors_28 : decode cX12_inspectors 28 = .ok (.ireturn, 1) := by decide +kernel
theorem dX12_inspectors_29 : decode cX12_inspectors 29 = .ok (.aload_n 0, 1) := by decide +kernel
theorem dX12_inspectors_30 : decode cX12_inspectors 30 = .ok (.iload_n 2, 1) := by decide +kernel
theorem dX12_inspectors_31 : decode cX12_inspectors 31 = .ok (.invokevirtual 438, 3) := by decide +kernel
theorem dX12_inspectors_34 : decode cX12_inspectors 34 = .ok (.iload_n 1, 1) := by decide +kernel
theorem dX12_inspectors_35 : decode cX12_inspectors 35 = .ok (.bipush 8, 2) := by decide +kernel
theorem dX12_inspectors_37 : decode cX12_inspectors 37 = .ok (.invokestatic 428, 3) := by decide +kernel
theorem dX12_inspectors_40 : decode cX12_inspectors 40 = .ok (.istore 4, 2) := by decide +kernel
theorem dX12_inspectors_42 : decode cX12_inspectors 42 = .ok (.iload_n 3, 1) := by decide +kernel
theorem dX12_inspectors_43 : decode cX12_inspectors 43 = .ok (.iconst 1, 1) := by decide +kernel
theorem dX12_inspectors_44 : decode cX12_inspectors 44 = .ok (.if_icmp .ne 19, 3) := by decide +kernel
theorem dX12_inspectors_47 : decode cX12_inspectors 47 = .ok (.aload_n 0, 1) := by decide +kernel
theorem dX12_inspectors_48 : decode cX12_inspectors 48 = .ok (.getfield 113, 3) := by decide +kernel
theorem dX12_inspectors_51 : decode cX12_inspectors 51 = .ok (.iload 4, 2) := by decide +kernel
theorem dX12_inspectors_53 : decode cX12_inspectors 53 = .ok (.iaload, 1) := by decide +kernel
theorem dX12_inspectors_54 : decode cX12_inspectors 54 = .ok (.aload_n 0, 1) := by decide +kernel
theorem dX12_inspectors_55 : decode cX12_inspectors 55 = .ok (.getfield 116, 3) := by decide +kernel
theorem dX12_inspectors_58 : decode cX12_inspectors 58 = .ok (.iload 4, 2) := by decide +kernel
theorem dX12_inspectors_60 : decode cX12_inspectors 60 = .ok (.iaload, 1) := by decide +kernel
theorem dX12_inspectors_61 : decode cX12_inspectors 61 = .ok (.iadd, 1) := by decide +kernel
theorem dX12_inspectors_62 : decode cX12_inspectors 62 = .ok (.ireturn, 1) := by decide +kernel
theorem dX12_inspectors_63 : decode cX12_inspectors 63 = .ok (.aload_n 0, 1) := by decide +kernel
theorem dX12_inspectors_64 : decode cX12_inspectors 64 = .ok (.getfield 113, 3) := by decide +kernel
theorem dX12_inspectors_67 : decode cX12_inspectors 67 = .ok (.iload 4, 2) := by decide +kernel
theorem dX12_inspectors_69 : decode cX12_inspectors 69 = .ok (.iaload, 1) := by decide +kernel
theorem dX12_inspectors_70 : decode cX12_inspectors 70 = .ok (.ifCond .eq 7, 3) := by decide +kernel
theorem dX12_inspectors_73 : decode cX12_inspectors 73 = .ok (.iconst 1, 1) := by decide +kernel
theorem dX12_inspectors_74 : decode cX12_inspectors 74 = .ok (.goto 18, 3) := by decide +kernel
theorem dX12_inspectors_77 : decode cX12_inspectors 77 = .ok (.aload_n 0, 1) := by decide +kernel
theorem dX12_inspectors_78 : decode cX12_inspectors 78 = .ok (.getfield 116, 3) := by decide +kernel
theorem dX12_inspectors_81 : decode cX12_inspectors 81 = .ok (.iload 4, 2) := by decide +kernel
theorem dX12_inspectors_83 : decode cX12_inspectors 83 = .ok (.iaload, 1) := by decide +kernel
theorem dX12_inspectors_84 : decode cX12_inspectors 84 = .ok (.ifCond .eq 7, 3) := by decide +kernel
theorem dX12_inspectors_87 : decode cX12_inspectors 87 = .ok (.iconst 2, 1) := by decide +kernel
theorem dX12_inspectors_88 : decode cX12_inspectors 88 = .ok (.goto 4, 3) := by decide +kernel
theorem dX12_inspectors_91 : decode cX12_inspectors 91 = .ok (.iconst 0, 1) := by decide +kernel
theorem dX12_inspectors_92 : decode cX12_inspectors 92 = .ok (.ireturn, 1) := by decide +kernel
theorem dX12_laysGame_0 : decode cX12_laysGame 0 = .ok (.iconst 0, 1) := by decide +kernel
theorem dX12_laysGame_1 : decode cX12_laysGame 1 = .ok (.istore_n 2, 1) := by decide +kernel
theorem dX12_laysGame_2 : decode cX12_laysGame 2 = .ok (.iload_n 2, 1) := by decide +kernel
theorem dX12_laysGame_3 : decode cX12_laysGame 3 = .ok (.bipush 90, 2) := by decide +kernel
theorem dX12_laysGame_5 : decode cX12_laysGame 5 = .ok (.if_icmp .ge 23, 3) := by decide +kernel
theorem dX12_laysGame_8 : decode cX12_laysGame 8 = .ok (.aload_n 0, 1) := by decide +kernel
theorem dX12_laysGame_9 : decode cX12_laysGame 9 = .ok (.getfield 113, 3) := by decide +kernel
theorem dX12_laysGame_12 : decode cX12_laysGame 12 = .ok (.iload_n 2, 1) := by decide +kernel
theorem dX12_laysGame_13 : decode cX12_laysGame 13 = .ok (.iconst 0, 1) := by decide +kernel
theorem dX12_laysGame_14 : decode cX12_laysGame 14 = .ok (.iastore, 1) := by decide +kernel
theorem dX12_laysGame_15 : decode cX12_laysGame 15 = .ok (.aload_n 0, 1) := by decide +kernel
theorem dX12_laysGame_16 : decode cX12_laysGame 16 = .ok (.getfield 116, 3) := by decide +kernel
theorem dX12_laysGame_19 : decode cX12_laysGame 19 = .ok (.iload_n 2, 1) := by decide +kernel
theorem dX12_laysGame_20 : decode cX12_laysGame 20 = .ok (.iconst 0, 1) := by decide +kernel
theorem dX12_laysGame_21 : decode cX12_laysGame 21 = .ok (.iastore, 1) := by decide +kernel
theorem dX12_laysGame_22 : decode cX12_laysGame 22 = .ok (.iinc 2 1, 3) := by decide +kernel
theorem dX12_laysGame_25 : decode cX12_laysGame 25 = .ok (.goto (-23), 3) := by decide +kernel
theorem dX12_laysGame_28 : decode cX12_laysGame 28 = .ok (.iconst 1, 1) := by decide +kernel
theorem dX12_laysGame_29 : decode cX12_laysGame 29 = .ok (.istore_n 2, 1) := by decide +kernel
theorem dX12_laysGame_30 : decode cX12_laysGame 30 = .ok (.iload_n 2, 1) := by decide +kernel
theorem dX12_laysGame_31 : decode cX12_laysGame 31 = .ok (.bipush 92, 2) := by decide +kernel
theorem dX12_laysGame_33 : decode cX12_laysGame 33 = .ok (.if_icmp .ge 109, 3) := by decide +kernel
theorem dX12_laysGame_36 : decode cX12_laysGame 36 = .ok (.iconst 0, 1) := by decide +kernel
theorem dX12_laysGame_37 : decode cX12_laysGame 37 = .ok (.istore_n 3, 1) := by decide +kernel
theorem dX12_laysGame_38 : decode cX12_laysGame 38 = .ok (.iload_n 3, 1) := by decide +kernel
theorem dX12_laysGame_39 : decode cX12_laysGame 39 = .ok (.bipush 9, 2) := by decide +kernel
theorem dX12_laysGame_41 : decode cX12_laysGame 41 = .ok (.aload_n 0, 1) := by decide +kernel
theorem dX12_laysGame_42 : decode cX12_laysGame 42 = .ok (.getfield 123, 3) := by decide +kernel
theorem dX12_laysGame_45 : decode cX12_laysGame 45 = .ok (.imul, 1) := by decide +kernel
theorem dX12_laysGame_46 : decode cX12_laysGame 46 = .ok (.if_icmp .ge 90, 3) := by decide +kernel
theorem dX12_laysGame_49 : decode cX12_laysGame 49 = .ok (.aload_n 0, 1) := by decide +kernel
theorem dX12_laysGame_50 : decode cX12_laysGame 50 = .ok (.getfield 113, 3) := by decide +kernel
theorem dX12_laysGame_53 : decode cX12_laysGame 53 = .ok (.iload_n 3, 1) := by decide +kernel
theorem dX12_laysGame_54 : decode cX12_laysGame 54 = .ok (.iaload, 1) := by decide +kernel
theorem dX12_laysGame_55 : decode cX12_laysGame 55 = .ok (.ifCond .ne 75, 3) := by decide +kernel
theorem dX12_laysGame_58 : decode cX12_laysGame 58 = .ok (.aload_n 0, 1) := by decide +kernel
theorem dX12_laysGame_59 : decode cX12_laysGame 59 = .ok (.getfield 116, 3) := by decide +kernel
theorem dX12_laysGame_62 : decode cX12_laysGame 62 = .ok (.iload_n 3, 1) := by decide +kernel
theorem dX12_laysGame_63 : decode cX12_laysGame 63 = .ok (.iaload, 1) := by decide +kernel
theorem dX12_laysGame_64 : decode cX12_laysGame 64 = .ok (.ifCond .eq 6, 3) := by decide +kernel
theorem dX12_laysGame_67 : decode cX12_laysGame 67 = .ok (.goto 63, 3) := by decide +kernel
theorem dX12_laysGame_70 : decode cX12_laysGame 70 = .ok (.iload_n 2, 1) := by decide +kernel
theorem dX12_laysGame_71 : decode cX12_laysGame 71 = .ok (.iconst 2, 1) := by decide +kernel
theorem dX12_laysGame_72 : decode cX12_laysGame 72 = .ok (.irem, 1) := by decide +kernel
theorem dX12_laysGame_73 : decode cX12_laysGame 73 = .ok (.iconst 1, 1) := by decide +kernel
theorem dX12_laysGame_74 : decode cX12_laysGame 74 = .ok (.if_icmp .ne 27, 3) := by decide +kernel
theorem dX12_laysGame_77 : decode cX12_laysGame 77 = .ok (.aload_n 0, 1) := by decide +kernel
theorem dX12_laysGame_78 : decode cX12_laysGame 78 = .ok (.iload_n 3, 1) := by decide +kernel
theorem dX12_laysGame_79 : decode cX12_laysGame 79 = .ok (.bipush 9, 2) := by decide +kernel
theorem dX12_laysGame_81 : decode cX12_laysGame 81 = .ok (.idiv, 1) := by decide +kernel
theorem dX12_laysGame_82 : decode cX12_laysGame 82 = .ok (.iload_n 3, 1) := by decide +kernel
theorem dX12_laysGame_83 : decode cX12_laysGame 83 = .ok (.bipush 9, 2) := by decide +kernel
theorem dX12_laysGame_85 : decode cX12_laysGame 85 = .ok (.irem, 1) := by decide +kernel
theorem dX12_laysGame_86 : decode cX12_laysGame 86 = .ok (.iload_n 1, 1) := by decide +kernel
theorem dX12_laysGame_87 : decode cX12_laysGame 87 = .ok (.iload_n 2, 1) := by decide +kernel
theorem dX12_laysGame_88 : decode cX12_laysGame 88 = .ok (.invokevirtual 431, 3) := by decide +kernel
theorem dX12_laysGame_91 : decode cX12_laysGame 91 = .ok (.ifCond .eq 10, 3) := by decide +kernel
theorem dX12_laysGame_94 : decode cX12_laysGame 94 = .ok (.aload_n 0, 1) := by decide +kernel
theorem dX12_laysGame_95 : decode cX12_laysGame 95 = .ok (.getfield 113, 3) := by decide +kernel
theorem dX12_laysGame_98 : decode cX12_laysGame 98 = .ok (.iload_n 3, 1) := by decide +kernel
theorem dX12_laysGame_99 : decode cX12_laysGame 99 = .ok (.iload_n 2, 1) := by decide +kernel
theorem dX12_laysGame_100 : decode cX12_laysGame 100 = .ok (.iastore, 1) := by decide +kernel
theorem dX12_laysGame_101 : decode cX12_laysGame 101 = .ok (.iload_n 2, 1) := by decide +kernel
theorem dX12_laysGame_102 : decode cX12_laysGame 102 = .ok (.iconst 2, 1) := by decide +kernel
theorem dX12_laysGame_103 : decode cX12_laysGame 103 = .ok (.irem, 1) := by decide +kernel
theorem dX12_laysGame_104 : decode cX12_laysGame 104 = .ok (.ifCond .ne 26, 3) := by decide +kernel
theorem dX12_laysGame_107 : decode cX12_laysGame 107 = .ok (.aload_n 0, 1) := by decide +kernel
theorem dX12_laysGame_108 : decode cX12_laysGame 108 = .ok (.iload_n 3, 1) := by decide +kernel
theorem dX12_laysGame_109 : decode cX12_laysGame 109 = .ok (.bipush 9, 2) := by decide +kernel
theorem dX12_laysGame_111 : decode cX12_laysGame 111 = .ok (.idiv, 1) := by decide +kernel
theorem dX12_laysGame_112 : decode cX12_laysGame 112 = .ok (.iload_n 3, 1) := by decide +kernel
theorem dX12_laysGame_113 : decode cX12_laysGame 113 = .ok (.bipush 9, 2) := by decide +kernel
theorem dX12_laysGame_115 : decode cX12_laysGame 115 = .ok (.irem, 1) := by decide +kernel
theorem dX12_laysGame_116 : decode cX12_laysGame 116 = .ok (.iload_n 1, 1) := by decide +kernel
theorem dX12_laysGame_117 : decode cX12_laysGame 117 = .ok (.invokevirtual 435, 3) := by decide +kernel
theorem dX12_laysGame_120 : decode cX12_laysGame 120 = .ok (.ifCond .eq 10, 3) := by decide +kernel
theorem dX12_laysGame_123 : decode cX12_laysGame 123 = .ok (.aload_n 0, 1) := by decide +kernel
theorem dX12_laysGame_124 : decode cX12_laysGame 124 = .ok (.getfield 116, 3) := by decide +kernel
theorem dX12_laysGame_127 : decode cX12_laysGame 127 = .ok (.iload_n 3, 1) := by decide +kernel
theorem dX12_laysGame_128 : decode cX12_laysGame 128 = .ok (.iload_n 2, 1) := by decide +kernel
theorem dX12_laysGame_129 : decode cX12_laysGame 129 = .ok (.iastore, 1) := by decide +kernel
theorem dX12_laysGame_130 : decode cX12_laysGame 130 = .ok (.iinc 3 1, 3) := by decide +kernel
theorem dX12_laysGame_133 : decode cX12_laysGame 133 = .ok (.goto (-95), 3) := by decide +kernel
theorem dX12_laysGame_136 : decode cX12_laysGame 136 = .ok (.iinc 2 1, 3) := by decide +kernel
theorem dX12_laysGame_139 : decode cX12_laysGame 139 = .ok (.goto (-109), 3) := by decide +kernel
theorem dX12_laysGame_142 : decode cX12_laysGame 142 = .ok (.return_, 1) := by decide +kernel
theorem dX12_wins_0 : decode cX12_wins 0 = .ok (.iconst 0, 1) := by decide +kernel
theorem dX12_wins_1 : decode cX12_wins 1 = .ok (.istore 5, 2) := by decide +kernel
theorem dX12_wins_3 : decode cX12_wins 3 = .ok (.iload 5, 2) := by decide +kernel
theorem dX12_wins_5 : decode cX12_wins 5 = .ok (.bipush 8, 2) := by decide +kernel
theorem dX12_wins_7 : decode cX12_wins 7 = .ok (.if_icmp .ge 81, 3) := by decide +kernel
theorem dX12_wins_10 : decode cX12_wins 10 = .ok (.iload 5, 2) := by decide +kernel
theorem dX12_wins_12 : decode cX12_wins 12 = .ok (.iload_n 2, 1) := by decide +kernel
theorem dX12_wins_13 : decode cX12_wins 13 = .ok (.if_icmp .ne 6, 3) := by decide +kernel
theorem dX12_wins_16 : decode cX12_wins 16 = .ok (.goto 66, 3) := by decide +kernel
theorem dX12_wins_19 : decode cX12_wins 19 = .ok (.aload_n 0, 1) := by decide +kernel
theorem dX12_wins_20 : decode cX12_wins 20 = .ok (.iload 5, 2) := by decide +kernel
theorem dX12_wins_22 : decode cX12_wins 22 = .ok (.iload_n 1, 1) := by decide +kernel
theorem dX12_wins_23 : decode cX12_wins 23 = .ok (.invokevirtual 299, 3) := by decide +kernel
theorem dX12_wins_26 : decode cX12_wins 26 = .ok (.iload_n 3, 1) := by decide +kernel
theorem dX12_wins_27 : decode cX12_wins 27 = .ok (.if_icmp .ne 7, 3) := by decide +kernel
theorem dX12_wins_30 : decode cX12_wins 30 = .ok (.iconst 1, 1) := by decide +kernel
theorem dX12_wins_31 : decode cX12_wins 31 = .ok (.goto 4, 3) := by decide +kernel
theorem dX12_wins_34 : decode cX12_wins 34 = .ok (.iconst 0, 1) := by decide +kernel
theorem dX12_wins_35 : decode cX12_wins 35 = .ok (.istore 6, 2) := by decide +kernel
theorem dX12_wins_37 : decode cX12_wins 37 = .ok (.iload 4, 2) := by decide +kernel
theorem dX12_wins_39 : decode cX12_wins 39 = .ok (.iconst 1, 1) := by decide +kernel
theorem dX12_wins_40 : decode cX12_wins 40 = .ok (.if_icmp .ne 11, 3) := by decide +kernel
theorem dX12_wins_43 : decode cX12_wins 43 = .ok (.iload 6, 2) := by decide +kernel
theorem dX12_wins_45 : decode cX12_wins 45 = .ok (.ifCond .eq 37, 3) := by decide +kernel
theorem dX12_wins_48 : decode cX12_wins 48 = .ok (.goto 32, 3) := by decide +kernel
theorem dX12_wins_51 : decode cX12_wins 51 = .ok (.iload 6, 2) := by decide +kernel
theorem dX12_wins_53 : decode cX12_wins 53 = .ok (.ifCond .ne 29, 3) := by decide +kernel
theorem dX12_wins_56 : decode cX12_wins 56 = .ok (.aload_n 0, 1) := by decide +kernel
theorem dX12_wins_57 : decode cX12_wins 57 = .ok (.getfield 116, 3) := by decide +kernel
theorem dX12_wins_60 : decode cX12_wins 60 = .ok (.aload_n 0, 1) := by decide +kernel
theorem dX12_wins_61 : decode cX12_wins 61 = .ok (.iload 5, 2) := by decide +kernel
theorem dX12_wins_63 : decode cX12_wins 63 = .ok (.iload_n 1, 1) := by decide +kernel
theorem dX12_wins_64 : decode cX12_wins 64 = .ok (.invokevirtual 306, 3) := by decide +kernel
theorem dX12_wins_67 : decode cX12_wins 67 = .ok (.iload 5, 2) := by decide +kernel
theorem dX12_wins_69 : decode cX12_wins 69 = .ok (.invokestatic 428, 3) := by decide +kernel
theorem dX12_wins_72 : decode cX12_wins 72 = .ok (.iaload, 1) := by decide +kernel
theorem dX12_wins_73 : decode cX12_wins 73 = .ok (.iload 4, 2) := by decide +kernel
theorem dX12_wins_75 : decode cX12_wins 75 = .ok (.iconst 1, 1) := by decide +kernel
theorem dX12_wins_76 : decode cX12_wins 76 = .ok (.isub, 1) := by decide +kernel
theorem dX12_wins_77 : decode cX12_wins 77 = .ok (.if_icmp .ne 5, 3) := by decide +kernel
theorem dX12_wins_80 : decode cX12_wins 80 = .ok (.iconst 1, 1) := by decide +kernel
theorem dX12_wins_81 : decode cX12_wins 81 = .ok (.ireturn, 1) := by decide +kernel
theorem dX12_wins_82 : decode cX12_wins 82 = .ok (.iinc 5 1, 3) := by decide +kernel
theorem dX12_wins_85 : decode cX12_wins 85 = .ok (.goto (-82), 3) := by decide +kernel
theorem dX12_wins_88 : decode cX12_wins 88 = .ok (.iconst 0, 1) := by decide +kernel
theorem dX12_wins_89 : decode cX12_wins 89 = .ok (.ireturn, 1) := by decide +kernel
theorem dX12_at_0 : decode cX12_at 0 = .ok (.bipush 9, 2) := by decide +kernel
theorem dX12_at_2 : decode cX12_at 2 = .ok (.iload_n 0, 1) := by decide +kernel
theorem dX12_at_3 : decode cX12_at 3 = .ok (.imul, 1) := by decide +kernel
theorem dX12_at_4 : decode cX12_at 4 = .ok (.iload_n 1, 1) := by decide +kernel
theorem dX12_at_5 : decode cX12_at 5 = .ok (.iadd, 1) := by decide +kernel
theorem dX12_at_6 : decode cX12_at 6 = .ok (.ireturn, 1) := by decide +kernel
theorem dX12_loses_0 : decode cX12_loses 0 = .ok (.iconst 0, 1) := by decide +kernel
theorem dX12_loses_1 : decode cX12_loses 1 = .ok (.istore 4, 2) := by decide +kernel
theorem dX12_loses_3 : decode cX12_loses 3 = .ok (.iload 4, 2) := by decide +kernel
theorem dX12_loses_5 : decode cX12_loses 5 = .ok (.bipush 8, 2) := by decide +kernel
theorem dX12_loses_7 : decode cX12_loses 7 = .ok (.if_icmp .ge 51, 3) := by decide +kernel
theorem dX12_loses_10 : decode cX12_loses 10 = .ok (.iload 4, 2) := by decide +kernel
theorem dX12_loses_12 : decode cX12_loses 12 = .ok (.iload_n 2, 1) := by decide +kernel
theorem dX12_loses_13 : decode cX12_loses 13 = .ok (.if_icmp .ne 6, 3) := by decide +kernel
theorem dX12_loses_16 : decode cX12_loses 16 = .ok (.goto 36, 3) := by decide +kernel
theorem dX12_loses_19 : decode cX12_loses 19 = .ok (.aload_n 0, 1) := by decide +kernel
theorem dX12_loses_20 : decode cX12_loses 20 = .ok (.iload 4, 2) := by decide +kernel
theorem dX12_loses_22 : decode cX12_loses 22 = .ok (.iload_n 1, 1) := by decide +kernel
theorem dX12_loses_23 : decode cX12_loses 23 = .ok (.invokevirtual 299, 3) := by decide +kernel
theorem dX12_loses_26 : decode cX12_loses 26 = .ok (.iload_n 3, 1) := by decide +kernel
theorem dX12_loses_27 : decode cX12_loses 27 = .ok (.if_icmp .eq 23, 3) := by decide +kernel
theorem dX12_loses_30 : decode cX12_loses 30 = .ok (.aload_n 0, 1) := by decide +kernel
theorem dX12_loses_31 : decode cX12_loses 31 = .ok (.getfield 113, 3) := by decide +kernel
theorem dX12_loses_34 : decode cX12_loses 34 = .ok (.aload_n 0, 1) := by decide +kernel
theorem dX12_loses_35 : decode cX12_loses 35 = .ok (.iload 4, 2) := by decide +kernel
theorem dX12_loses_37 : decode cX12_loses 37 = .ok (.iload_n 1, 1) := by decide +kernel
theorem dX12_loses_38 : decode cX12_loses 38 = .ok (.invokevirtual 306, 3) := by decide +kernel
theorem dX12_loses_41 : decode cX12_loses 41 = .ok (.iload 4, 2) := by decide +kernel
theorem dX12_loses_43 : decode cX12_loses 43 = .ok (.invokestatic 428, 3) := by decide +kernel
theorem dX12_loses_46 : decode cX12_loses 46 = .ok (.iaload, 1) := by decide +kernel
theorem dX12_loses_47 : decode cX12_loses 47 = .ok (.ifCond .ne 5, 3) := by decide +kernel
theorem dX12_loses_50 : decode cX12_loses 50 = .ok (.iconst 0, 1) := by decide +kernel
theorem dX12_loses_51 : decode cX12_loses 51 = .ok (.ireturn, 1) := by decide +kernel
theorem dX12_loses_52 : decode cX12_loses 52 = .ok (.iinc 4 1, 3) := by decide +kernel
theorem dX12_loses_55 : decode cX12_loses 55 = .ok (.goto (-52), 3) := by decide +kernel
theorem dX12_loses_58 : decode cX12_loses 58 = .ok (.iconst 1, 1) := by decide +kernel
theorem dX12_loses_59 : decode cX12_loses 59 = .ok (.ireturn, 1) := by decide +kernel
theorem dX12_together_0 : decode cX12_together 0 = .ok (.iload_n 1, 1) := by decide +kernel
theorem dX12_together_1 : decode cX12_together 1 = .ok (.invokestatic 135, 3) := by decide +kernel
theorem dX12_together_4 : decode cX12_together 4 = .ok (.ifCond .eq 18, 3) := by decide +kernel
theorem dX12_together_7 : decode cX12_together 7 = .ok (.iload_n 2, 1) := by decide +kernel
theorem dX12_together_8 : decode cX12_together 8 = .ok (.invokestatic 135, 3) := by decide +kernel
theorem dX12_together_11 : decode cX12_together 11 = .ok (.ifCond .eq 11, 3) := by decide +kernel
theorem dX12_together_14 : decode cX12_together 14 = .ok (.aload_n 0, 1) := by decide +kernel
theorem dX12_together_15 : decode cX12_together 15 = .ok (.iload_n 3, 1) := by decide +kernel
theorem dX12_together_16 : decode cX12_together 16 = .ok (.invokevirtual 131, 3) := by decide +kernel
theorem dX12_together_19 : decode cX12_together 19 = .ok (.ifCond .ne 5, 3) := by decide +kernel
theorem dX12_together_22 : decode cX12_together 22 = .ok (.iconst (-1), 1) := by decide +kernel
theorem dX12_together_23 : decode cX12_together 23 = .ok (.ireturn, 1) := by decide +kernel
theorem dX12_together_24 : decode cX12_together 24 = .ok (.aload_n 0, 1) := by decide +kernel
theorem dX12_together_25 : decode cX12_together 25 = .ok (.iload_n 2, 1) := by decide +kernel
theorem dX12_together_26 : decode cX12_together 26 = .ok (.aload_n 0, 1) := by decide +kernel
theorem dX12_together_27 : decode cX12_together 27 = .ok (.iload_n 1, 1) := by decide +kernel
theorem dX12_together_28 : decode cX12_together 28 = .ok (.iload_n 3, 1) := by decide +kernel
theorem dX12_together_29 : decode cX12_together 29 = .ok (.invokevirtual 306, 3) := by decide +kernel
theorem dX12_together_32 : decode cX12_together 32 = .ok (.invokevirtual 299, 3) := by decide +kernel
theorem dX12_together_35 : decode cX12_together 35 = .ok (.aload_n 0, 1) := by decide +kernel
theorem dX12_together_36 : decode cX12_together 36 = .ok (.iload_n 2, 1) := by decide +kernel
theorem dX12_together_37 : decode cX12_together 37 = .ok (.iload_n 3, 1) := by decide +kernel
theorem dX12_together_38 : decode cX12_together 38 = .ok (.invokevirtual 299, 3) := by decide +kernel
theorem dX12_together_41 : decode cX12_together 41 = .ok (.if_icmp .ne 7, 3) := by decide +kernel
theorem dX12_together_44 : decode cX12_together 44 = .ok (.iconst 1, 1) := by decide +kernel
theorem dX12_together_45 : decode cX12_together 45 = .ok (.goto 4, 3) := by decide +kernel
theorem dX12_together_48 : decode cX12_together 48 = .ok (.iconst 0, 1) := by decide +kernel
theorem dX12_together_49 : decode cX12_together 49 = .ok (.istore 4, 2) := by decide +kernel
theorem dX12_together_51 : decode cX12_together 51 = .ok (.aload_n 0, 1) := by decide +kernel
theorem dX12_together_52 : decode cX12_together 52 = .ok (.iload_n 1, 1) := by decide +kernel
theorem dX12_together_53 : decode cX12_together 53 = .ok (.aload_n 0, 1) := by decide +kernel
theorem dX12_together_54 : decode cX12_together 54 = .ok (.iload_n 2, 1) := by decide +kernel
theorem dX12_together_55 : decode cX12_together 55 = .ok (.iload_n 3, 1) := by decide +kernel
theorem dX12_together_56 : decode cX12_together 56 = .ok (.invokevirtual 306, 3) := by decide +kernel
theorem dX12_together_59 : decode cX12_together 59 = .ok (.invokevirtual 299, 3) := by decide +kernel
theorem dX12_together_62 : decode cX12_together 62 = .ok (.aload_n 0, 1) := by decide +kernel
theorem dX12_together_63 : decode cX12_together 63 = .ok (.iload_n 1, 1) := by decide +kernel
theorem dX12_together_64 : decode cX12_together 64 = .ok (.iload_n 3, 1) := by decide +kernel
theorem dX12_together_65 : decode cX12_together 65 = .ok (.invokevirtual 299, 3) := by decide +kernel
theorem dX12_together_68 : decode cX12_together 68 = .ok (.if_icmp .ne 7, 3) := by decide +kernel
theorem dX12_together_71 : decode cX12_together 71 = .ok (.iconst 1, 1) := by decide +kernel
theorem dX12_together_72 : decode cX12_together 72 = .ok (.goto 4, 3) := by decide +kernel
theorem dX12_together_75 : decode cX12_together 75 = .ok (.iconst 0, 1) := by decide +kernel
theorem dX12_together_76 : decode cX12_together 76 = .ok (.istore 5, 2) := by decide +kernel
theorem dX12_together_78 : decode cX12_together 78 = .ok (.iload 4, 2) := by decide +kernel
theorem dX12_together_80 : decode cX12_together 80 = .ok (.ifCond .eq 7, 3) := by decide +kernel
theorem dX12_together_83 : decode cX12_together 83 = .ok (.iconst 1, 1) := by decide +kernel
theorem dX12_together_84 : decode cX12_together 84 = .ok (.goto 4, 3) := by decide +kernel
theorem dX12_together_87 : decode cX12_together 87 = .ok (.iconst 0, 1) := by decide +kernel
theorem dX12_together_88 : decode cX12_together 88 = .ok (.iload 5, 2) := by decide +kernel
theorem dX12_together_90 : decode cX12_together 90 = .ok (.ifCond .eq 7, 3) := by decide +kernel
theorem dX12_together_93 : decode cX12_together 93 = .ok (.iconst 2, 1) := by decide +kernel
theorem dX12_together_94 : decode cX12_together 94 = .ok (.goto 4, 3) := by decide +kernel
theorem dX12_together_97 : decode cX12_together 97 = .ok (.iconst 0, 1) := by decide +kernel
theorem dX12_together_98 : decode cX12_together 98 = .ok (.iadd, 1) := by decide +kernel
theorem dX12_together_99 : decode cX12_together 99 = .ok (.ireturn, 1) := by decide +kernel
theorem dX12_alone_0 : decode cX12_alone 0 = .ok (.aload_n 0, 1) := by decide +kernel
theorem dX12_alone_1 : decode cX12_alone 1 = .ok (.getfield 123, 3) := by decide +kernel
theorem dX12_alone_4 : decode cX12_alone 4 = .ok (.ifCond .eq 12, 3) := by decide +kernel
theorem dX12_alone_7 : decode cX12_alone 7 = .ok (.iload_n 1, 1) := by decide +kernel
theorem dX12_alone_8 : decode cX12_alone 8 = .ok (.iconst 0, 1) := by decide +kernel
theorem dX12_alone_9 : decode cX12_alone 9 = .ok (.iconst 1, 1) := by decide +kernel
theorem dX12_alone_10 : decode cX12_alone 10 = .ok (.invokestatic 127, 3) := by decide +kernel
theorem dX12_alone_13 : decode cX12_alone 13 = .ok (.ifCond .ne 5, 3) := by decide +kernel
theorem dX12_alone_16 : decode cX12_alone 16 = .ok (.iconst (-1), 1) := by decide +kernel
theorem dX12_alone_17 : decode cX12_alone 17 = .ok (.ireturn, 1) := by decide +kernel
theorem dX12_alone_18 : decode cX12_alone 18 = .ok (.iconst 0, 1) := by decide +kernel
theorem dX12_alone_19 : decode cX12_alone 19 = .ok (.istore_n 2, 1) := by decide +kernel
theorem dX12_alone_20 : decode cX12_alone 20 = .ok (.iconst 0, 1) := by decide +kernel
theorem dX12_alone_21 : decode cX12_alone 21 = .ok (.istore_n 3, 1) := by decide +kernel
theorem dX12_alone_22 : decode cX12_alone 22 = .ok (.iload_n 3, 1) := by decide +kernel
theorem dX12_alone_23 : decode cX12_alone 23 = .ok (.aload_n 0, 1) := by decide +kernel
theorem dX12_alone_24 : decode cX12_alone 24 = .ok (.getfield 123, 3) := by decide +kernel
theorem dX12_alone_27 : decode cX12_alone 27 = .ok (.if_icmp .ge 38, 3) := by decide +kernel
theorem dX12_alone_30 : decode cX12_alone 30 = .ok (.iload_n 1, 1) := by decide +kernel
theorem dX12_alone_31 : decode cX12_alone 31 = .ok (.ifCond .ne 14, 3) := by decide +kernel
theorem dX12_alone_34 : decode cX12_alone 34 = .ok (.aload_n 0, 1) := by decide +kernel
theorem dX12_alone_35 : decode cX12_alone 35 = .ok (.iload_n 3, 1) := by decide +kernel
theorem dX12_alone_36 : decode cX12_alone 36 = .ok (.invokevirtual 441, 3) := by decide +kernel
theorem dX12_alone_39 : decode cX12_alone 39 = .ok (.ifCond .eq 20, 3) := by decide +kernel
theorem dX12_alone_42 : decode cX12_alone 42 = .ok (.goto 11, 3) := by decide +kernel
theorem dX12_alone_45 : decode cX12_alone 45 = .ok (.aload_n 0, 1) := by decide +kernel
theorem dX12_alone_46 : decode cX12_alone 46 = .ok (.iload_n 3, 1) := by decide +kernel
theorem dX12_alone_47 : decode cX12_alone 47 = .ok (.invokevirtual 444, 3) := by decide +kernel
theorem dX12_alone_50 : decode cX12_alone 50 = .ok (.ifCond .eq 9, 3) := by decide +kernel
theorem dX12_alone_53 : decode cX12_alone 53 = .ok (.iload_n 2, 1) := by decide +kernel
theorem dX12_alone_54 : decode cX12_alone 54 = .ok (.iconst 1, 1) := by decide +kernel
theorem dX12_alone_55 : decode cX12_alone 55 = .ok (.iload_n 3, 1) := by decide +kernel
theorem dX12_alone_56 : decode cX12_alone 56 = .ok (.ishl, 1) := by decide +kernel
theorem dX12_alone_57 : decode cX12_alone 57 = .ok (.ior, 1) := by decide +kernel
theorem dX12_alone_58 : decode cX12_alone 58 = .ok (.istore_n 2, 1) := by decide +kernel
theorem dX12_alone_59 : decode cX12_alone 59 = .ok (.iinc 3 1, 3) := by decide +kernel
theorem dX12_alone_62 : decode cX12_alone 62 = .ok (.goto (-40), 3) := by decide +kernel
theorem dX12_alone_65 : decode cX12_alone 65 = .ok (.iload_n 2, 1) := by decide +kernel
theorem dX12_alone_66 : decode cX12_alone 66 = .ok (.ireturn, 1) := by decide +kernel
theorem dX12_isLoose_0 : decode cX12_isLoose 0 = .ok (.iconst 0, 1) := by decide +kernel
theorem dX12_isLoose_1 : decode cX12_isLoose 1 = .ok (.istore_n 2, 1) := by decide +kernel
theorem dX12_isLoose_2 : decode cX12_isLoose 2 = .ok (.iload_n 2, 1) := by decide +kernel
theorem dX12_isLoose_3 : decode cX12_isLoose 3 = .ok (.aload_n 0, 1) := by decide +kernel
theorem dX12_isLoose_4 : decode cX12_isLoose 4 = .ok (.getfield 123, 3) := by decide +kernel
theorem dX12_isLoose_7 : decode cX12_isLoose 7 = .ok (.if_icmp .ge 40, 3) := by decide +kernel
theorem dX12_isLoose_10 : decode cX12_isLoose 10 = .ok (.iconst 0, 1) := by decide +kernel
theorem dX12_isLoose_11 : decode cX12_isLoose 11 = .ok (.istore_n 3, 1) := by decide +kernel
theorem dX12_isLoose_12 : decode cX12_isLoose 12 = .ok (.iload_n 3, 1) := by decide +kernel
theorem dX12_isLoose_13 : decode cX12_isLoose 13 = .ok (.bipush 8, 2) := by decide +kernel
theorem dX12_isLoose_15 : decode cX12_isLoose 15 = .ok (.if_icmp .ge 26, 3) := by decide +kernel
theorem dX12_isLoose_18 : decode cX12_isLoose 18 = .ok (.iload_n 2, 1) := by decide +kernel
theorem dX12_isLoose_19 : decode cX12_isLoose 19 = .ok (.iload_n 1, 1) := by decide +kernel
theorem dX12_isLoose_20 : decode cX12_isLoose 20 = .ok (.if_icmp .eq 15, 3) := by decide +kernel
theorem dX12_isLoose_23 : decode cX12_isLoose 23 = .ok (.aload_n 0, 1) := by decide +kernel
theorem dX12_isLoose_24 : decode cX12_isLoose 24 = .ok (.iload_n 3, 1) := by decide +kernel
theorem dX12_isLoose_25 : decode cX12_isLoose 25 = .ok (.iload_n 2, 1) := by decide +kernel
theorem dX12_isLoose_26 : decode cX12_isLoose 26 = .ok (.invokevirtual 306, 3) := by decide +kernel
theorem dX12_isLoose_29 : decode cX12_isLoose 29 = .ok (.iload_n 1, 1) := by decide +kernel
theorem dX12_isLoose_30 : decode cX12_isLoose 30 = .ok (.if_icmp .ne 5, 3) := by decide +kernel
theorem dX12_isLoose_33 : decode cX12_isLoose 33 = .ok (.iconst 0, 1) := by decide +kernel
theorem dX12_isLoose_34 : decode cX12_isLoose 34 = .ok (.ireturn, 1) := by decide +kernel
theorem dX12_isLoose_35 : decode cX12_isLoose 35 = .ok (.iinc 3 1, 3) := by decide +kernel
theorem dX12_isLoose_38 : decode cX12_isLoose 38 = .ok (.goto (-26), 3) := by decide +kernel
theorem dX12_isLoose_41 : decode cX12_isLoose 41 = .ok (.iinc 2 1, 3) := by decide +kernel
theorem dX12_isLoose_44 : decode cX12_isLoose 44 = .ok (.goto (-42), 3) := by decide +kernel
theorem dX12_isLoose_47 : decode cX12_isLoose 47 = .ok (.iconst 1, 1) := by decide +kernel
theorem dX12_isLoose_48 : decode cX12_isLoose 48 = .ok (.ireturn, 1) := by decide +kernel
theorem dX12_isEnd_0 : decode cX12_isEnd 0 = .ok (.iconst 0, 1) := by decide +kernel
theorem dX12_isEnd_1 : decode cX12_isEnd 1 = .ok (.istore_n 2, 1) := by decide +kernel
theorem dX12_isEnd_2 : decode cX12_isEnd 2 = .ok (.iload_n 2, 1) := by decide +kernel
theorem dX12_isEnd_3 : decode cX12_isEnd 3 = .ok (.bipush 8, 2) := by decide +kernel
theorem dX12_isEnd_5 : decode cX12_isEnd 5 = .ok (.if_icmp .ge 21, 3) := by decide +kernel
theorem dX12_isEnd_8 : decode cX12_isEnd 8 = .ok (.aload_n 0, 1) := by decide +kernel
theorem dX12_isEnd_9 : decode cX12_isEnd 9 = .ok (.iload_n 2, 1) := by decide +kernel
theorem dX12_isEnd_10 : decode cX12_isEnd 10 = .ok (.iload_n 1, 1) := by decide +kernel
theorem dX12_isEnd_11 : decode cX12_isEnd 11 = .ok (.invokevirtual 306, 3) := by decide +kernel
theorem dX12_isEnd_14 : decode cX12_isEnd 14 = .ok (.iload_n 1, 1) := by decide +kernel
theorem dX12_isEnd_15 : decode cX12_isEnd 15 = .ok (.if_icmp .eq 5, 3) := by decide +kernel
theorem dX12_isEnd_18 : decode cX12_isEnd 18 = .ok (.iconst 0, 1) := by decide +kernel
theorem dX12_isEnd_19 : decode cX12_isEnd 19 = .ok (.ireturn, 1) := by decide +kernel
theorem dX12_isEnd_20 : decode cX12_isEnd 20 = .ok (.iinc 2 1, 3) := by decide +kernel
theorem dX12_isEnd_23 : decode cX12_isEnd 23 = .ok (.goto (-21), 3) := by decide +kernel
theorem dX12_isEnd_26 : decode cX12_isEnd 26 = .ok (.iconst 1, 1) := by decide +kernel
theorem dX12_isEnd_27 : decode cX12_isEnd 27 = .ok (.ireturn, 1) := by decide +kernel
theorem dX12_seed_0 : decode cX12_seed 0 = .ok (.iload_n 1, 1) := by decide +kernel
theorem dX12_seed_1 : decode cX12_seed 1 = .ok (.iconst 0, 1) := by decide +kernel
theorem dX12_seed_2 : decode cX12_seed 2 = .ok (.ldc_w 447, 3) := by decide +kernel
theorem dX12_seed_5 : decode cX12_seed 5 = .ok (.invokestatic 127, 3) := by decide +kernel
theorem dX12_seed_8 : decode cX12_seed 8 = .ok (.ifCond .ne 5, 3) := by decide +kernel
theorem dX12_seed_11 : decode cX12_seed 11 = .ok (.iconst 0, 1) := by decide +kernel
theorem dX12_seed_12 : decode cX12_seed 12 = .ok (.ireturn, 1) := by decide +kernel
theorem dX12_seed_13 : decode cX12_seed 13 = .ok (.aload_n 0, 1) := by decide +kernel
theorem dX12_seed_14 : decode cX12_seed 14 = .ok (.getfield 7, 3) := by decide +kernel
theorem dX12_seed_17 : decode cX12_seed 17 = .ok (.bipush 7, 2) := by decide +kernel
theorem dX12_seed_19 : decode cX12_seed 19 = .ok (.iload_n 1, 1) := by decide +kernel
theorem dX12_seed_20 : decode cX12_seed 20 = .ok (.iastore, 1) := by decide +kernel
theorem dX12_seed_21 : decode cX12_seed 21 = .ok (.iconst 1, 1) := by decide +kernel
theorem dX12_seed_22 : decode cX12_seed 22 = .ok (.ireturn, 1) := by decide +kernel
theorem dX12_keep_0 : decode cX12_keep 0 = .ok (.aload_n 0, 1) := by decide +kernel
theorem dX12_keep_1 : decode cX12_keep 1 = .ok (.iconst 1, 1) := by decide +kernel
theorem dX12_keep_2 : decode cX12_keep 2 = .ok (.putfield 448, 3) := by decide +kernel
theorem dX12_keep_5 : decode cX12_keep 5 = .ok (.aload_n 0, 1) := by decide +kernel
theorem dX12_keep_6 : decode cX12_keep 6 = .ok (.getfield 7, 3) := by decide +kernel
theorem dX12_keep_9 : decode cX12_keep 9 = .ok (.aload_n 0, 1) := by decide +kernel
theorem dX12_keep_10 : decode cX12_keep 10 = .ok (.getfield 16, 3) := by decide +kernel
theorem dX12_keep_13 : decode cX12_keep 13 = .ok (.invokestatic 318, 3) := by decide +kernel
theorem dX12_keep_16 : decode cX12_keep 16 = .ok (.aload_n 0, 1) := by decide +kernel
theorem dX12_keep_17 : decode cX12_keep 17 = .ok (.getfield 7, 3) := by decide +kernel
theorem dX12_keep_20 : decode cX12_keep 20 = .ok (.bipush 6, 2) := by decide +kernel
theorem dX12_keep_22 : decode cX12_keep 22 = .ok (.iaload, 1) := by decide +kernel
theorem dX12_keep_23 : decode cX12_keep 23 = .ok (.ireturn, 1) := by decide +kernel
theorem dX12_undo_0 : decode cX12_undo 0 = .ok (.aload_n 0, 1) := by decide +kernel
theorem dX12_undo_1 : decode cX12_undo 1 = .ok (.getfield 448, 3) := by decide +kernel
theorem dX12_undo_4 : decode cX12_undo 4 = .ok (.ifCond .ne 5, 3) := by decide +kernel
theorem dX12_undo_7 : decode cX12_undo 7 = .ok (.iconst 0, 1) := by decide +kernel
theorem dX12_undo_8 : decode cX12_undo 8 = .ok (.ireturn, 1) := by decide +kernel
theorem dX12_undo_9 : decode cX12_undo 9 = .ok (.aload_n 0, 1) := by decide +kernel
theorem dX12_undo_10 : decode cX12_undo 10 = .ok (.getfield 16, 3) := by decide +kernel
theorem dX12_undo_13 : decode cX12_undo 13 = .ok (.aload_n 0, 1) := by decide +kernel
theorem dX12_undo_14 : decode cX12_undo 14 = .ok (.getfield 7, 3) := by decide +kernel
theorem dX12_undo_17 : decode cX12_undo 17 = .ok (.invokestatic 318, 3) := by decide +kernel
theorem dX12_undo_20 : decode cX12_undo 20 = .ok (.aload_n 0, 1) := by decide +kernel
theorem dX12_undo_21 : decode cX12_undo 21 = .ok (.aload_n 0, 1) := by decide +kernel
theorem dX12_undo_22 : decode cX12_undo 22 = .ok (.getfield 7, 3) := by decide +kernel
theorem dX12_undo_25 : decode cX12_undo 25 = .ok (.iconst 0, 1) := by decide +kernel
theorem dX12_undo_26 : decode cX12_undo 26 = .ok (.iaload, 1) := by decide +kernel
theorem dX12_undo_27 : decode cX12_undo 27 = .ok (.invokevirtual 131, 3) := by decide +kernel
theorem dX12_undo_30 : decode cX12_undo 30 = .ok (.ifCond .ne 10, 3) := by decide +kernel
theorem dX12_undo_33 : decode cX12_undo 33 = .ok (.aload_n 0, 1) := by decide +kernel
theorem dX12_undo_34 : decode cX12_undo 34 = .ok (.getfield 7, 3) := by decide +kernel
theorem dX12_undo_37 : decode cX12_undo 37 = .ok (.iconst 0, 1) := by decide +kernel
theorem dX12_undo_38 : decode cX12_undo 38 = .ok (.iconst 0, 1) := by decide +kernel
theorem dX12_undo_39 : decode cX12_undo 39 = .ok (.iastore, 1) := by decide +kernel
theorem dX12_undo_40 : decode cX12_undo 40 = .ok (.iconst 1, 1) := by decide +kernel
theorem dX12_undo_41 : decode cX12_undo 41 = .ok (.ireturn, 1) := by decide +kernel
theorem dX12_check_0 : decode cX12_check 0 = .ok (.iload_n 1, 1) := by decide +kernel
theorem dX12_check_1 : decode cX12_check 1 = .ok (.invokestatic 135, 3) := by decide +kernel
theorem dX12_check_4 : decode cX12_check 4 = .ok (.ifCond .eq 21, 3) := by decide +kernel
theorem dX12_check_7 : decode cX12_check 7 = .ok (.iload_n 2, 1) := by decide +kernel
theorem dX12_check_8 : decode cX12_check 8 = .ok (.iconst 0, 1) := by decide +kernel
theorem dX12_check_9 : decode cX12_check 9 = .ok (.bipush 10, 2) := by decide +kernel
theorem dX12_check_11 : decode cX12_check 11 = .ok (.invokestatic 127, 3) := by decide +kernel
theorem dX12_check_14 : decode cX12_check 14 = .ok (.ifCond .eq 11, 3) := by decide +kernel
theorem dX12_check_17 : decode cX12_check 17 = .ok (.iload_n 2, 1) := by decide +kernel
theorem dX12_check_18 : decode cX12_check 18 = .ok (.aload_n 0, 1) := by decide +kernel
theorem dX12_check_19 : decode cX12_check 19 = .ok (.getfield 138, 3) := by decide +kernel
theorem dX12_check_22 : decode cX12_check 22 = .ok (.if_icmp .le 6, 3) := by decide +kernel
theorem dX12_check_25 : decode cX12_check 25 = .ok (.bipush (-2), 2) := by decide +kernel
theorem dX12_check_27 : decode cX12_check 27 = .ok (.ireturn, 1) := by decide +kernel
theorem dX12_check_28 : decode cX12_check 28 = .ok (.aload_n 0, 1) := by decide +kernel
theorem dX12_check_29 : decode cX12_check 29 = .ok (.iconst 0, 1) := by decide +kernel
theorem dX12_check_30 : decode cX12_check 30 = .ok (.putfield 138, 3) := by decide +kernel
theorem dX12_check_33 : decode cX12_check 33 = .ok (.iconst 0, 1) := by decide +kernel
theorem dX12_check_34 : decode cX12_check 34 = .ok (.istore_n 3, 1) := by decide +kernel
theorem dX12_check_35 : decode cX12_check 35 = .ok (.iload_n 3, 1) := by decide +kernel
theorem dX12_check_36 : decode cX12_check 36 = .ok (.iload_n 2, 1) := by decide +kernel
theorem dX12_check_37 : decode cX12_check 37 = .ok (.if_icmp .ge 39, 3) := by decide +kernel
theorem dX12_check_40 : decode cX12_check 40 = .ok (.aload_n 0, 1) := by decide +kernel
theorem dX12_check_41 : decode cX12_check 41 = .ok (.iload_n 3, 1) := by decide +kernel
theorem dX12_check_42 : decode cX12_check 42 = .ok (.invokevirtual 357, 3) := by decide +kernel
theorem dX12_check_45 : decode cX12_check 45 = .ok (.aload_n 0, 1) := by decide +kernel
theorem dX12_check_46 : decode cX12_check 46 = .ok (.iload_n 3, 1) := by decide +kernel
theorem dX12_check_47 : decode cX12_check 47 = .ok (.invokevirtual 131, 3) := by decide +kernel
theorem dX12_check_50 : decode cX12_check 50 = .ok (.ifCond .eq 12, 3) := by decide +kernel
theorem dX12_check_53 : decode cX12_check 53 = .ok (.aload_n 0, 1) := by decide +kernel
theorem dX12_check_54 : decode cX12_check 54 = .ok (.iload_n 1, 1) := by decide +kernel
theorem dX12_check_55 : decode cX12_check 55 = .ok (.iload_n 3, 1) := by decide +kernel
theorem dX12_check_56 : decode cX12_check 56 = .ok (.invokevirtual 299, 3) := by decide +kernel
theorem dX12_check_59 : decode cX12_check 59 = .ok (.goto 6, 3) := by decide +kernel
theorem dX12_check_62 : decode cX12_check 62 = .ok (.sipush 255, 3) := by decide +kernel
theorem dX12_check_65 : decode cX12_check 65 = .ok (.if_icmp .eq 5, 3) := by decide +kernel
theorem dX12_check_68 : decode cX12_check 68 = .ok (.iload_n 3, 1) := by decide +kernel
theorem dX12_check_69 : decode cX12_check 69 = .ok (.ireturn, 1) := by decide +kernel
theorem dX12_check_70 : decode cX12_check 70 = .ok (.iinc 3 1, 3) := by decide +kernel
theorem dX12_check_73 : decode cX12_check 73 = .ok (.goto (-38), 3) := by decide +kernel
theorem dX12_check_76 : decode cX12_check 76 = .ok (.iconst (-1), 1) := by decide +kernel
theorem dX12_check_77 : decode cX12_check 77 = .ok (.ireturn, 1) := by decide +kernel
theorem dX12_count_0 : decode cX12_count 0 = .ok (.iload_n 1, 1) := by decide +kernel
theorem dX12_count_1 : decode cX12_count 1 = .ok (.tableswitch 132 0 10 #[59, 67, 72, 79, 86, 93, 100, 107, 114, 119, 124], 59) := by decide +kernel
theorem dX12_count_60 : decode cX12_count 60 = .ok (.aload_n 0, 1) := by decide +kernel
theorem dX12_count_61 : decode cX12_count 61 = .ok (.getfield 7, 3) := by decide +kernel
theorem dX12_count_64 : decode cX12_count 64 = .ok (.bipush 6, 2) := by decide +kernel
theorem dX12_count_66 : decode cX12_count 66 = .ok (.iaload, 1) := by decide +kernel
theorem dX12_count_67 : decode cX12_count 67 = .ok (.ireturn, 1) := by decide +kernel
theorem dX12_count_68 : decode cX12_count 68 = .ok (.aload_n 0, 1) := by decide +kernel
theorem dX12_count_69 : decode cX12_count 69 = .ok (.getfield 123, 3) := by decide +kernel
theorem dX12_count_72 : decode cX12_count 72 = .ok (.ireturn, 1) := by decide +kernel
theorem dX12_count_73 : decode cX12_count 73 = .ok (.aload_n 0, 1) := by decide +kernel
theorem dX12_count_74 : decode cX12_count 74 = .ok (.getfield 7, 3) := by decide +kernel
theorem dX12_count_77 : decode cX12_count 77 = .ok (.iconst 0, 1) := by decide +kernel
theorem dX12_count_78 : decode cX12_count 78 = .ok (.iaload, 1) := by decide +kernel
theorem dX12_count_79 : decode cX12_count 79 = .ok (.ireturn, 1) := by decide +kernel
theorem dX12_count_80 : decode cX12_count 80 = .ok (.aload_n 0, 1) := by decide +kernel
theorem dX12_count_81 : decode cX12_count 81 = .ok (.getfield 7, 3) := by decide +kernel
theorem dX12_count_84 : decode cX12_count 84 = .ok (.iconst 1, 1) := by decide +kernel
theorem dX12_count_85 : decode cX12_count 85 = .ok (.iaload, 1) := by decide +kernel
theorem dX12_count_86 : decode cX12_count 86 = .ok (.ireturn, 1) := by decide +kernel
theorem dX12_count_87 : decode cX12_count 87 = .ok (.aload_n 0, 1) := by decide +kernel
theorem dX12_count_88 : decode cX12_count 88 = .ok (.getfield 7, 3) := by decide +kernel
theorem dX12_count_91 : decode cX12_count 91 = .ok (.iconst 2, 1) := by decide +kernel
theorem dX12_count_92 : decode cX12_count 92 = .ok (.iaload, 1) := by decide +kernel
theorem dX12_count_93 : decode cX12_count 93 = .ok (.ireturn, 1) := by decide +kernel
theorem dX12_count_94 : decode cX12_count 94 = .ok (.aload_n 0, 1) := by decide +kernel
theorem dX12_count_95 : decode cX12_count 95 = .ok (.getfield 7, 3) := by decide +kernel
theorem dX12_count_98 : decode cX12_count 98 = .ok (.iconst 3, 1) := by decide +kernel
theorem dX12_count_99 : decode cX12_count 99 = .ok (.iaload, 1) := by decide +kernel
theorem dX12_count_100 : decode cX12_count 100 = .ok (.ireturn, 1) := by decide +kernel
theorem dX12_count_101 : decode cX12_count 101 = .ok (.aload_n 0, 1) := by decide +kernel
theorem dX12_count_102 : decode cX12_count 102 = .ok (.getfield 7, 3) := by decide +kernel
theorem dX12_count_105 : decode cX12_count 105 = .ok (.iconst 4, 1) := by decide +kernel
theorem dX12_count_106 : decode cX12_count 106 = .ok (.iaload, 1) := by decide +kernel
theorem dX12_count_107 : decode cX12_count 107 = .ok (.ireturn, 1) := by decide +kernel
theorem dX12_count_108 : decode cX12_count 108 = .ok (.aload_n 0, 1) := by decide +kernel
theorem dX12_count_109 : decode cX12_count 109 = .ok (.getfield 7, 3) := by decide +kernel
theorem dX12_count_112 : decode cX12_count 112 = .ok (.iconst 5, 1) := by decide +kernel
theorem dX12_count_113 : decode cX12_count 113 = .ok (.iaload, 1) := by decide +kernel
theorem dX12_count_114 : decode cX12_count 114 = .ok (.ireturn, 1) := by decide +kernel
theorem dX12_count_115 : decode cX12_count 115 = .ok (.aload_n 0, 1) := by decide +kernel
theorem dX12_count_116 : decode cX12_count 116 = .ok (.getfield 238, 3) := by decide +kernel
theorem dX12_count_119 : decode cX12_count 119 = .ok (.ireturn, 1) := by decide +kernel
theorem dX12_count_120 : decode cX12_count 120 = .ok (.aload_n 0, 1) := by decide +kernel
theorem dX12_count_121 : decode cX12_count 121 = .ok (.getfield 138, 3) := by decide +kernel
theorem dX12_count_124 : decode cX12_count 124 = .ok (.ireturn, 1) := by decide +kernel
theorem dX12_count_125 : decode cX12_count 125 = .ok (.aload_n 0, 1) := by decide +kernel
theorem dX12_count_126 : decode cX12_count 126 = .ok (.getfield 7, 3) := by decide +kernel
theorem dX12_count_129 : decode cX12_count 129 = .ok (.bipush 7, 2) := by decide +kernel
theorem dX12_count_131 : decode cX12_count 131 = .ok (.iaload, 1) := by decide +kernel
theorem dX12_count_132 : decode cX12_count 132 = .ok (.ireturn, 1) := by decide +kernel
theorem dX12_count_133 : decode cX12_count 133 = .ok (.iconst (-1), 1) := by decide +kernel
theorem dX12_count_134 : decode cX12_count 134 = .ok (.ireturn, 1) := by decide +kernel
