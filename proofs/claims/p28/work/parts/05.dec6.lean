theorem dX12_reckonsTo_187 : decode cX12_reckonsTo 187 = .ok (.bipush 6, 2) := by decide +kernel
theorem dX12_reckonsTo_189 : decode cX12_reckonsTo 189 = .ok (.if_icmp .ne 14, 3) := by decide +kernel
theorem dX12_reckonsTo_192 : decode cX12_reckonsTo 192 = .ok (.aload_n 0, 1) := by decide +kernel
theorem dX12_reckonsTo_193 : decode cX12_reckonsTo 193 = .ok (.getfield 65, 3) := by decide +kernel
theorem dX12_reckonsTo_196 : decode cX12_reckonsTo 196 = .ok (.iload_n 3, 1) := by decide +kernel
theorem dX12_reckonsTo_197 : decode cX12_reckonsTo 197 = .ok (.iaload, 1) := by decide +kernel
theorem dX12_reckonsTo_198 : decode cX12_reckonsTo 198 = .ok (.ifCond .ne 5, 3) := by decide +kernel
theorem dX12_reckonsTo_201 : decode cX12_reckonsTo 201 = .ok (.iconst 0, 1) := by decide +kernel
theorem dX12_reckonsTo_202 : decode cX12_reckonsTo 202 = .ok (.ireturn, 1) := by decide +kernel
theorem dX12_reckonsTo_203 : decode cX12_reckonsTo 203 = .ok (.aload_n 0, 1) := by decide +kernel
theorem dX12_reckonsTo_204 : decode cX12_reckonsTo 204 = .ok (.getfield 65, 3) := by decide +kernel
theorem dX12_reckonsTo_207 : decode cX12_reckonsTo 207 = .ok (.iload_n 3, 1) := by decide +kernel
theorem dX12_reckonsTo_208 : decode cX12_reckonsTo 208 = .ok (.iconst 1, 1) := by decide +kernel
theorem dX12_reckonsTo_209 : decode cX12_reckonsTo 209 = .ok (.isub, 1) := by decide +kernel
theorem dX12_reckonsTo_210 : decode cX12_reckonsTo 210 = .ok (.iload 6, 2) := by decide +kernel
theorem dX12_reckonsTo_212 : decode cX12_reckonsTo 212 = .ok (.aload_n 0, 1) := by decide +kernel
theorem dX12_reckonsTo_213 : decode cX12_reckonsTo 213 = .ok (.getfield 65, 3) := by decide +kernel
theorem dX12_reckonsTo_216 : decode cX12_reckonsTo 216 = .ok (.iload_n 3, 1) := by decide +kernel
theorem dX12_reckonsTo_217 : decode cX12_reckonsTo 217 = .ok (.iconst 1, 1) := by decide +kernel
theorem dX12_reckonsTo_218 : decode cX12_reckonsTo 218 = .ok (.isub, 1) := by decide +kernel
theorem dX12_reckonsTo_219 : decode cX12_reckonsTo 219 = .ok (.iaload, 1) := by decide +kernel
theorem dX12_reckonsTo_220 : decode cX12_reckonsTo 220 = .ok (.aload_n 0, 1) := by decide +kernel
theorem dX12_reckonsTo_221 : decode cX12_reckonsTo 221 = .ok (.getfield 65, 3) := by decide +kernel
theorem dX12_reckonsTo_224 : decode cX12_reckonsTo 224 = .ok (.iload_n 3, 1) := by decide +kernel
theorem dX12_reckonsTo_225 : decode cX12_reckonsTo 225 = .ok (.iaload, 1) := by decide +kernel
theorem dX12_reckonsTo_226 : decode cX12_reckonsTo 226 = .ok (.invokestatic 241, 3) := by decide +kernel
theorem dX12_reckonsTo_229 : decode cX12_reckonsTo 229 = .ok (.iastore, 1) := by decide +kernel
theorem dX12_reckonsTo_230 : decode cX12_reckonsTo 230 = .ok (.goto (-214), 3) := by decide +kernel
theorem dX12_reckonsTo_233 : decode cX12_reckonsTo 233 = .ok (.aload_n 0, 1) := by decide +kernel
theorem dX12_reckonsTo_234 : decode cX12_reckonsTo 234 = .ok (.getfield 65, 3) := by decide +kernel
theorem dX12_reckonsTo_237 : decode cX12_reckonsTo 237 = .ok (.iconst 0, 1) := by decide +kernel
theorem dX12_reckonsTo_238 : decode cX12_reckonsTo 238 = .ok (.iaload, 1) := by decide +kernel
theorem dX12_reckonsTo_239 : decode cX12_reckonsTo 239 = .ok (.ireturn, 1) := by decide +kernel
theorem dX12_reckon_0 : decode cX12_reckon 0 = .ok (.iload_n 0, 1) := by decide +kernel
theorem dX12_reckon_1 : decode cX12_reckon 1 = .ok (.tableswitch 85 2 8 #[43, 47, 51, 55, 59, 63, 74], 43) := by decide +kernel
theorem dX12_reckon_44 : decode cX12_reckon 44 = .ok (.iload_n 1, 1) := by decide +kernel
theorem dX12_reckon_45 : decode cX12_reckon 45 = .ok (.iload_n 2, 1) := by decide +kernel
theorem dX12_reckon_46 : decode cX12_reckon 46 = .ok (.iadd, 1) := by decide +kernel
theorem dX12_reckon_47 : decode cX12_reckon 47 = .ok (.ireturn, 1) := by decide +kernel
theorem dX12_reckon_48 : decode cX12_reckon 48 = .ok (.iload_n 1, 1) := by decide +kernel
theorem dX12_reckon_49 : decode cX12_reckon 49 = .ok (.iload_n 2, 1) := by decide +kernel
theorem dX12_reckon_50 : decode cX12_reckon 50 = .ok (.isub, 1) := by decide +kernel
theorem dX12_reckon_51 : decode cX12_reckon 51 = .ok (.ireturn, 1) := by decide +kernel
theorem dX12_reckon_52 : decode cX12_reckon 52 = .ok (.iload_n 1, 1) := by decide +kernel
theorem dX12_reckon_53 : decode cX12_reckon 53 = .ok (.iload_n 2, 1) := by decide +kernel
theorem dX12_reckon_54 : decode cX12_reckon 54 = .ok (.imul, 1) := by decide +kernel
theorem dX12_reckon_55 : decode cX12_reckon 55 = .ok (.ireturn, 1) := by decide +kernel
theorem dX12_reckon_56 : decode cX12_reckon 56 = .ok (.iload_n 1, 1) := by decide +kernel
theorem dX12_reckon_57 : decode cX12_reckon 57 = .ok (.iload_n 2, 1) := by decide +kernel
theorem dX12_reckon_58 : decode cX12_reckon 58 = .ok (.idiv, 1) := by decide +kernel
theorem dX12_reckon_59 : decode cX12_reckon 59 = .ok (.ireturn, 1) := by decide +kernel
theorem dX12_reckon_60 : decode cX12_reckon 60 = .ok (.iload_n 1, 1) := by decide +kernel
theorem dX12_reckon_61 : decode cX12_reckon 61 = .ok (.iload_n 2, 1) := by decide +kernel
theorem dX12_reckon_62 : decode cX12_reckon 62 = .ok (.irem, 1) := by decide +kernel
theorem dX12_reckon_63 : decode cX12_reckon 63 = .ok (.ireturn, 1) := by decide +kernel
theorem dX12_reckon_64 : decode cX12_reckon 64 = .ok (.iload_n 1, 1) := by decide +kernel
theorem dX12_reckon_65 : decode cX12_reckon 65 = .ok (.iload_n 2, 1) := by decide +kernel
theorem dX12_reckon_66 : decode cX12_reckon 66 = .ok (.if_icmp .ge 7, 3) := by decide +kernel
theorem dX12_reckon_69 : decode cX12_reckon 69 = .ok (.iconst 1, 1) := by decide +kernel
theorem dX12_reckon_70 : decode cX12_reckon 70 = .ok (.goto 4, 3) := by decide +kernel
theorem dX12_reckon_73 : decode cX12_reckon 73 = .ok (.iconst 0, 1) := by decide +kernel
theorem dX12_reckon_74 : decode cX12_reckon 74 = .ok (.ireturn, 1) := by decide +kernel
theorem dX12_reckon_75 : decode cX12_reckon 75 = .ok (.iload_n 1, 1) := by decide +kernel
theorem dX12_reckon_76 : decode cX12_reckon 76 = .ok (.iload_n 2, 1) := by decide +kernel
theorem dX12_reckon_77 : decode cX12_reckon 77 = .ok (.if_icmp .le 7, 3) := by decide +kernel
theorem dX12_reckon_80 : decode cX12_reckon 80 = .ok (.iconst 1, 1) := by decide +kernel
theorem dX12_reckon_81 : decode cX12_reckon 81 = .ok (.goto 4, 3) := by decide +kernel
theorem dX12_reckon_84 : decode cX12_reckon 84 = .ok (.iconst 0, 1) := by decide +kernel
theorem dX12_reckon_85 : decode cX12_reckon 85 = .ok (.ireturn, 1) := by decide +kernel
theorem dX12_reckon_86 : decode cX12_reckon 86 = .ok (.iload_n 1, 1) := by decide +kernel
theorem dX12_reckon_87 : decode cX12_reckon 87 = .ok (.iload_n 2, 1) := by decide +kernel
theorem dX12_reckon_88 : decode cX12_reckon 88 = .ok (.if_icmp .ne 7, 3) := by decide +kernel
theorem dX12_reckon_91 : decode cX12_reckon 91 = .ok (.iconst 1, 1) := by decide +kernel
theorem dX12_reckon_92 : decode cX12_reckon 92 = .ok (.goto 4, 3) := by decide +kernel
theorem dX12_reckon_95 : decode cX12_reckon 95 = .ok (.iconst 0, 1) := by decide +kernel
theorem dX12_reckon_96 : decode cX12_reckon 96 = .ok (.ireturn, 1) := by decide +kernel
theorem dX12_byLaw_0 : decode cX12_byLaw 0 = .ok (.iconst 0, 1) := by decide +kernel
theorem dX12_byLaw_1 : decode cX12_byLaw 1 = .ok (.istore_n 3, 1) := by decide +kernel
theorem dX12_byLaw_2 : decode cX12_byLaw 2 = .ok (.iload_n 3, 1) := by decide +kernel
theorem dX12_byLaw_3 : decode cX12_byLaw 3 = .ok (.aload_n 0, 1) := by decide +kernel
theorem dX12_byLaw_4 : decode cX12_byLaw 4 = .ok (.getfield 238, 3) := by decide +kernel
theorem dX12_byLaw_7 : decode cX12_byLaw 7 = .ok (.if_icmp .ge 82, 3) := by decide +kernel
theorem dX12_byLaw_10 : decode cX12_byLaw 10 = .ok (.aload_n 0, 1) := by decide +kernel
theorem dX12_byLaw_11 : decode cX12_byLaw 11 = .ok (.getfield 53, 3) := by decide +kernel
theorem dX12_byLaw_14 : decode cX12_byLaw 14 = .ok (.iload_n 3, 1) := by decide +kernel
theorem dX12_byLaw_15 : decode cX12_byLaw 15 = .ok (.iaload, 1) := by decide +kernel
theorem dX12_byLaw_16 : decode cX12_byLaw 16 = .ok (.iload_n 1, 1) := by decide +kernel
theorem dX12_byLaw_17 : decode cX12_byLaw 17 = .ok (.if_icmp .ne 66, 3) := by decide +kernel
theorem dX12_byLaw_20 : decode cX12_byLaw 20 = .ok (.aload_n 0, 1) := by decide +kernel
theorem dX12_byLaw_21 : decode cX12_byLaw 21 = .ok (.aload_n 0, 1) := by decide +kernel
theorem dX12_byLaw_22 : decode cX12_byLaw 22 = .ok (.getfield 59, 3) := by decide +kernel
theorem dX12_byLaw_25 : decode cX12_byLaw 25 = .ok (.iload_n 3, 1) := by decide +kernel
theorem dX12_byLaw_26 : decode cX12_byLaw 26 = .ok (.iaload, 1) := by decide +kernel
theorem dX12_byLaw_27 : decode cX12_byLaw 27 = .ok (.aload_n 0, 1) := by decide +kernel
theorem dX12_byLaw_28 : decode cX12_byLaw 28 = .ok (.getfield 62, 3) := by decide +kernel
theorem dX12_byLaw_31 : decode cX12_byLaw 31 = .ok (.iload_n 3, 1) := by decide +kernel
theorem dX12_byLaw_32 : decode cX12_byLaw 32 = .ok (.iaload, 1) := by decide +kernel
theorem dX12_byLaw_33 : decode cX12_byLaw 33 = .ok (.invokevirtual 245, 3) := by decide +kernel
theorem dX12_byLaw_36 : decode cX12_byLaw 36 = .ok (.iconst 1, 1) := by decide +kernel
theorem dX12_byLaw_37 : decode cX12_byLaw 37 = .ok (.if_icmp .eq 6, 3) := by decide +kernel
theorem dX12_byLaw_40 : decode cX12_byLaw 40 = .ok (.goto 43, 3) := by decide +kernel
theorem dX12_byLaw_43 : decode cX12_byLaw 43 = .ok (.aload_n 0, 1) := by decide +kernel
theorem dX12_byLaw_44 : decode cX12_byLaw 44 = .ok (.aload_n 0, 1) := by decide +kernel
theorem dX12_byLaw_45 : decode cX12_byLaw 45 = .ok (.getfield 56, 3) := by decide +kernel
theorem dX12_byLaw_48 : decode cX12_byLaw 48 = .ok (.iload_n 3, 1) := by decide +kernel
theorem dX12_byLaw_49 : decode cX12_byLaw 49 = .ok (.iaload, 1) := by decide +kernel
theorem dX12_byLaw_50 : decode cX12_byLaw 50 = .ok (.aload_n 0, 1) := by decide +kernel
theorem dX12_byLaw_51 : decode cX12_byLaw 51 = .ok (.getfield 59, 3) := by decide +kernel
theorem dX12_byLaw_54 : decode cX12_byLaw 54 = .ok (.iload_n 3, 1) := by decide +kernel
theorem dX12_byLaw_55 : decode cX12_byLaw 55 = .ok (.iaload, 1) := by decide +kernel
theorem dX12_byLaw_56 : decode cX12_byLaw 56 = .ok (.invokevirtual 245, 3) := by decide +kernel
theorem dX12_byLaw_59 : decode cX12_byLaw 59 = .ok (.istore 4, 2) := by decide +kernel
theorem dX12_byLaw_61 : decode cX12_byLaw 61 = .ok (.iload 4, 2) := by decide +kernel
theorem dX12_byLaw_63 : decode cX12_byLaw 63 = .ok (.ifCond .ge 7, 3) := by decide +kernel
theorem dX12_byLaw_66 : decode cX12_byLaw 66 = .ok (.iconst 0, 1) := by decide +kernel
theorem dX12_byLaw_67 : decode cX12_byLaw 67 = .ok (.goto 15, 3) := by decide +kernel
theorem dX12_byLaw_70 : decode cX12_byLaw 70 = .ok (.iload 4, 2) := by decide +kernel
theorem dX12_byLaw_72 : decode cX12_byLaw 72 = .ok (.iload_n 2, 1) := by decide +kernel
theorem dX12_byLaw_73 : decode cX12_byLaw 73 = .ok (.if_icmp .le 7, 3) := by decide +kernel
theorem dX12_byLaw_76 : decode cX12_byLaw 76 = .ok (.iload_n 2, 1) := by decide +kernel
theorem dX12_byLaw_77 : decode cX12_byLaw 77 = .ok (.goto 5, 3) := by decide +kernel
theorem dX12_byLaw_80 : decode cX12_byLaw 80 = .ok (.iload 4, 2) := by decide +kernel
theorem dX12_byLaw_82 : decode cX12_byLaw 82 = .ok (.ireturn, 1) := by decide +kernel
theorem dX12_byLaw_83 : decode cX12_byLaw 83 = .ok (.iinc 3 1, 3) := by decide +kernel
theorem dX12_byLaw_86 : decode cX12_byLaw 86 = .ok (.goto (-84), 3) := by decide +kernel
theorem dX12_byLaw_89 : decode cX12_byLaw 89 = .ok (.iconst 0, 1) := by decide +kernel
theorem dX12_byLaw_90 : decode cX12_byLaw 90 = .ok (.ireturn, 1) := by decide +kernel
theorem dX12_tried_0 : decode cX12_tried 0 = .ok (.iload_n 1, 1) := by decide +kernel
theorem dX12_tried_1 : decode cX12_tried 1 = .ok (.iconst 1, 1) := by decide +kernel
theorem dX12_tried_2 : decode cX12_tried 2 = .ok (.bipush 100, 2) := by decide +kernel
theorem dX12_tried_4 : decode cX12_tried 4 = .ok (.invokestatic 127, 3) := by decide +kernel
theorem dX12_tried_7 : decode cX12_tried 7 = .ok (.ifCond .eq 12, 3) := by decide +kernel
theorem dX12_tried_10 : decode cX12_tried 10 = .ok (.iload_n 2, 1) := by decide +kernel
theorem dX12_tried_11 : decode cX12_tried 11 = .ok (.iconst 0, 1) := by decide +kernel
theorem dX12_tried_12 : decode cX12_tried 12 = .ok (.iconst 5, 1) := by decide +kernel
theorem dX12_tried_13 : decode cX12_tried 13 = .ok (.invokestatic 127, 3) := by decide +kernel
theorem dX12_tried_16 : decode cX12_tried 16 = .ok (.ifCond .ne 5, 3) := by decide +kernel
theorem dX12_tried_19 : decode cX12_tried 19 = .ok (.iconst (-1), 1) := by decide +kernel
theorem dX12_tried_20 : decode cX12_tried 20 = .ok (.ireturn, 1) := by decide +kernel
theorem dX12_tried_21 : decode cX12_tried 21 = .ok (.aload_n 0, 1) := by decide +kernel
theorem dX12_tried_22 : decode cX12_tried 22 = .ok (.getfield 7, 3) := by decide +kernel
theorem dX12_tried_25 : decode cX12_tried 25 = .ok (.aload_n 0, 1) := by decide +kernel
theorem dX12_tried_26 : decode cX12_tried 26 = .ok (.getfield 13, 3) := by decide +kernel
theorem dX12_tried_29 : decode cX12_tried 29 = .ok (.invokestatic 318, 3) := by decide +kernel
theorem dX12_tried_32 : decode cX12_tried 32 = .ok (.aload_n 0, 1) := by decide +kernel
theorem dX12_tried_33 : decode cX12_tried 33 = .ok (.iload_n 1, 1) := by decide +kernel
theorem dX12_tried_34 : decode cX12_tried 34 = .ok (.invokevirtual 351, 3) := by decide +kernel
theorem dX12_tried_37 : decode cX12_tried 37 = .ok (.iload_n 2, 1) := by decide +kernel
theorem dX12_tried_38 : decode cX12_tried 38 = .ok (.tableswitch 80 0 4 #[34, 42, 50, 60, 70], 34) := by decide +kernel
theorem dX12_tried_72 : decode cX12_tried 72 = .ok (.aload_n 0, 1) := by decide +kernel
theorem dX12_tried_73 : decode cX12_tried 73 = .ok (.getfield 345, 3) := by decide +kernel
theorem dX12_tried_76 : decode cX12_tried 76 = .ok (.istore_n 3, 1) := by decide +kernel
theorem dX12_tried_77 : decode cX12_tried 77 = .ok (.goto 48, 3) := by decide +kernel
theorem dX12_tried_80 : decode cX12_tried 80 = .ok (.aload_n 0, 1) := by decide +kernel
theorem dX12_tried_81 : decode cX12_tried 81 = .ok (.getfield 309, 3) := by decide +kernel
theorem dX12_tried_84 : decode cX12_tried 84 = .ok (.istore_n 3, 1) := by decide +kernel
theorem dX12_tried_85 : decode cX12_tried 85 = .ok (.goto 40, 3) := by decide +kernel
theorem dX12_tried_88 : decode cX12_tried 88 = .ok (.aload_n 0, 1) := by decide +kernel
theorem dX12_tried_89 : decode cX12_tried 89 = .ok (.getfield 7, 3) := by decide +kernel
theorem dX12_tried_92 : decode cX12_tried 92 = .ok (.iconst 3, 1) := by decide +kernel
theorem dX12_tried_93 : decode cX12_tried 93 = .ok (.iaload, 1) := by decide +kernel
theorem dX12_tried_94 : decode cX12_tried 94 = .ok (.istore_n 3, 1) := by decide +kernel
theorem dX12_tried_95 : decode cX12_tried 95 = .ok (.goto 30, 3) := by decide +kernel
theorem dX12_tried_98 : decode cX12_tried 98 = .ok (.aload_n 0, 1) := by decide +kernel
theorem dX12_tried_99 : decode cX12_tried 99 = .ok (.getfield 7, 3) := by decide +kernel
theorem dX12_tried_102 : decode cX12_tried 102 = .ok (.iconst 0, 1) := by decide +kernel
theorem dX12_tried_103 : decode cX12_tried 103 = .ok (.iaload, 1) := by decide +kernel
theorem dX12_tried_104 : decode cX12_tried 104 = .ok (.istore_n 3, 1) := by decide +kernel
theorem dX12_tried_105 : decode cX12_tried 105 = .ok (.goto 20, 3) := by decide +kernel
theorem dX12_tried_108 : decode cX12_tried 108 = .ok (.aload_n 0, 1) := by decide +kernel
theorem dX12_tried_109 : decode cX12_tried 109 = .ok (.getfield 7, 3) := by decide +kernel
theorem dX12_tried_112 : decode cX12_tried 112 = .ok (.iconst 1, 1) := by decide +kernel
theorem dX12_tried_113 : decode cX12_tried 113 = .ok (.iaload, 1) := by decide +kernel
theorem dX12_tried_114 : decode cX12_tried 114 = .ok (.istore_n 3, 1) := by decide +kernel
theorem dX12_tried_115 : decode cX12_tried 115 = .ok (.goto 10, 3) := by decide +kernel
theorem dX12_tried_118 : decode cX12_tried 118 = .ok (.aload_n 0, 1) := by decide +kernel
theorem dX12_tried_119 : decode cX12_tried 119 = .ok (.getfield 7, 3) := by decide +kernel
theorem dX12_tried_122 : decode cX12_tried 122 = .ok (.iconst 2, 1) := by decide +kernel
theorem dX12_tried_123 : decode cX12_tried 123 = .ok (.iaload, 1) := by decide +kernel
theorem dX12_tried_124 : decode cX12_tried 124 = .ok (.istore_n 3, 1) := by decide +kernel
theorem dX12_tried_125 : decode cX12_tried 125 = .ok (.aload_n 0, 1) := by decide +kernel
theorem dX12_tried_126 : decode cX12_tried 126 = .ok (.getfield 13, 3) := by decide +kernel
theorem dX12_tried_129 : decode cX12_tried 129 = .ok (.aload_n 0, 1) := by decide +kernel
theorem dX12_tried_130 : decode cX12_tried 130 = .ok (.getfield 7, 3) := by decide +kernel
theorem dX12_tried_133 : decode cX12_tried 133 = .ok (.invokestatic 318, 3) := by decide +kernel
theorem dX12_tried_136 : decode cX12_tried 136 = .ok (.iload_n 3, 1) := by decide +kernel
theorem dX12_tried_137 : decode cX12_tried 137 = .ok (.ireturn, 1) := by decide +kernel
theorem dX12_askedAt_0 : decode cX12_askedAt 0 = .ok (.iload_n 1, 1) := by decide +kernel
theorem dX12_askedAt_1 : decode cX12_askedAt 1 = .ok (.invokestatic 135, 3) := by decide +kernel
theorem dX12_askedAt_4 : decode cX12_askedAt 4 = .ok (.ifCond .eq 20, 3) := by decide +kernel
theorem dX12_askedAt_7 : decode cX12_askedAt 7 = .ok (.aload_n 0, 1) := by decide +kernel
theorem dX12_askedAt_8 : decode cX12_askedAt 8 = .ok (.iload_n 2, 1) := by decide +kernel
theorem dX12_askedAt_9 : decode cX12_askedAt 9 = .ok (.invokevirtual 131, 3) := by decide +kernel
theorem dX12_askedAt_12 : decode cX12_askedAt 12 = .ok (.ifCond .eq 12, 3) := by decide +kernel
theorem dX12_askedAt_15 : decode cX12_askedAt 15 = .ok (.iload_n 3, 1) := by decide +kernel
theorem dX12_askedAt_16 : decode cX12_askedAt 16 = .ok (.iconst 0, 1) := by decide +kernel
theorem dX12_askedAt_17 : decode cX12_askedAt 17 = .ok (.iconst 1, 1) := by decide +kernel
theorem dX12_askedAt_18 : decode cX12_askedAt 18 = .ok (.invokestatic 127, 3) := by decide +kernel
theorem dX12_askedAt_21 : decode cX12_askedAt 21 = .ok (.ifCond .ne 5, 3) := by decide +kernel
theorem dX12_askedAt_24 : decode cX12_askedAt 24 = .ok (.iconst (-1), 1) := by decide +kernel
theorem dX12_askedAt_25 : decode cX12_askedAt 25 = .ok (.ireturn, 1) := by decide +kernel
theorem dX12_askedAt_26 : decode cX12_askedAt 26 = .ok (.iload_n 3, 1) := by decide +kernel
theorem dX12_askedAt_27 : decode cX12_askedAt 27 = .ok (.ifCond .ne 12, 3) := by decide +kernel
theorem dX12_askedAt_30 : decode cX12_askedAt 30 = .ok (.aload_n 0, 1) := by decide +kernel
theorem dX12_askedAt_31 : decode cX12_askedAt 31 = .ok (.iload_n 1, 1) := by decide +kernel
theorem dX12_askedAt_32 : decode cX12_askedAt 32 = .ok (.iload_n 2, 1) := by decide +kernel
theorem dX12_askedAt_33 : decode cX12_askedAt 33 = .ok (.invokevirtual 299, 3) := by decide +kernel
theorem dX12_askedAt_36 : decode cX12_askedAt 36 = .ok (.goto 9, 3) := by decide +kernel
theorem dX12_askedAt_39 : decode cX12_askedAt 39 = .ok (.aload_n 0, 1) := by decide +kernel
theorem dX12_askedAt_40 : decode cX12_askedAt 40 = .ok (.iload_n 1, 1) := by decide +kernel
theorem dX12_askedAt_41 : decode cX12_askedAt 41 = .ok (.iload_n 2, 1) := by decide +kernel
theorem dX12_askedAt_42 : decode cX12_askedAt 42 = .ok (.invokevirtual 306, 3) := by decide +kernel
theorem dX12_askedAt_45 : decode cX12_askedAt 45 = .ok (.ireturn, 1) := by decide +kernel
theorem dX12_changePlaces_0 : decode cX12_changePlaces 0 = .ok (.aload_n 0, 1) := by decide +kernel
theorem dX12_changePlaces_1 : decode cX12_changePlaces 1 = .ok (.getfield 123, 3) := by decide +kernel
theorem dX12_changePlaces_4 : decode cX12_changePlaces 4 = .ok (.ifCond .eq 17, 3) := by decide +kernel
theorem dX12_changePlaces_7 : decode cX12_changePlaces 7 = .ok (.iload_n 1, 1) := by decide +kernel
theorem dX12_changePlaces_8 : decode cX12_changePlaces 8 = .ok (.invokestatic 135, 3) := by decide +kernel
theorem dX12_changePlaces_11 : decode cX12_changePlaces 11 = .ok (.ifCond .eq 10, 3) := by decide +kernel
theorem dX12_changePlaces_14 : decode cX12_changePlaces 14 = .ok (.iload_n 2, 1) := by decide +kernel
theorem dX12_changePlaces_15 : decode cX12_changePlaces 15 = .ok (.invokestatic 135, 3) := by decide +kernel
theorem dX12_changePlaces_18 : decode cX12_changePlaces 18 = .ok (.ifCond .ne 5, 3) := by decide +kernel
theorem dX12_changePlaces_21 : decode cX12_changePlaces 21 = .ok (.iconst (-1), 1) := by decide +kernel
theorem dX12_changePlaces_22 : decode cX12_changePlaces 22 = .ok (.ireturn, 1) := by decide +kernel
theorem dX12_changePlaces_23 : decode cX12_changePlaces 23 = .ok (.aload_n 0, 1) := by decide +kernel
theorem dX12_changePlaces_24 : decode cX12_changePlaces 24 = .ok (.iload_n 1, 1) := by decide +kernel
theorem dX12_changePlaces_25 : decode cX12_changePlaces 25 = .ok (.iload_n 2, 1) := by decide +kernel
theorem dX12_changePlaces_26 : decode cX12_changePlaces 26 = .ok (.invokevirtual 354, 3) := by decide +kernel
theorem dX12_changePlaces_29 : decode cX12_changePlaces 29 = .ok (.ifCond .eq 7, 3) := by decide +kernel
theorem dX12_changePlaces_32 : decode cX12_changePlaces 32 = .ok (.iconst 1, 1) := by decide +kernel
theorem dX12_changePlaces_33 : decode cX12_changePlaces 33 = .ok (.goto 4, 3) := by decide +kernel
theorem dX12_changePlaces_36 : decode cX12_changePlaces 36 = .ok (.iconst 0, 1) := by decide +kernel
theorem dX12_changePlaces_37 : decode cX12_changePlaces 37 = .ok (.ireturn, 1) := by decide +kernel
theorem dX12_mayChange_0 : decode cX12_mayChange 0 = .ok (.iconst 0, 1) := by decide +kernel
theorem dX12_mayChange_1 : decode cX12_mayChange 1 = .ok (.istore_n 3, 1) := by decide +kernel
theorem dX12_mayChange_2 : decode cX12_mayChange 2 = .ok (.iload_n 3, 1) := by decide +kernel
theorem dX12_mayChange_3 : decode cX12_mayChange 3 = .ok (.aload_n 0, 1) := by decide +kernel
theorem dX12_mayChange_4 : decode cX12_mayChange 4 = .ok (.getfield 123, 3) := by decide +kernel
theorem dX12_mayChange_7 : decode cX12_mayChange 7 = .ok (.if_icmp .ge 81, 3) := by decide +kernel
theorem dX12_mayChange_10 : decode cX12_mayChange 10 = .ok (.iload_n 1, 1) := by decide +kernel
theorem dX12_mayChange_11 : decode cX12_mayChange 11 = .ok (.iload_n 2, 1) := by decide +kernel
theorem dX12_mayChange_12 : decode cX12_mayChange 12 = .ok (.if_icmp .eq 76, 3) := by decide +kernel
theorem dX12_mayChange_15 : decode cX12_mayChange 15 = .ok (.aload_n 0, 1) := by decide +kernel
theorem dX12_mayChange_16 : decode cX12_mayChange 16 = .ok (.iload_n 1, 1) := by decide +kernel
theorem dX12_mayChange_17 : decode cX12_mayChange 17 = .ok (.iload_n 3, 1) := by decide +kernel
theorem dX12_mayChange_18 : decode cX12_mayChange 18 = .ok (.invokevirtual 306, 3) := by decide +kernel
theorem dX12_mayChange_21 : decode cX12_mayChange 21 = .ok (.istore 4, 2) := by decide +kernel
theorem dX12_mayChange_23 : decode cX12_mayChange 23 = .ok (.aload_n 0, 1) := by decide +kernel
theorem dX12_mayChange_24 : decode cX12_mayChange 24 = .ok (.iload_n 2, 1) := by decide +kernel
theorem dX12_mayChange_25 : decode cX12_mayChange 25 = .ok (.iload_n 3, 1) := by decide +kernel
theorem dX12_mayChange_26 : decode cX12_mayChange 26 = .ok (.invokevirtual 306, 3) := by decide +kernel
theorem dX12_mayChange_29 : decode cX12_mayChange 29 = .ok (.istore 5, 2) := by decide +kernel
theorem dX12_mayChange_31 : decode cX12_mayChange 31 = .ok (.aload_n 0, 1) := by decide +kernel
theorem dX12_mayChange_32 : decode cX12_mayChange 32 = .ok (.iload_n 1, 1) := by decide +kernel
theorem dX12_mayChange_33 : decode cX12_mayChange 33 = .ok (.iload_n 3, 1) := by decide +kernel
theorem dX12_mayChange_34 : decode cX12_mayChange 34 = .ok (.invokevirtual 299, 3) := by decide +kernel
theorem dX12_mayChange_37 : decode cX12_mayChange 37 = .ok (.aload_n 0, 1) := by decide +kernel
theorem dX12_mayChange_38 : decode cX12_mayChange 38 = .ok (.iload_n 1, 1) := by decide +kernel
theorem dX12_mayChange_39 : decode cX12_mayChange 39 = .ok (.iload 5, 2) := by decide +kernel
theorem dX12_mayChange_41 : decode cX12_mayChange 41 = .ok (.invokevirtual 299, 3) := by decide +kernel
theorem dX12_mayChange_44 : decode cX12_mayChange 44 = .ok (.if_icmp .ne 36, 3) := by decide +kernel
theorem dX12_mayChange_47 : decode cX12_mayChange 47 = .ok (.aload_n 0, 1) := by decide +kernel
theorem dX12_mayChange_48 : decode cX12_mayChange 48 = .ok (.iload_n 2, 1) := by decide +kernel
theorem dX12_mayChange_49 : decode cX12_mayChange 49 = .ok (.iload_n 3, 1) := by decide +kernel
theorem dX12_mayChange_50 : decode cX12_mayChange 50 = .ok (.invokevirtual 299, 3) := by decide +kernel
theorem dX12_mayChange_53 : decode cX12_mayChange 53 = .ok (.aload_n 0, 1) := by decide +kernel
theorem dX12_mayChange_54 : decode cX12_mayChange 54 = .ok (.iload_n 2, 1) := by decide +kernel
theorem dX12_mayChange_55 : decode cX12_mayChange 55 = .ok (.iload 4, 2) := by decide +kernel
theorem dX12_mayChange_57 : decode cX12_mayChange 57 = .ok (.invokevirtual 299, 3) := by decide +kernel
theorem dX12_mayChange_60 : decode cX12_mayChange 60 = .ok (.if_icmp .ne 20, 3) := by decide +kernel
theorem dX12_mayChange_63 : decode cX12_mayChange 63 = .ok (.aload_n 0, 1) := by decide +kernel
theorem dX12_mayChange_64 : decode cX12_mayChange 64 = .ok (.iload_n 2, 1) := by decide +kernel
theorem dX12_mayChange_65 : decode cX12_mayChange 65 = .ok (.iload 4, 2) := by decide +kernel
theorem dX12_mayChange_67 : decode cX12_mayChange 67 = .ok (.invokevirtual 306, 3) := by decide +kernel
theorem dX12_mayChange_70 : decode cX12_mayChange 70 = .ok (.aload_n 0, 1) := by decide +kernel
theorem dX12_mayChange_71 : decode cX12_mayChange 71 = .ok (.iload_n 1, 1) := by decide +kernel
theorem dX12_mayChange_72 : decode cX12_mayChange 72 = .ok (.iload 5, 2) := by decide +kernel
theorem dX12_mayChange_74 : decode cX12_mayChange 74 = .ok (.invokevirtual 306, 3) := by decide +kernel
theorem dX12_mayChange_77 : decode cX12_mayChange 77 = .ok (.if_icmp .eq 5, 3) := by decide +kernel
theorem dX12_mayChange_80 : decode cX12_mayChange 80 = .ok (.iconst 0, 1) := by decide +kernel
theorem dX12_mayChange_81 : decode cX12_mayChange 81 = .ok (.ireturn, 1) := by decide +kernel
theorem dX12_mayChange_82 : decode cX12_mayChange 82 = .ok (.iinc 3 1, 3) := by decide +kernel
theorem dX12_mayChange_85 : decode cX12_mayChange 85 = .ok (.goto (-83), 3) := by decide +kernel
theorem dX12_mayChange_88 : decode cX12_mayChange 88 = .ok (.iconst 1, 1) := by decide +kernel
theorem dX12_mayChange_89 : decode cX12_mayChange 89 = .ok (.ireturn, 1) := by decide +kernel
theorem dX12_forms_0 : decode cX12_forms 0 = .ok (.aload_n 0, 1) := by decide +kernel
theorem dX12_forms_1 : decode cX12_forms 1 = .ok (.getfield 123, 3) := by decide +kernel
theorem dX12_forms_4 : decode cX12_forms 4 = .ok (.ifCond .eq 38, 3) := by decide +kernel
theorem dX12_forms_7 : decode cX12_forms 7 = .ok (.iload_n 1, 1) := by decide +kernel
theorem dX12_forms_8 : decode cX12_forms 8 = .ok (.iconst 1, 1) := by decide +kernel
theorem dX12_forms_9 : decode cX12_forms 9 = .ok (.bipush 10, 2) := by decide +kernel
theorem dX12_forms_11 : decode cX12_forms 11 = .ok (.invokestatic 127, 3) := by decide +kernel
theorem dX12_forms_14 : decode cX12_forms 14 = .ok (.ifCond .eq 28, 3) := by decide +kernel
theorem dX12_forms_17 : decode cX12_forms 17 = .ok (.iload_n 2, 1) := by decide +kernel
theorem dX12_forms_18 : decode cX12_forms 18 = .ok (.iconst 0, 1) := by decide +kernel
theorem dX12_forms_19 : decode cX12_forms 19 = .ok (.iload_n 1, 1) := by decide +kernel
theorem dX12_forms_20 : decode cX12_forms 20 = .ok (.iconst 1, 1) := by decide +kernel
theorem dX12_forms_21 : decode cX12_forms 21 = .ok (.isub, 1) := by decide +kernel
theorem dX12_forms_22 : decode cX12_forms 22 = .ok (.invokestatic 127, 3) := by decide +kernel
theorem dX12_forms_25 : decode cX12_forms 25 = .ok (.ifCond .ne 9, 3) := by decide +kernel
theorem dX12_forms_28 : decode cX12_forms 28 = .ok (.iload_n 2, 1) := by decide +kernel
theorem dX12_forms_29 : decode cX12_forms 29 = .ok (.bipush 100, 2) := by decide +kernel
theorem dX12_forms_31 : decode cX12_forms 31 = .ok (.if_icmp .ne 11, 3) := by decide +kernel
theorem dX12_forms_34 : decode cX12_forms 34 = .ok (.iload_n 1, 1) := by decide +kernel
theorem dX12_forms_35 : decode cX12_forms 35 = .ok (.aload_n 0, 1) := by decide +kernel
theorem dX12_forms_36 : decode cX12_forms 36 = .ok (.getfield 138, 3) := by decide +kernel
theorem dX12_forms_39 : decode cX12_forms 39 = .ok (.if_icmp .le 5, 3) := by decide +kernel
theorem dX12_forms_42 : decode cX12_forms 42 = .ok (.iconst (-1), 1) := by decide +kernel
theorem dX12_forms_43 : decode cX12_forms 43 = .ok (.ireturn, 1) := by decide +kernel
theorem dX12_forms_44 : decode cX12_forms 44 = .ok (.aload_n 0, 1) := by decide +kernel
theorem dX12_forms_45 : decode cX12_forms 45 = .ok (.iconst 0, 1) := by decide +kernel
theorem dX12_forms_46 : decode cX12_forms 46 = .ok (.putfield 138, 3) := by decide +kernel
theorem dX12_forms_49 : decode cX12_forms 49 = .ok (.iconst 0, 1) := by decide +kernel
theorem dX12_forms_50 : decode cX12_forms 50 = .ok (.istore_n 3, 1) := by decide +kernel
theorem dX12_forms_51 : decode cX12_forms 51 = .ok (.iload_n 3, 1) := by decide +kernel
theorem dX12_forms_52 : decode cX12_forms 52 = .ok (.iload_n 1, 1) := by decide +kernel
theorem dX12_forms_53 : decode cX12_forms 53 = .ok (.if_icmp .ge 22, 3) := by decide +kernel
theorem dX12_forms_56 : decode cX12_forms 56 = .ok (.aload_n 0, 1) := by decide +kernel
theorem dX12_forms_57 : decode cX12_forms 57 = .ok (.iload_n 3, 1) := by decide +kernel
theorem dX12_forms_58 : decode cX12_forms 58 = .ok (.invokevirtual 357, 3) := by decide +kernel
theorem dX12_forms_61 : decode cX12_forms 61 = .ok (.bipush 8, 2) := by decide +kernel
theorem dX12_forms_63 : decode cX12_forms 63 = .ok (.if_icmp .lt 6, 3) := by decide +kernel
theorem dX12_forms_66 : decode cX12_forms 66 = .ok (.bipush (-3), 2) := by decide +kernel
theorem dX12_forms_68 : decode cX12_forms 68 = .ok (.ireturn, 1) := by decide +kernel
theorem dX12_forms_69 : decode cX12_forms 69 = .ok (.iinc 3 1, 3) := by decide +kernel
theorem dX12_forms_72 : decode cX12_forms 72 = .ok (.goto (-21), 3) := by decide +kernel
theorem dX12_forms_75 : decode cX12_forms 75 = .ok (.aload_n 0, 1) := by decide +kernel
theorem dX12_forms_76 : decode cX12_forms 76 = .ok (.iload_n 1, 1) := by decide +kernel
theorem dX12_forms_77 : decode cX12_forms 77 = .ok (.invokevirtual 363, 3) := by decide +kernel
theorem dX12_forms_80 : decode cX12_forms 80 = .ok (.iload_n 2, 1) := by decide +kernel
theorem dX12_forms_81 : decode cX12_forms 81 = .ok (.bipush 100, 2) := by decide +kernel
theorem dX12_forms_83 : decode cX12_forms 83 = .ok (.if_icmp .ne 11, 3) := by decide +kernel
theorem dX12_forms_86 : decode cX12_forms 86 = .ok (.aload_n 0, 1) := by decide +kernel
theorem dX12_forms_87 : decode cX12_forms 87 = .ok (.iload_n 1, 1) := by decide +kernel
theorem dX12_forms_88 : decode cX12_forms 88 = .ok (.invokevirtual 366, 3) := by decide +kernel
theorem dX12_forms_91 : decode cX12_forms 91 = .ok (.goto 9, 3) := by decide +kernel
theorem dX12_forms_94 : decode cX12_forms 94 = .ok (.aload_n 0, 1) := by decide +kernel
theorem dX12_forms_95 : decode cX12_forms 95 = .ok (.iload_n 1, 1) := by decide +kernel
theorem dX12_forms_96 : decode cX12_forms 96 = .ok (.iload_n 2, 1) := by decide +kernel
theorem dX12_forms_97 : decode cX12_forms 97 = .ok (.invokevirtual 369, 3) := by decide +kernel
theorem dX12_forms_100 : decode cX12_forms 100 = .ok (.ireturn, 1) := by decide +kernel
theorem dX12_octet_0 : decode cX12_octet 0 = .ok (.aload_n 0, 1) := by decide +kernel
theorem dX12_octet_1 : decode cX12_octet 1 = .ok (.getfield 28, 3) := by decide +kernel
theorem dX12_octet_4 : decode cX12_octet 4 = .ok (.iload_n 1, 1) := by decide +kernel
theorem dX12_octet_5 : decode cX12_octet 5 = .ok (.baload, 1) := by decide +kernel
theorem dX12_octet_6 : decode cX12_octet 6 = .ok (.sipush 255, 3) := by decide +kernel
theorem dX12_octet_9 : decode cX12_octet 9 = .ok (.iand, 1) := by decide +kernel
theorem dX12_octet_10 : decode cX12_octet 10 = .ok (.ireturn, 1) := by decide +kernel
theorem dX12_laysAhead_0 : decode cX12_laysAhead 0 = .ok (.iconst 0, 1) := by decide +kernel
theorem dX12_laysAhead_1 : decode cX12_laysAhead 1 = .ok (.istore_n 2, 1) := by decide +kernel
theorem dX12_laysAhead_2 : decode cX12_laysAhead 2 = .ok (.iload_n 2, 1) := by decide +kernel
theorem dX12_laysAhead_3 : decode cX12_laysAhead 3 = .ok (.iload_n 1, 1) := by decide +kernel
theorem dX12_laysAhead_4 : decode cX12_laysAhead 4 = .ok (.if_icmp .ge 75, 3) := by decide +kernel
theorem dX12_laysAhead_7 : decode cX12_laysAhead 7 = .ok (.aload_n 0, 1) := by decide +kernel
theorem dX12_laysAhead_8 : decode cX12_laysAhead 8 = .ok (.getfield 89, 3) := by decide +kernel
theorem dX12_laysAhead_11 : decode cX12_laysAhead 11 = .ok (.iload_n 2, 1) := by decide +kernel
theorem dX12_laysAhead_12 : decode cX12_laysAhead 12 = .ok (.iconst 0, 1) := by decide +kernel
theorem dX12_laysAhead_13 : decode cX12_laysAhead 13 = .ok (.iastore, 1) := by decide +kernel
theorem dX12_laysAhead_14 : decode cX12_laysAhead 14 = .ok (.iconst 0, 1) := by decide +kernel
theorem dX12_laysAhead_15 : decode cX12_laysAhead 15 = .ok (.istore_n 3, 1) := by decide +kernel
theorem dX12_laysAhead_16 : decode cX12_laysAhead 16 = .ok (.iload_n 3, 1) := by decide +kernel
theorem dX12_laysAhead_17 : decode cX12_laysAhead 17 = .ok (.iload_n 2, 1) := by decide +kernel
theorem dX12_laysAhead_18 : decode cX12_laysAhead 18 = .ok (.if_icmp .ge 55, 3) := by decide +kernel
theorem dX12_laysAhead_21 : decode cX12_laysAhead 21 = .ok (.aload_n 0, 1) := by decide +kernel
theorem dX12_laysAhead_22 : decode cX12_laysAhead 22 = .ok (.iload_n 3, 1) := by decide +kernel
theorem dX12_laysAhead_23 : decode cX12_laysAhead 23 = .ok (.invokevirtual 357, 3) := by decide +kernel
theorem dX12_laysAhead_26 : decode cX12_laysAhead 26 = .ok (.aload_n 0, 1) := by decide +kernel
theorem dX12_laysAhead_27 : decode cX12_laysAhead 27 = .ok (.iload_n 2, 1) := by decide +kernel
theorem dX12_laysAhead_28 : decode cX12_laysAhead 28 = .ok (.invokevirtual 357, 3) := by decide +kernel
theorem dX12_laysAhead_31 : decode cX12_laysAhead 31 = .ok (.if_icmp .eq 20, 3) := by decide +kernel
theorem dX12_laysAhead_34 : decode cX12_laysAhead 34 = .ok (.aload_n 0, 1) := by decide +kernel
theorem dX12_laysAhead_35 : decode cX12_laysAhead 35 = .ok (.aload_n 0, 1) := by decide +kernel
theorem dX12_laysAhead_36 : decode cX12_laysAhead 36 = .ok (.iload_n 3, 1) := by decide +kernel
theorem dX12_laysAhead_37 : decode cX12_laysAhead 37 = .ok (.invokevirtual 357, 3) := by decide +kernel
theorem dX12_laysAhead_40 : decode cX12_laysAhead 40 = .ok (.aload_n 0, 1) := by decide +kernel
theorem dX12_laysAhead_41 : decode cX12_laysAhead 41 = .ok (.iload_n 2, 1) := by decide +kernel
theorem dX12_laysAhead_42 : decode cX12_laysAhead 42 = .ok (.invokevirtual 357, 3) := by decide +kernel
theorem dX12_laysAhead_45 : decode cX12_laysAhead 45 = .ok (.invokevirtual 354, 3) := by decide +kernel
theorem dX12_laysAhead_48 : decode cX12_laysAhead 48 = .ok (.ifCond .ne 19, 3) := by decide +kernel
theorem dX12_laysAhead_51 : decode cX12_laysAhead 51 = .ok (.aload_n 0, 1) := by decide +kernel
theorem dX12_laysAhead_52 : decode cX12_laysAhead 52 = .ok (.getfield 89, 3) := by decide +kernel
theorem dX12_laysAhead_55 : decode cX12_laysAhead 55 = .ok (.iload_n 2, 1) := by decide +kernel
theorem dX12_laysAhead_56 : decode cX12_laysAhead 56 = .ok (.aload_n 0, 1) := by decide +kernel
theorem dX12_laysAhead_57 : decode cX12_laysAhead 57 = .ok (.getfield 89, 3) := by decide +kernel
theorem dX12_laysAhead_60 : decode cX12_laysAhead 60 = .ok (.iload_n 2, 1) := by decide +kernel
theorem dX12_laysAhead_61 : decode cX12_laysAhead 61 = .ok (.iaload, 1) := by decide +kernel
theorem dX12_laysAhead_62 : decode cX12_laysAhead 62 = .ok (.iconst 1, 1) := by decide +kernel
theorem dX12_laysAhead_63 : decode cX12_laysAhead 63 = .ok (.iload_n 3, 1) := by decide +kernel
theorem dX12_laysAhead_64 : decode cX12_laysAhead 64 = .ok (.ishl, 1) := by decide +kernel
theorem dX12_laysAhead_65 : decode cX12_laysAhead 65 = .ok (.ior, 1) := by decide +kernel
theorem dX12_laysAhead_66 : decode cX12_laysAhead 66 = .ok (.iastore, 1) := by decide +kernel
theorem dX12_laysAhead_67 : decode cX12_laysAhead 67 = .ok (.iinc 3 1, 3) := by decide +kernel
theorem dX12_laysAhead_70 : decode cX12_laysAhead 70 = .ok (.goto (-54), 3) := by decide +kernel
theorem dX12_laysAhead_73 : decode cX12_laysAhead 73 = .ok (.iinc 2 1, 3) := by decide +kernel
theorem dX12_laysAhead_76 : decode cX12_laysAhead 76 = .ok (.goto (-74), 3) := by decide +kernel
theorem dX12_laysAhead_79 : decode cX12_laysAhead 79 = .ok (.return_, 1) := by decide +kernel
theorem dX12_rowsOf_0 : decode cX12_rowsOf 0 = .ok (.iconst 0, 1) := by decide +kernel
theorem dX12_rowsOf_1 : decode cX12_rowsOf 1 = .ok (.istore_n 2, 1) := by decide +kernel
theorem dX12_rowsOf_2 : decode cX12_rowsOf 2 = .ok (.iload_n 2, 1) := by decide +kernel
theorem dX12_rowsOf_3 : decode cX12_rowsOf 3 = .ok (.iconst 1, 1) := by decide +kernel
theorem dX12_rowsOf_4 : decode cX12_rowsOf 4 = .ok (.iload_n 1, 1) := by decide +kernel
theorem dX12_rowsOf_5 : decode cX12_rowsOf 5 = .ok (.ishl, 1) := by decide +kernel
theorem dX12_rowsOf_6 : decode cX12_rowsOf 6 = .ok (.if_icmp .ge 78, 3) := by decide +kernel
theorem dX12_rowsOf_9 : decode cX12_rowsOf 9 = .ok (.aload_n 0, 1) := by decide +kernel
theorem dX12_rowsOf_10 : decode cX12_rowsOf 10 = .ok (.getfield 92, 3) := by decide +kernel
theorem dX12_rowsOf_13 : decode cX12_rowsOf 13 = .ok (.iload_n 2, 1) := by decide +kernel
theorem dX12_rowsOf_14 : decode cX12_rowsOf 14 = .ok (.iload_n 2, 1) := by decide +kernel
theorem dX12_rowsOf_15 : decode cX12_rowsOf 15 = .ok (.ifCond .ne 7, 3) := by decide +kernel
theorem dX12_rowsOf_18 : decode cX12_rowsOf 18 = .ok (.iconst 1, 1) := by decide +kernel
theorem dX12_rowsOf_19 : decode cX12_rowsOf 19 = .ok (.goto 4, 3) := by decide +kernel
theorem dX12_rowsOf_22 : decode cX12_rowsOf 22 = .ok (.iconst 0, 1) := by decide +kernel
theorem dX12_rowsOf_23 : decode cX12_rowsOf 23 = .ok (.iastore, 1) := by decide +kernel
theorem dX12_rowsOf_24 : decode cX12_rowsOf 24 = .ok (.iconst 0, 1) := by decide +kernel
theorem dX12_rowsOf_25 : decode cX12_rowsOf 25 = .ok (.istore_n 3, 1) := by decide +kernel
theorem dX12_rowsOf_26 : decode cX12_rowsOf 26 = .ok (.iload_n 3, 1) := by decide +kernel
theorem dX12_rowsOf_27 : decode cX12_rowsOf 27 = .ok (.iload_n 1, 1) := by decide +kernel
theorem dX12_rowsOf_28 : decode cX12_rowsOf 28 = .ok (.if_icmp .ge 50, 3) := by decide +kernel
theorem dX12_rowsOf_31 : decode cX12_rowsOf 31 = .ok (.iload_n 2, 1) := by decide +kernel
theorem dX12_rowsOf_32 : decode cX12_rowsOf 32 = .ok (.iload_n 3, 1) := by decide +kernel
theorem dX12_rowsOf_33 : decode cX12_rowsOf 33 = .ok (.invokestatic 119, 3) := by decide +kernel
theorem dX12_rowsOf_36 : decode cX12_rowsOf 36 = .ok (.ifCond .eq 36, 3) := by decide +kernel
theorem dX12_rowsOf_39 : decode cX12_rowsOf 39 = .ok (.aload_n 0, 1) := by decide +kernel
theorem dX12_rowsOf_40 : decode cX12_rowsOf 40 = .ok (.getfield 89, 3) := by decide +kernel
theorem dX12_rowsOf_43 : decode cX12_rowsOf 43 = .ok (.iload_n 3, 1) := by decide +kernel
theorem dX12_rowsOf_44 : decode cX12_rowsOf 44 = .ok (.iaload, 1) := by decide +kernel
theorem dX12_rowsOf_45 : decode cX12_rowsOf 45 = .ok (.iload_n 2, 1) := by decide +kernel
theorem dX12_rowsOf_46 : decode cX12_rowsOf 46 = .ok (.iconst (-1), 1) := by decide +kernel
theorem dX12_rowsOf_47 : decode cX12_rowsOf 47 = .ok (.ixor, 1) := by decide +kernel
theorem dX12_rowsOf_48 : decode cX12_rowsOf 48 = .ok (.iand, 1) := by decide +kernel
theorem dX12_rowsOf_49 : decode cX12_rowsOf 49 = .ok (.ifCond .ne 23, 3) := by decide +kernel
theorem dX12_rowsOf_52 : decode cX12_rowsOf 52 = .ok (.aload_n 0, 1) := by decide +kernel
theorem dX12_rowsOf_53 : decode cX12_rowsOf 53 = .ok (.getfield 92, 3) := by decide +kernel
theorem dX12_rowsOf_56 : decode cX12_rowsOf 56 = .ok (.iload_n 2, 1) := by decide +kernel
theorem dX12_rowsOf_57 : decode cX12_rowsOf 57 = .ok (.aload_n 0, 1) := by decide +kernel
theorem dX12_rowsOf_58 : decode cX12_rowsOf 58 = .ok (.getfield 92, 3) := by decide +kernel
theorem dX12_rowsOf_61 : decode cX12_rowsOf 61 = .ok (.iload_n 2, 1) := by decide +kernel
theorem dX12_rowsOf_62 : decode cX12_rowsOf 62 = .ok (.iaload, 1) := by decide +kernel
theorem dX12_rowsOf_63 : decode cX12_rowsOf 63 = .ok (.aload_n 0, 1) := by decide +kernel
theorem dX12_rowsOf_64 : decode cX12_rowsOf 64 = .ok (.iload_n 2, 1) := by decide +kernel
theorem dX12_rowsOf_65 : decode cX12_rowsOf 65 = .ok (.iload_n 3, 1) := by decide +kernel
theorem dX12_rowsOf_66 : decode cX12_rowsOf 66 = .ok (.iload_n 1, 1) := by decide +kernel
theorem dX12_rowsOf_67 : decode cX12_rowsOf 67 = .ok (.invokevirtual 360, 3) := by decide +kernel
theorem dX12_rowsOf_70 : decode cX12_rowsOf 70 = .ok (.iadd, 1) := by decide +kernel
theorem dX12_rowsOf_71 : decode cX12_rowsOf 71 = .ok (.iastore, 1) := by decide +kernel
theorem dX12_rowsOf_72 : decode cX12_rowsOf 72 = .ok (.iinc 3 1, 3) := by decide +kernel
theorem dX12_rowsOf_75 : decode cX12_rowsOf 75 = .ok (.goto (-49), 3) := by decide +kernel
theorem dX12_rowsOf_78 : decode cX12_rowsOf 78 = .ok (.iinc 2 1, 3) := by decide +kernel
theorem dX12_rowsOf_81 : decode cX12_rowsOf 81 = .ok (.goto (-79), 3) := by decide +kernel
theorem dX12_rowsOf_84 : decode cX12_rowsOf 84 = .ok (.aload_n 0, 1) := by decide +kernel
theorem dX12_rowsOf_85 : decode cX12_rowsOf 85 = .ok (.getfield 92, 3) := by decide +kernel
theorem dX12_rowsOf_88 : decode cX12_rowsOf 88 = .ok (.iconst 1, 1) := by decide +kernel
theorem dX12_rowsOf_89 : decode cX12_rowsOf 89 = .ok (.iload_n 1, 1) := by decide +kernel
theorem dX12_rowsOf_90 : decode cX12_rowsOf 90 = .ok (.ishl, 1) := by decide +kernel
theorem dX12_rowsOf_91 : decode cX12_rowsOf 91 = .ok (.iconst 1, 1) := by decide +kernel
theorem dX12_rowsOf_92 : decode cX12_rowsOf 92 = .ok (.isub, 1) := by decide +kernel
theorem dX12_rowsOf_93 : decode cX12_rowsOf 93 = .ok (.iaload, 1) := by decide +kernel
theorem dX12_rowsOf_94 : decode cX12_rowsOf 94 = .ok (.ireturn, 1) := by decide +kernel
theorem dX12_endsWith_0 : decode cX12_endsWith 0 = .ok (.iconst 0, 1) := by decide +kernel
theorem dX12_endsWith_1 : decode cX12_endsWith 1 = .ok (.istore 4, 2) := by decide +kernel
theorem dX12_endsWith_3 : decode cX12_endsWith 3 = .ok (.iload 4, 2) := by decide +kernel
theorem dX12_endsWith_5 : decode cX12_endsWith 5 = .ok (.iload_n 3, 1) := by decide +kernel
theorem dX12_endsWith_6 : decode cX12_endsWith 6 = .ok (.if_icmp .ge 34, 3) := by decide +kernel
theorem dX12_endsWith_9 : decode cX12_endsWith 9 = .ok (.iload_n 1, 1) := by decide +kernel
theorem dX12_endsWith_10 : decode cX12_endsWith 10 = .ok (.iload 4, 2) := by decide +kernel
theorem dX12_endsWith_12 : decode cX12_endsWith 12 = .ok (.invokestatic 119, 3) := by decide +kernel
theorem dX12_endsWith_15 : decode cX12_endsWith 15 = .ok (.ifCond .eq 19, 3) := by decide +kernel
theorem dX12_endsWith_18 : decode cX12_endsWith 18 = .ok (.aload_n 0, 1) := by decide +kernel
theorem dX12_endsWith_19 : decode cX12_endsWith 19 = .ok (.getfield 89, 3) := by decide +kernel
theorem dX12_endsWith_22 : decode cX12_endsWith 22 = .ok (.iload 4, 2) := by decide +kernel
theorem dX12_endsWith_24 : decode cX12_endsWith 24 = .ok (.iaload, 1) := by decide +kernel
theorem dX12_endsWith_25 : decode cX12_endsWith 25 = .ok (.iload_n 2, 1) := by decide +kernel
theorem dX12_endsWith_26 : decode cX12_endsWith 26 = .ok (.invokestatic 119, 3) := by decide +kernel
theorem dX12_endsWith_29 : decode cX12_endsWith 29 = .ok (.ifCond .eq 5, 3) := by decide +kernel
theorem dX12_endsWith_32 : decode cX12_endsWith 32 = .ok (.iconst 0, 1) := by decide +kernel
theorem dX12_endsWith_33 : decode cX12_endsWith 33 = .ok (.ireturn, 1) := by decide +kernel
theorem dX12_endsWith_34 : decode cX12_endsWith 34 = .ok (.iinc 4 1, 3) := by decide +kernel
theorem dX12_endsWith_37 : decode cX12_endsWith 37 = .ok (.goto (-34), 3) := by decide +kernel
theorem dX12_endsWith_40 : decode cX12_endsWith 40 = .ok (.aload_n 0, 1) := by decide +kernel
theorem dX12_endsWith_41 : decode cX12_endsWith 41 = .ok (.getfield 92, 3) := by decide +kernel
theorem dX12_endsWith_44 : decode cX12_endsWith 44 = .ok (.iload_n 1, 1) := by decide +kernel
theorem dX12_endsWith_45 : decode cX12_endsWith 45 = .ok (.iconst 1, 1) := by decide +kernel
theorem dX12_endsWith_46 : decode cX12_endsWith 46 = .ok (.iload_n 2, 1) := by decide +kernel
theorem dX12_endsWith_47 : decode cX12_endsWith 47 = .ok (.ishl, 1) := by decide +kernel
theorem dX12_endsWith_48 : decode cX12_endsWith 48 = .ok (.iconst (-1), 1) := by decide +kernel
theorem dX12_endsWith_49 : decode cX12_endsWith 49 = .ok (.ixor, 1) := by decide +kernel
theorem dX12_endsWith_50 : decode cX12_endsWith 50 = .ok (.iand, 1) := by decide +kernel
theorem dX12_endsWith_51 : decode cX12_endsWith 51 = .ok (.iaload, 1) := by decide +kernel
theorem dX12_endsWith_52 : decode cX12_endsWith 52 = .ok (.ireturn, 1) := by decide +kernel
theorem dX12_firstForm_0 : decode cX12_firstForm 0 = .ok (.iconst 0, 1) := by decide +kernel
theorem dX12_firstForm_1 : decode cX12_firstForm 1 = .ok (.istore_n 3, 1) := by decide +kernel
theorem dX12_firstForm_2 : decode cX12_firstForm 2 = .ok (.iconst (-1), 1) := by decide +kernel
theorem dX12_firstForm_3 : decode cX12_firstForm 3 = .ok (.istore 4, 2) := by decide +kernel
theorem dX12_firstForm_5 : decode cX12_firstForm 5 = .ok (.iconst 0, 1) := by decide +kernel
theorem dX12_firstForm_6 : decode cX12_firstForm 6 = .ok (.istore 5, 2) := by decide +kernel
theorem dX12_firstForm_8 : decode cX12_firstForm 8 = .ok (.iload 5, 2) := by decide +kernel
theorem dX12_firstForm_10 : decode cX12_firstForm 10 = .ok (.iload_n 2, 1) := by decide +kernel
theorem dX12_firstForm_11 : decode cX12_firstForm 11 = .ok (.if_icmp .gt 90, 3) := by decide +kernel
theorem dX12_firstForm_14 : decode cX12_firstForm 14 = .ok (.iconst (-1), 1) := by decide +kernel
theorem dX12_firstForm_15 : decode cX12_firstForm 15 = .ok (.istore 6, 2) := by decide +kernel
theorem dX12_firstForm_17 : decode cX12_firstForm 17 = .ok (.iconst 0, 1) := by decide +kernel
theorem dX12_firstForm_18 : decode cX12_firstForm 18 = .ok (.istore 7, 2) := by decide +kernel
theorem dX12_firstForm_20 : decode cX12_firstForm 20 = .ok (.iload 7, 2) := by decide +kernel
theorem dX12_firstForm_22 : decode cX12_firstForm 22 = .ok (.iload_n 1, 1) := by decide +kernel
theorem dX12_firstForm_23 : decode cX12_firstForm 23 = .ok (.if_icmp .ge 57, 3) := by decide +kernel
theorem dX12_firstForm_26 : decode cX12_firstForm 26 = .ok (.iload_n 3, 1) := by decide +kernel
theorem dX12_firstForm_27 : decode cX12_firstForm 27 = .ok (.iload 7, 2) := by decide +kernel
theorem dX12_firstForm_29 : decode cX12_firstForm 29 = .ok (.invokestatic 119, 3) := by decide +kernel
theorem dX12_firstForm_32 : decode cX12_firstForm 32 = .ok (.ifCond .ne 42, 3) := by decide +kernel
theorem dX12_firstForm_35 : decode cX12_firstForm 35 = .ok (.aload_n 0, 1) := by decide +kernel
theorem dX12_firstForm_36 : decode cX12_firstForm 36 = .ok (.getfield 89, 3) := by decide +kernel
theorem dX12_firstForm_39 : decode cX12_firstForm 39 = .ok (.iload 7, 2) := by decide +kernel
theorem dX12_firstForm_41 : decode cX12_firstForm 41 = .ok (.iaload, 1) := by decide +kernel
theorem dX12_firstForm_42 : decode cX12_firstForm 42 = .ok (.iload_n 3, 1) := by decide +kernel
theorem dX12_firstForm_43 : decode cX12_firstForm 43 = .ok (.iconst (-1), 1) := by decide +kernel
theorem dX12_firstForm_44 : decode cX12_firstForm 44 = .ok (.ixor, 1) := by decide +kernel
theorem dX12_firstForm_45 : decode cX12_firstForm 45 = .ok (.iand, 1) := by decide +kernel
theorem dX12_firstForm_46 : decode cX12_firstForm 46 = .ok (.ifCond .ne 28, 3) := by decide +kernel
theorem dX12_firstForm_49 : decode cX12_firstForm 49 = .ok (.iload 6, 2) := by decide +kernel
theorem dX12_firstForm_51 : decode cX12_firstForm 51 = .ok (.iconst (-1), 1) := by decide +kernel
theorem dX12_firstForm_52 : decode cX12_firstForm 52 = .ok (.if_icmp .eq 18, 3) := by decide +kernel
theorem dX12_firstForm_55 : decode cX12_firstForm 55 = .ok (.aload_n 0, 1) := by decide +kernel
theorem dX12_firstForm_56 : decode cX12_firstForm 56 = .ok (.iload 7, 2) := by decide +kernel
theorem dX12_firstForm_58 : decode cX12_firstForm 58 = .ok (.invokevirtual 357, 3) := by decide +kernel
theorem dX12_firstForm_61 : decode cX12_firstForm 61 = .ok (.aload_n 0, 1) := by decide +kernel
theorem dX12_firstForm_62 : decode cX12_firstForm 62 = .ok (.iload 6, 2) := by decide +kernel
theorem dX12_firstForm_64 : decode cX12_firstForm 64 = .ok (.invokevirtual 357, 3) := by decide +kernel
theorem dX12_firstForm_67 : decode cX12_firstForm 67 = .ok (.if_icmp .ge 7, 3) := by decide +kernel
theorem dX12_firstForm_70 : decode cX12_firstForm 70 = .ok (.iload 7, 2) := by decide +kernel
theorem dX12_firstForm_72 : decode cX12_firstForm 72 = .ok (.istore 6, 2) := by decide +kernel
theorem dX12_firstForm_74 : decode cX12_firstForm 74 = .ok (.iinc 7 1, 3) := by decide +kernel
theorem dX12_firstForm_77 : decode cX12_firstForm 77 = .ok (.goto (-57), 3) := by decide +kernel
theorem dX12_firstForm_80 : decode cX12_firstForm 80 = .ok (.iload_n 3, 1) := by decide +kernel
theorem dX12_firstForm_81 : decode cX12_firstForm 81 = .ok (.iconst 1, 1) := by decide +kernel
theorem dX12_firstForm_82 : decode cX12_firstForm 82 = .ok (.iload 6, 2) := by decide +kernel
theorem dX12_firstForm_84 : decode cX12_firstForm 84 = .ok (.ishl, 1) := by decide +kernel
theorem dX12_firstForm_85 : decode cX12_firstForm 85 = .ok (.ior, 1) := by decide +kernel
theorem dX12_firstForm_86 : decode cX12_firstForm 86 = .ok (.istore_n 3, 1) := by decide +kernel
theorem dX12_firstForm_87 : decode cX12_firstForm 87 = .ok (.aload_n 0, 1) := by decide +kernel
theorem dX12_firstForm_88 : decode cX12_firstForm 88 = .ok (.iload 6, 2) := by decide +kernel
theorem dX12_firstForm_90 : decode cX12_firstForm 90 = .ok (.invokevirtual 357, 3) := by decide +kernel
theorem dX12_firstForm_93 : decode cX12_firstForm 93 = .ok (.istore 4, 2) := by decide +kernel
theorem dX12_firstForm_95 : decode cX12_firstForm 95 = .ok (.iinc 5 1, 3) := by decide +kernel
theorem dX12_firstForm_98 : decode cX12_firstForm 98 = .ok (.goto (-90), 3) := by decide +kernel
theorem dX12_firstForm_101 : decode cX12_firstForm 101 = .ok (.iload 4, 2) := by decide +kernel
theorem dX12_firstForm_103 : decode cX12_firstForm 103 = .ok (.ireturn, 1) := by decide +kernel
theorem dX12_leads_0 : decode cX12_leads 0 = .ok (.aload_n 0, 1) := by decide +kernel
theorem dX12_leads_1 : decode cX12_leads 1 = .ok (.iload_n 1, 1) := by decide +kernel
theorem dX12_leads_2 : decode cX12_leads 2 = .ok (.invokevirtual 131, 3) := by decide +kernel
theorem dX12_leads_5 : decode cX12_leads 5 = .ok (.ifCond .eq 20, 3) := by decide +kernel
theorem dX12_leads_8 : decode cX12_leads 8 = .ok (.aload_n 0, 1) := by decide +kernel
theorem dX12_leads_9 : decode cX12_leads 9 = .ok (.iload_n 2, 1) := by decide +kernel
theorem dX12_leads_10 : decode cX12_leads 10 = .ok (.invokevirtual 131, 3) := by decide +kernel
theorem dX12_leads_13 : decode cX12_leads 13 = .ok (.ifCond .eq 12, 3) := by decide +kernel
theorem dX12_leads_16 : decode cX12_leads 16 = .ok (.iload_n 3, 1) := by decide +kernel
theorem dX12_leads_17 : decode cX12_leads 17 = .ok (.iconst 0, 1) := by decide +kernel
theorem dX12_leads_18 : decode cX12_leads 18 = .ok (.iconst 1, 1) := by decide +kernel
theorem dX12_leads_19 : decode cX12_leads 19 = .ok (.invokestatic 127, 3) := by decide +kernel
theorem dX12_leads_22 : decode cX12_leads 22 = .ok (.ifCond .ne 5, 3) := by decide +kernel
theorem dX12_leads_25 : decode cX12_leads 25 = .ok (.iconst (-1), 1) := by decide +kernel
theorem dX12_leads_26 : decode cX12_leads 26 = .ok (.ireturn, 1) := by decide +kernel
theorem dX12_leads_27 : decode cX12_leads 27 = .ok (.aload_n 0, 1) := by decide +kernel
theorem dX12_leads_28 : decode cX12_leads 28 = .ok (.iload_n 2, 1) := by decide +kernel
theorem dX12_leads_29 : decode cX12_leads 29 = .ok (.iconst 0, 1) := by decide +kernel
theorem dX12_leads_30 : decode cX12_leads 30 = .ok (.invokevirtual 373, 3) := by decide +kernel
theorem dX12_leads_33 : decode cX12_leads 33 = .ok (.aload_n 0, 1) := by decide +kernel
theorem dX12_leads_34 : decode cX12_leads 34 = .ok (.getfield 95, 3) := by decide +kernel
theorem dX12_leads_37 : decode cX12_leads 37 = .ok (.iload_n 1, 1) := by decide +kernel
theorem dX12_leads_38 : decode cX12_leads 38 = .ok (.iaload, 1) := by decide +kernel
theorem dX12_leads_39 : decode cX12_leads 39 = .ok (.ldc_w 372, 3) := by decide +kernel
theorem dX12_leads_42 : decode cX12_leads 42 = .ok (.if_icmp .lt 6, 3) := by decide +kernel
theorem dX12_leads_45 : decode cX12_leads 45 = .ok (.bipush (-2), 2) := by decide +kernel
theorem dX12_leads_47 : decode cX12_leads 47 = .ok (.ireturn, 1) := by decide +kernel
theorem dX12_leads_48 : decode cX12_leads 48 = .ok (.iload_n 3, 1) := by decide +kernel
theorem dX12_leads_49 : decode cX12_leads 49 = .ok (.ifCond .ne 10, 3) := by decide +kernel
theorem dX12_leads_52 : decode cX12_leads 52 = .ok (.aload_n 0, 1) := by decide +kernel
theorem dX12_leads_53 : decode cX12_leads 53 = .ok (.getfield 95, 3) := by decide +kernel
theorem dX12_leads_56 : decode cX12_leads 56 = .ok (.iload_n 1, 1) := by decide +kernel
theorem dX12_leads_57 : decode cX12_leads 57 = .ok (.iaload, 1) := by decide +kernel
theorem dX12_leads_58 : decode cX12_leads 58 = .ok (.ireturn, 1) := by decide +kernel
theorem dX12_leads_59 : decode cX12_leads 59 = .ok (.iload_n 1, 1) := by decide +kernel
theorem dX12_leads_60 : decode cX12_leads 60 = .ok (.iload_n 2, 1) := by decide +kernel
theorem dX12_leads_61 : decode cX12_leads 61 = .ok (.if_icmp .ne 6, 3) := by decide +kernel
theorem dX12_leads_64 : decode cX12_leads 64 = .ok (.bipush (-4), 2) := by decide +kernel
theorem dX12_leads_66 : decode cX12_leads 66 = .ok (.ireturn, 1) := by decide +kernel
theorem dX12_leads_67 : decode cX12_leads 67 = .ok (.iconst 0, 1) := by decide +kernel
theorem dX12_leads_68 : decode cX12_leads 68 = .ok (.istore 4, 2) := by decide +kernel
theorem dX12_leads_70 : decode cX12_leads 70 = .ok (.aload_n 0, 1) := by decide +kernel
theorem dX12_leads_71 : decode cX12_leads 71 = .ok (.getfield 95, 3) := by decide +kernel
theorem dX12_leads_74 : decode cX12_leads 74 = .ok (.aload_n 0, 1) := by decide +kernel
theorem dX12_leads_75 : decode cX12_leads 75 = .ok (.iload 4, 2) := by decide +kernel
theorem dX12_leads_77 : decode cX12_leads 77 = .ok (.iload_n 1, 1) := by decide +kernel
theorem dX12_leads_78 : decode cX12_leads 78 = .ok (.invokevirtual 306, 3) := by decide +kernel
theorem dX12_leads_81 : decode cX12_leads 81 = .ok (.iaload, 1) := by decide +kernel
theorem dX12_leads_82 : decode cX12_leads 82 = .ok (.aload_n 0, 1) := by decide +kernel
theorem dX12_leads_83 : decode cX12_leads 83 = .ok (.getfield 95, 3) := by decide +kernel
theorem dX12_leads_86 : decode cX12_leads 86 = .ok (.iload_n 1, 1) := by decide +kernel
theorem dX12_leads_87 : decode cX12_leads 87 = .ok (.iaload, 1) := by decide +kernel
theorem dX12_leads_88 : decode cX12_leads 88 = .ok (.iconst 1, 1) := by decide +kernel
theorem dX12_leads_89 : decode cX12_leads 89 = .ok (.isub, 1) := by decide +kernel
theorem dX12_leads_90 : decode cX12_leads 90 = .ok (.if_icmp .eq 12, 3) := by decide +kernel
theorem dX12_leads_93 : decode cX12_leads 93 = .ok (.iload 4, 2) := by decide +kernel
theorem dX12_leads_95 : decode cX12_leads 95 = .ok (.iconst 1, 1) := by decide +kernel
theorem dX12_leads_96 : decode cX12_leads 96 = .ok (.iadd, 1) := by decide +kernel
theorem dX12_leads_97 : decode cX12_leads 97 = .ok (.istore 4, 2) := by decide +kernel
theorem dX12_leads_99 : decode cX12_leads 99 = .ok (.goto (-29), 3) := by decide +kernel
theorem dX12_leads_102 : decode cX12_leads 102 = .ok (.iload 4, 2) := by decide +kernel
theorem dX12_leads_104 : decode cX12_leads 104 = .ok (.ireturn, 1) := by decide +kernel
theorem dX12_laysFar_0 : decode cX12_laysFar 0 = .ok (.iconst 0, 1) := by decide +kernel
theorem dX12_laysFar_1 : decode cX12_laysFar 1 = .ok (.istore_n 3, 1) := by decide +kernel
theorem dX12_laysFar_2 : decode cX12_laysFar 2 = .ok (.iload_n 3, 1) := by decide +kernel
theorem dX12_laysFar_3 : decode cX12_laysFar 3 = .ok (.bipush 10, 2) := by decide +kernel
theorem dX12_laysFar_5 : decode cX12_laysFar 5 = .ok (.if_icmp .ge 27, 3) := by decide +kernel
theorem dX12_laysFar_8 : decode cX12_laysFar 8 = .ok (.aload_n 0, 1) := by decide +kernel
theorem dX12_laysFar_9 : decode cX12_laysFar 9 = .ok (.getfield 95, 3) := by decide +kernel
theorem dX12_laysFar_12 : decode cX12_laysFar 12 = .ok (.iload_n 3, 1) := by decide +kernel
theorem dX12_laysFar_13 : decode cX12_laysFar 13 = .ok (.iload_n 3, 1) := by decide +kernel
theorem dX12_laysFar_14 : decode cX12_laysFar 14 = .ok (.iload_n 1, 1) := by decide +kernel
theorem dX12_laysFar_15 : decode cX12_laysFar 15 = .ok (.if_icmp .ne 7, 3) := by decide +kernel
theorem dX12_laysFar_18 : decode cX12_laysFar 18 = .ok (.iconst 0, 1) := by decide +kernel
theorem dX12_laysFar_19 : decode cX12_laysFar 19 = .ok (.goto 6, 3) := by decide +kernel
theorem dX12_laysFar_22 : decode cX12_laysFar 22 = .ok (.ldc_w 372, 3) := by decide +kernel
theorem dX12_laysFar_25 : decode cX12_laysFar 25 = .ok (.iastore, 1) := by decide +kernel
theorem dX12_laysFar_26 : decode cX12_laysFar 26 = .ok (.iinc 3 1, 3) := by decide +kernel
theorem dX12_laysFar_29 : decode cX12_laysFar 29 = .ok (.goto (-27), 3) := by decide +kernel
theorem dX12_laysFar_32 : decode cX12_laysFar 32 = .ok (.iconst 1, 1) := by decide +kernel
theorem dX12_laysFar_33 : decode cX12_laysFar 33 = .ok (.istore_n 3, 1) := by decide +kernel
theorem dX12_laysFar_34 : decode cX12_laysFar 34 = .ok (.iload_n 3, 1) := by decide +kernel
theorem dX12_laysFar_35 : decode cX12_laysFar 35 = .ok (.ifCond .eq 99, 3) := by decide +kernel
theorem dX12_laysFar_38 : decode cX12_laysFar 38 = .ok (.iconst 0, 1) := by decide +kernel
theorem dX12_laysFar_39 : decode cX12_laysFar 39 = .ok (.istore_n 3, 1) := by decide +kernel
theorem dX12_laysFar_40 : decode cX12_laysFar 40 = .ok (.iconst 0, 1) := by decide +kernel
theorem dX12_laysFar_41 : decode cX12_laysFar 41 = .ok (.istore 4, 2) := by decide +kernel
theorem dX12_laysFar_43 : decode cX12_laysFar 43 = .ok (.iload 4, 2) := by decide +kernel
theorem dX12_laysFar_45 : decode cX12_laysFar 45 = .ok (.aload_n 0, 1) := by decide +kernel
theorem dX12_laysFar_46 : decode cX12_laysFar 46 = .ok (.getfield 123, 3) := by decide +kernel
theorem dX12_laysFar_49 : decode cX12_laysFar 49 = .ok (.if_icmp .ge 82, 3) := by decide +kernel
theorem dX12_laysFar_52 : decode cX12_laysFar 52 = .ok (.iconst 0, 1) := by decide +kernel
theorem dX12_laysFar_53 : decode cX12_laysFar 53 = .ok (.istore 5, 2) := by decide +kernel
theorem dX12_laysFar_55 : decode cX12_laysFar 55 = .ok (.iload 5, 2) := by decide +kernel
theorem dX12_laysFar_57 : decode cX12_laysFar 57 = .ok (.bipush 8, 2) := by decide +kernel
theorem dX12_laysFar_59 : decode cX12_laysFar 59 = .ok (.if_icmp .ge 66, 3) := by decide +kernel
theorem dX12_laysFar_62 : decode cX12_laysFar 62 = .ok (.aload_n 0, 1) := by decide +kernel
theorem dX12_laysFar_63 : decode cX12_laysFar 63 = .ok (.getfield 95, 3) := by decide +kernel
theorem dX12_laysFar_66 : decode cX12_laysFar 66 = .ok (.aload_n 0, 1) := by decide +kernel
theorem dX12_laysFar_67 : decode cX12_laysFar 67 = .ok (.iload 5, 2) := by decide +kernel
theorem dX12_laysFar_69 : decode cX12_laysFar 69 = .ok (.iload 4, 2) := by decide +kernel
theorem dX12_laysFar_71 : decode cX12_laysFar 71 = .ok (.invokevirtual 306, 3) := by decide +kernel
theorem dX12_laysFar_74 : decode cX12_laysFar 74 = .ok (.iaload, 1) := by decide +kernel
theorem dX12_laysFar_75 : decode cX12_laysFar 75 = .ok (.iload_n 2, 1) := by decide +kernel
theorem dX12_laysFar_76 : decode cX12_laysFar 76 = .ok (.ifCond .eq 13, 3) := by decide +kernel
theorem dX12_laysFar_79 : decode cX12_laysFar 79 = .ok (.aload_n 0, 1) := by decide +kernel
theorem dX12_laysFar_80 : decode cX12_laysFar 80 = .ok (.getfield 19, 3) := by decide +kernel
theorem dX12_laysFar_83 : decode cX12_laysFar 83 = .ok (.iload 5, 2) := by decide +kernel
theorem dX12_laysFar_85 : decode cX12_laysFar 85 = .ok (.iaload, 1) := by decide +kernel
theorem dX12_laysFar_86 : decode cX12_laysFar 86 = .ok (.goto 4, 3) := by decide +kernel
theorem dX12_laysFar_89 : decode cX12_laysFar 89 = .ok (.iconst 1, 1) := by decide +kernel
theorem dX12_laysFar_90 : decode cX12_laysFar 90 = .ok (.iadd, 1) := by decide +kernel
theorem dX12_laysFar_91 : decode cX12_laysFar 91 = .ok (.istore 6, 2) := by decide +kernel
theorem dX12_laysFar_93 : decode cX12_laysFar 93 = .ok (.iload 6, 2) := by decide +kernel
theorem dX12_laysFar_95 : decode cX12_laysFar 95 = .ok (.aload_n 0, 1) := by decide +kernel
theorem dX12_laysFar_96 : decode cX12_laysFar 96 = .ok (.getfield 95, 3) := by decide +kernel
theorem dX12_laysFar_99 : decode cX12_laysFar 99 = .ok (.iload 4, 2) := by decide +kernel
theorem dX12_laysFar_101 : decode cX12_laysFar 101 = .ok (.iaload, 1) := by decide +kernel
theorem dX12_laysFar_102 : decode cX12_laysFar 102 = .ok (.if_icmp .lt 6, 3) := by decide +kernel
theorem dX12_laysFar_105 : decode cX12_laysFar 105 = .ok (.goto 14, 3) := by decide +kernel
theorem dX12_laysFar_108 : decode cX12_laysFar 108 = .ok (.aload_n 0, 1) := by decide +kernel
theorem dX12_laysFar_109 : decode cX12_laysFar 109 = .ok (.getfield 95, 3) := by decide +kernel
theorem dX12_laysFar_112 : decode cX12_laysFar 112 = .ok (.iload 4, 2) := by decide +kernel
theorem dX12_laysFar_114 : decode cX12_laysFar 114 = .ok (.iload 6, 2) := by decide +kernel
theorem dX12_laysFar_116 : decode cX12_laysFar 116 = .ok (.iastore, 1) := by decide +kernel
theorem dX12_laysFar_117 : decode cX12_laysFar 117 = .ok (.iconst 1, 1) := by decide +kernel
theorem dX12_laysFar_118 : decode cX12_laysFar 118 = .ok (.istore_n 3, 1) := by decide +kernel
theorem dX12_laysFar_119 : decode cX12_laysFar 119 = .ok (.iinc 5 1, 3) := by decide +kernel
theorem dX12_laysFar_122 : decode cX12_laysFar 122 = .ok (.goto (-67), 3) := by decide +kernel
theorem dX12_laysFar_125 : decode cX12_laysFar 125 = .ok (.iinc 4 1, 3) := by decide +kernel
theorem dX12_laysFar_128 : decode cX12_laysFar 128 = .ok (.goto (-85), 3) := by decide +kernel
theorem dX12_laysFar_131 : decode cX12_laysFar 131 = .ok (.goto (-97), 3) := by decide +kernel
theorem dX12_laysFar_134 : decode cX12_laysFar 134 = .ok (.return_, 1) := by decide +kernel
theorem dX12_back_0 : decode cX12_back 0 = .ok (.iload_n 1, 1) := by decide +kernel
theorem dX12_back_1 : decode cX12_back 1 = .ok (.invokestatic 135, 3) := by decide +kernel
theorem dX12_back_4 : decode cX12_back 4 = .ok (.ifCond .eq 11, 3) := by decide +kernel
theorem dX12_back_7 : decode cX12_back 7 = .ok (.aload_n 0, 1) := by decide +kernel
theorem dX12_back_8 : decode cX12_back 8 = .ok (.iload_n 2, 1) := by decide +kernel
theorem dX12_back_9 : decode cX12_back 9 = .ok (.invokevirtual 131, 3) := by decide +kernel
theorem dX12_back_12 : decode cX12_back 12 = .ok (.ifCond .ne 5, 3) := by decide +kernel
theorem dX12_back_15 : decode cX12_back 15 = .ok (.iconst (-1), 1) := by decide +kernel
theorem dX12_back_16 : decode cX12_back 16 = .ok (.ireturn, 1) := by decide +kernel
theorem dX12_back_17 : decode cX12_back 17 = .ok (.aload_n 0, 1) := by decide +kernel
theorem dX12_back_18 : decode cX12_back 18 = .ok (.iload_n 2, 1) := by decide +kernel
theorem dX12_back_19 : decode cX12_back 19 = .ok (.iconst 0, 1) := by decide +kernel
theorem dX12_back_20 : decode cX12_back 20 = .ok (.invokevirtual 373, 3) := by decide +kernel
theorem dX12_back_23 : decode cX12_back 23 = .ok (.aload_n 0, 1) := by decide +kernel
theorem dX12_back_24 : decode cX12_back 24 = .ok (.getfield 95, 3) := by decide +kernel
theorem dX12_back_27 : decode cX12_back 27 = .ok (.aload_n 0, 1) := by decide +kernel
theorem dX12_back_28 : decode cX12_back 28 = .ok (.iload_n 1, 1) := by decide +kernel
theorem dX12_back_29 : decode cX12_back 29 = .ok (.iload_n 2, 1) := by decide +kernel
theorem dX12_back_30 : decode cX12_back 30 = .ok (.invokevirtual 306, 3) := by decide +kernel
theorem dX12_back_33 : decode cX12_back 33 = .ok (.iaload, 1) := by decide +kernel
theorem dX12_back_34 : decode cX12_back 34 = .ok (.ldc_w 372, 3) := by decide +kernel
theorem dX12_back_37 : decode cX12_back 37 = .ok (.if_icmp .lt 8, 3) := by decide +kernel
theorem dX12_back_40 : decode cX12_back 40 = .ok (.bipush (-2), 2) := by decide +kernel
theorem dX12_back_42 : decode cX12_back 42 = .ok (.goto 14, 3) := by decide +kernel
theorem dX12_back_45 : decode cX12_back 45 = .ok (.aload_n 0, 1) := by decide +kernel
theorem dX12_back_46 : decode cX12_back 46 = .ok (.getfield 95, 3) := by decide +kernel
theorem dX12_back_49 : decode cX12_back 49 = .ok (.aload_n 0, 1) := by decide +kernel
theorem dX12_back_50 : decode cX12_back 50 = .ok (.iload_n 1, 1) := by decide +kernel
theorem dX12_back_51 : decode cX12_back 51 = .ok (.iload_n 2, 1) := by decide +kernel
theorem dX12_back_52 : decode cX12_back 52 = .ok (.invokevirtual 306, 3) := by decide +kernel
theorem dX12_back_55 : decode cX12_back 55 = .ok (.iaload, 1) := by decide +kernel
theorem dX12_back_56 : decode cX12_back 56 = .ok (.ireturn, 1) := by decide +kernel
theorem dX12_cheapest_0 : decode cX12_cheapest 0 = .ok (.aload_n 0, 1) := by decide +kernel
theorem dX12_cheapest_1 : decode cX12_cheapest 1 = .ok (.iload_n 1, 1) := by decide +kernel
theorem dX12_cheapest_2 : decode cX12_cheapest 2 = .ok (.invokevirtual 131, 3) := by decide +kernel
theorem dX12_cheapest_5 : decode cX12_cheapest 5 = .ok (.ifCond .eq 11, 3) := by decide +kernel
theorem dX12_cheapest_8 : decode cX12_cheapest 8 = .ok (.aload_n 0, 1) := by decide +kernel
theorem dX12_cheapest_9 : decode cX12_cheapest 9 = .ok (.iload_n 2, 1) := by decide +kernel
theorem dX12_cheapest_10 : decode cX12_cheapest 10 = .ok (.invokevirtual 131, 3) := by decide +kernel
theorem dX12_cheapest_13 : decode cX12_cheapest 13 = .ok (.ifCond .ne 5, 3) := by decide +kernel
theorem dX12_cheapest_16 : decode cX12_cheapest 16 = .ok (.iconst (-1), 1) := by decide +kernel
theorem dX12_cheapest_17 : decode cX12_cheapest 17 = .ok (.ireturn, 1) := by decide +kernel
theorem dX12_cheapest_18 : decode cX12_cheapest 18 = .ok (.aload_n 0, 1) := by decide +kernel
theorem dX12_cheapest_19 : decode cX12_cheapest 19 = .ok (.iload_n 2, 1) := by decide +kernel
theorem dX12_cheapest_20 : decode cX12_cheapest 20 = .ok (.iconst 1, 1) := by decide +kernel
theorem dX12_cheapest_21 : decode cX12_cheapest 21 = .ok (.invokevirtual 373, 3) := by decide +kernel
theorem dX12_cheapest_24 : decode cX12_cheapest 24 = .ok (.aload_n 0, 1) := by decide +kernel
theorem dX12_cheapest_25 : decode cX12_cheapest 25 = .ok (.getfield 95, 3) := by decide +kernel
theorem dX12_cheapest_28 : decode cX12_cheapest 28 = .ok (.iload_n 1, 1) := by decide +kernel
theorem dX12_cheapest_29 : decode cX12_cheapest 29 = .ok (.iaload, 1) := by decide +kernel
theorem dX12_cheapest_30 : decode cX12_cheapest 30 = .ok (.ldc_w 372, 3) := by decide +kernel
theorem dX12_cheapest_33 : decode cX12_cheapest 33 = .ok (.if_icmp .lt 8, 3) := by decide +kernel
theorem dX12_cheapest_36 : decode cX12_cheapest 36 = .ok (.bipush (-2), 2) := by decide +kernel
theorem dX12_cheapest_38 : decode cX12_cheapest 38 = .ok (.goto 9, 3) := by decide +kernel
theorem dX12_cheapest_41 : decode cX12_cheapest 41 = .ok (.aload_n 0, 1) := by decide +kernel
theorem dX12_cheapest_42 : decode cX12_cheapest 42 = .ok (.getfield 95, 3) := by decide +kernel
theorem dX12_cheapest_45 : decode cX12_cheapest 45 = .ok (.iload_n 1, 1) := by decide +kernel
theorem dX12_cheapest_46 : decode cX12_cheapest 46 = .ok (.iaload, 1) := by decide +kernel
theorem dX12_cheapest_47 : decode cX12_cheapest 47 = .ok (.ireturn, 1) := by decide +kernel
theorem dX12_parts_0 : decode cX12_parts 0 = .ok (.aload_n 0, 1) := by decide +kernel
theorem dX12_parts_1 : decode cX12_parts 1 = .ok (.iload_n 1, 1) := by decide +kernel
theorem dX12_parts_2 : decode cX12_parts 2 = .ok (.invokevirtual 131, 3) := by decide +kernel
theorem dX12_parts_5 : decode cX12_parts 5 = .ok (.ifCond .eq 20, 3) := by decide +kernel
theorem dX12_parts_8 : decode cX12_parts 8 = .ok (.aload_n 0, 1) := by decide +kernel
theorem dX12_parts_9 : decode cX12_parts 9 = .ok (.iload_n 2, 1) := by decide +kernel
theorem dX12_parts_10 : decode cX12_parts 10 = .ok (.invokevirtual 131, 3) := by decide +kernel
theorem dX12_parts_13 : decode cX12_parts 13 = .ok (.ifCond .eq 12, 3) := by decide +kernel
theorem dX12_parts_16 : decode cX12_parts 16 = .ok (.iload_n 3, 1) := by decide +kernel
theorem dX12_parts_17 : decode cX12_parts 17 = .ok (.iconst 0, 1) := by decide +kernel
theorem dX12_parts_18 : decode cX12_parts 18 = .ok (.iconst 1, 1) := by decide +kernel
theorem dX12_parts_19 : decode cX12_parts 19 = .ok (.invokestatic 127, 3) := by decide +kernel
theorem dX12_parts_22 : decode cX12_parts 22 = .ok (.ifCond .ne 5, 3) := by decide +kernel
theorem dX12_parts_25 : decode cX12_parts 25 = .ok (.iconst (-1), 1) := by decide +kernel
theorem dX12_parts_26 : decode cX12_parts 26 = .ok (.ireturn, 1) := by decide +kernel
theorem dX12_parts_27 : decode cX12_parts 27 = .ok (.aload_n 0, 1) := by decide +kernel
theorem dX12_parts_28 : decode cX12_parts 28 = .ok (.invokevirtual 380, 3) := by decide +kernel
theorem dX12_parts_31 : decode cX12_parts 31 = .ok (.aload_n 0, 1) := by decide +kernel
theorem dX12_parts_32 : decode cX12_parts 32 = .ok (.getfield 98, 3) := by decide +kernel
theorem dX12_parts_35 : decode cX12_parts 35 = .ok (.bipush 10, 2) := by decide +kernel
theorem dX12_parts_37 : decode cX12_parts 37 = .ok (.iload_n 1, 1) := by decide +kernel
theorem dX12_parts_38 : decode cX12_parts 38 = .ok (.imul, 1) := by decide +kernel
theorem dX12_parts_39 : decode cX12_parts 39 = .ok (.iload_n 2, 1) := by decide +kernel
theorem dX12_parts_40 : decode cX12_parts 40 = .ok (.iadd, 1) := by decide +kernel
theorem dX12_parts_41 : decode cX12_parts 41 = .ok (.iaload, 1) := by decide +kernel
theorem dX12_parts_42 : decode cX12_parts 42 = .ok (.istore 4, 2) := by decide +kernel
theorem dX12_parts_44 : decode cX12_parts 44 = .ok (.iload 4, 2) := by decide +kernel
theorem dX12_parts_46 : decode cX12_parts 46 = .ok (.ldc_w 372, 3) := by decide +kernel
theorem dX12_parts_49 : decode cX12_parts 49 = .ok (.if_icmp .lt 6, 3) := by decide +kernel
theorem dX12_parts_52 : decode cX12_parts 52 = .ok (.bipush (-2), 2) := by decide +kernel
theorem dX12_parts_54 : decode cX12_parts 54 = .ok (.ireturn, 1) := by decide +kernel
theorem dX12_parts_55 : decode cX12_parts 55 = .ok (.iload_n 3, 1) := by decide +kernel
theorem dX12_parts_56 : decode cX12_parts 56 = .ok (.ifCond .ne 6, 3) := by decide +kernel
theorem dX12_parts_59 : decode cX12_parts 59 = .ok (.iload 4, 2) := by decide +kernel
theorem dX12_parts_61 : decode cX12_parts 61 = .ok (.ireturn, 1) := by decide +kernel
theorem dX12_parts_62 : decode cX12_parts 62 = .ok (.iconst 0, 1) := by decide +kernel
theorem dX12_parts_63 : decode cX12_parts 63 = .ok (.istore 5, 2) := by decide +kernel
theorem dX12_parts_65 : decode cX12_parts 65 = .ok (.aload_n 0, 1) := by decide +kernel
theorem dX12_parts_66 : decode cX12_parts 66 = .ok (.iload_n 1, 1) := by decide +kernel
theorem dX12_parts_67 : decode cX12_parts 67 = .ok (.iload_n 2, 1) := by decide +kernel
theorem dX12_parts_68 : decode cX12_parts 68 = .ok (.iload 5, 2) := by decide +kernel
theorem dX12_parts_70 : decode cX12_parts 70 = .ok (.invokevirtual 377, 3) := by decide +kernel
theorem dX12_parts_73 : decode cX12_parts 73 = .ok (.iload 4, 2) := by decide +kernel
theorem dX12_parts_75 : decode cX12_parts 75 = .ok (.if_icmp .eq 12, 3) := by decide +kernel
theorem dX12_parts_78 : decode cX12_parts 78 = .ok (.iload 5, 2) := by decide +kernel
theorem dX12_parts_80 : decode cX12_parts 80 = .ok (.iconst 1, 1) := by decide +kernel
theorem dX12_parts_81 : decode cX12_parts 81 = .ok (.iadd, 1) := by decide +kernel
theorem dX12_parts_82 : decode cX12_parts 82 = .ok (.istore 5, 2) := by decide +kernel
theorem dX12_parts_84 : decode cX12_parts 84 = .ok (.goto (-19), 3) := by decide +kernel
theorem dX12_parts_87 : decode cX12_parts 87 = .ok (.iload 5, 2) := by decide +kernel
theorem dX12_parts_89 : decode cX12_parts 89 = .ok (.ireturn, 1) := by decide +kernel
theorem dX12_laysParts_0 : decode cX12_laysParts 0 = .ok (.iconst 0, 1) := by decide +kernel
theorem dX12_laysParts_1 : decode cX12_laysParts 1 = .ok (.istore_n 1, 1) := by decide +kernel
theorem dX12_laysParts_2 : decode cX12_laysParts 2 = .ok (.iload_n 1, 1) := by decide +kernel
theorem dX12_laysParts_3 : decode cX12_laysParts 3 = .ok (.bipush 100, 2) := by decide +kernel
theorem dX12_laysParts_5 : decode cX12_laysParts 5 = .ok (.if_icmp .ge 18, 3) := by decide +kernel
theorem dX12_laysParts_8 : decode cX12_laysParts 8 = .ok (.aload_n 0, 1) := by decide +kernel
theorem dX12_laysParts_9 : decode cX12_laysParts 9 = .ok (.getfield 98, 3) := by decide +kernel
theorem dX12_laysParts_12 : decode cX12_laysParts 12 = .ok (.iload_n 1, 1) := by decide +kernel
theorem dX12_laysParts_13 : decode cX12_laysParts 13 = .ok (.ldc_w 372, 3) := by decide +kernel
theorem dX12_laysParts_16 : decode cX12_laysParts 16 = .ok (.iastore, 1) := by decide +kernel
theorem dX12_laysParts_17 : decode cX12_laysParts 17 = .ok (.iinc 1 1, 3) := by decide +kernel
theorem dX12_laysParts_20 : decode cX12_laysParts 20 = .ok (.goto (-18), 3) := by decide +kernel
theorem dX12_laysParts_23 : decode cX12_laysParts 23 = .ok (.iconst 1, 1) := by decide +kernel
theorem dX12_laysParts_24 : decode cX12_laysParts 24 = .ok (.istore_n 1, 1) := by decide +kernel
theorem dX12_laysParts_25 : decode cX12_laysParts 25 = .ok (.iload_n 1, 1) := by decide +kernel
theorem dX12_laysParts_26 : decode cX12_laysParts 26 = .ok (.ifCond .eq 104, 3) := by decide +kernel
theorem dX12_laysParts_29 : decode cX12_laysParts 29 = .ok (.iconst 0, 1) := by decide +kernel
theorem dX12_laysParts_30 : decode cX12_laysParts 30 = .ok (.istore_n 1, 1) := by decide +kernel
theorem dX12_laysParts_31 : decode cX12_laysParts 31 = .ok (.iconst 0, 1) := by decide +kernel
theorem dX12_laysParts_32 : decode cX12_laysParts 32 = .ok (.istore_n 2, 1) := by decide +kernel
theorem dX12_laysParts_33 : decode cX12_laysParts 33 = .ok (.iload_n 2, 1) := by decide +kernel
theorem dX12_laysParts_34 : decode cX12_laysParts 34 = .ok (.bipush 100, 2) := by decide +kernel
theorem dX12_laysParts_36 : decode cX12_laysParts 36 = .ok (.if_icmp .ge 91, 3) := by decide +kernel
theorem dX12_laysParts_39 : decode cX12_laysParts 39 = .ok (.iload_n 2, 1) := by decide +kernel
theorem dX12_laysParts_40 : decode cX12_laysParts 40 = .ok (.bipush 10, 2) := by decide +kernel
theorem dX12_laysParts_42 : decode cX12_laysParts 42 = .ok (.idiv, 1) := by decide +kernel
theorem dX12_laysParts_43 : decode cX12_laysParts 43 = .ok (.istore_n 3, 1) := by decide +kernel
theorem dX12_laysParts_44 : decode cX12_laysParts 44 = .ok (.iload_n 2, 1) := by decide +kernel
theorem dX12_laysParts_45 : decode cX12_laysParts 45 = .ok (.bipush 10, 2) := by decide +kernel
theorem dX12_laysParts_47 : decode cX12_laysParts 47 = .ok (.irem, 1) := by decide +kernel
theorem dX12_laysParts_48 : decode cX12_laysParts 48 = .ok (.istore 4, 2) := by decide +kernel
theorem dX12_laysParts_50 : decode cX12_laysParts 50 = .ok (.iconst 0, 1) := by decide +kernel
theorem dX12_laysParts_51 : decode cX12_laysParts 51 = .ok (.istore 5, 2) := by decide +kernel
theorem dX12_laysParts_53 : decode cX12_laysParts 53 = .ok (.iload 5, 2) := by decide +kernel
theorem dX12_laysParts_55 : decode cX12_laysParts 55 = .ok (.bipush 8, 2) := by decide +kernel
theorem dX12_laysParts_57 : decode cX12_laysParts 57 = .ok (.if_icmp .ge 64, 3) := by decide +kernel
theorem dX12_laysParts_60 : decode cX12_laysParts 60 = .ok (.iload_n 3, 1) := by decide +kernel
theorem dX12_laysParts_61 : decode cX12_laysParts 61 = .ok (.aload_n 0, 1) := by decide +kernel
theorem dX12_laysParts_62 : decode cX12_laysParts 62 = .ok (.getfield 123, 3) := by decide +kernel
theorem dX12_laysParts_65 : decode cX12_laysParts 65 = .ok (.if_icmp .ge 56, 3) := by decide +kernel
theorem dX12_laysParts_68 : decode cX12_laysParts 68 = .ok (.iload 4, 2) := by decide +kernel
theorem dX12_laysParts_70 : decode cX12_laysParts 70 = .ok (.aload_n 0, 1) := by decide +kernel
theorem dX12_laysParts_71 : decode cX12_laysParts 71 = .ok (.getfield 123, 3) := by decide +kernel
theorem dX12_laysParts_74 : decode cX12_laysParts 74 = .ok (.if_icmp .ge 47, 3) := by decide +kernel
theorem dX12_laysParts_77 : decode cX12_laysParts 77 = .ok (.aload_n 0, 1) := by decide +kernel
theorem dX12_laysParts_78 : decode cX12_laysParts 78 = .ok (.iload_n 3, 1) := by decide +kernel
theorem dX12_laysParts_79 : decode cX12_laysParts 79 = .ok (.iload 4, 2) := by decide +kernel
theorem dX12_laysParts_81 : decode cX12_laysParts 81 = .ok (.iload 5, 2) := by decide +kernel
theorem dX12_laysParts_83 : decode cX12_laysParts 83 = .ok (.invokevirtual 377, 3) := by decide +kernel
theorem dX12_laysParts_86 : decode cX12_laysParts 86 = .ok (.aload_n 0, 1) := by decide +kernel
theorem dX12_laysParts_87 : decode cX12_laysParts 87 = .ok (.getfield 98, 3) := by decide +kernel
theorem dX12_laysParts_90 : decode cX12_laysParts 90 = .ok (.iload_n 2, 1) := by decide +kernel
theorem dX12_laysParts_91 : decode cX12_laysParts 91 = .ok (.iaload, 1) := by decide +kernel
theorem dX12_laysParts_92 : decode cX12_laysParts 92 = .ok (.if_icmp .lt 6, 3) := by decide +kernel
theorem dX12_laysParts_95 : decode cX12_laysParts 95 = .ok (.goto 20, 3) := by decide +kernel
theorem dX12_laysParts_98 : decode cX12_laysParts 98 = .ok (.aload_n 0, 1) := by decide +kernel
theorem dX12_laysParts_99 : decode cX12_laysParts 99 = .ok (.getfield 98, 3) := by decide +kernel
theorem dX12_laysParts_102 : decode cX12_laysParts 102 = .ok (.iload_n 2, 1) := by decide +kernel
theorem dX12_laysParts_103 : decode cX12_laysParts 103 = .ok (.aload_n 0, 1) := by decide +kernel
theorem dX12_laysParts_104 : decode cX12_laysParts 104 = .ok (.iload_n 3, 1) := by decide +kernel
theorem dX12_laysParts_105 : decode cX12_laysParts 105 = .ok (.iload 4, 2) := by decide +kernel
theorem dX12_laysParts_107 : decode cX12_laysParts 107 = .ok (.iload 5, 2) := by decide +kernel
theorem dX12_laysParts_109 : decode cX12_laysParts 109 = .ok (.invokevirtual 377, 3) := by decide +kernel
theorem dX12_laysParts_112 : decode cX12_laysParts 112 = .ok (.iastore, 1) := by decide +kernel
theorem dX12_laysParts_113 : decode cX12_laysParts 113 = .ok (.iconst 1, 1) := by decide +kernel
theorem dX12_laysParts_114 : decode cX12_laysParts 114 = .ok (.istore_n 1, 1) := by decide +kernel
theorem dX12_laysParts_115 : decode cX12_laysParts 115 = .ok (.iinc 5 1, 3) := by decide +kernel
theorem dX12_laysParts_118 : decode cX12_laysParts 118 = .ok (.goto (-65), 3) := by decide +kernel
theorem dX12_laysParts_121 : decode cX12_laysParts 121 = .ok (.iinc 2 1, 3) := by decide +kernel
theorem dX12_laysParts_124 : decode cX12_laysParts 124 = .ok (.goto (-91), 3) := by decide +kernel
theorem dX12_laysParts_127 : decode cX12_laysParts 127 = .ok (.goto (-102), 3) := by decide +kernel
theorem dX12_laysParts_130 : decode cX12_laysParts 130 = .ok (.return_, 1) := by decide +kernel
theorem dX12_partsThen_0 : decode cX12_partsThen 0 = .ok (.aload_n 0, 1) := by decide +kernel
theorem dX12_partsThen_1 : decode cX12_partsThen 1 = .ok (.iload_n 3, 1) := by decide +kernel
theorem dX12_partsThen_2 : decode cX12_partsThen 2 = .ok (.iload_n 1, 1) := by decide +kernel
theorem dX12_partsThen_3 : decode cX12_partsThen 3 = .ok (.invokevirtual 299, 3) := by decide +kernel
theorem dX12_partsThen_6 : decode cX12_partsThen 6 = .ok (.aload_n 0, 1) := by decide +kernel
theorem dX12_partsThen_7 : decode cX12_partsThen 7 = .ok (.iload_n 3, 1) := by decide +kernel
theorem dX12_partsThen_8 : decode cX12_partsThen 8 = .ok (.iload_n 2, 1) := by decide +kernel
theorem dX12_partsThen_9 : decode cX12_partsThen 9 = .ok (.invokevirtual 299, 3) := by decide +kernel
theorem dX12_partsThen_12 : decode cX12_partsThen 12 = .ok (.if_icmp .eq 7, 3) := by decide +kernel
theorem dX12_partsThen_15 : decode cX12_partsThen 15 = .ok (.iconst 1, 1) := by decide +kernel
theorem dX12_partsThen_16 : decode cX12_partsThen 16 = .ok (.goto 26, 3) := by decide +kernel
theorem dX12_partsThen_19 : decode cX12_partsThen 19 = .ok (.aload_n 0, 1) := by decide +kernel
theorem dX12_partsThen_20 : decode cX12_partsThen 20 = .ok (.getfield 98, 3) := by decide +kernel
theorem dX12_partsThen_23 : decode cX12_partsThen 23 = .ok (.bipush 10, 2) := by decide +kernel
theorem dX12_partsThen_25 : decode cX12_partsThen 25 = .ok (.aload_n 0, 1) := by decide +kernel
theorem dX12_partsThen_26 : decode cX12_partsThen 26 = .ok (.iload_n 3, 1) := by decide +kernel
theorem dX12_partsThen_27 : decode cX12_partsThen 27 = .ok (.iload_n 1, 1) := by decide +kernel
theorem dX12_partsThen_28 : decode cX12_partsThen 28 = .ok (.invokevirtual 306, 3) := by decide +kernel
theorem dX12_partsThen_31 : decode cX12_partsThen 31 = .ok (.imul, 1) := by decide +kernel
theorem dX12_partsThen_32 : decode cX12_partsThen 32 = .ok (.aload_n 0, 1) := by decide +kernel
theorem dX12_partsThen_33 : decode cX12_partsThen 33 = .ok (.iload_n 3, 1) := by decide +kernel
theorem dX12_partsThen_34 : decode cX12_partsThen 34 = .ok (.iload_n 2, 1) := by decide +kernel
theorem dX12_partsThen_35 : decode cX12_partsThen 35 = .ok (.invokevirtual 306, 3) := by decide +kernel
theorem dX12_partsThen_38 : decode cX12_partsThen 38 = .ok (.iadd, 1) := by decide +kernel
theorem dX12_partsThen_39 : decode cX12_partsThen 39 = .ok (.iaload, 1) := by decide +kernel
theorem dX12_partsThen_40 : decode cX12_partsThen 40 = .ok (.iconst 1, 1) := by decide +kernel
theorem dX12_partsThen_41 : decode cX12_partsThen 41 = .ok (.iadd, 1) := by decide +kernel
theorem dX12_partsThen_42 : decode cX12_partsThen 42 = .ok (.ireturn, 1) := by decide +kernel
theorem dX12_classes_0 : decode cX12_classes 0 = .ok (.aload_n 0, 1) := by decide +kernel
theorem dX12_classes_1 : decode cX12_classes 1 = .ok (.getfield 123, 3) := by decide +kernel
theorem dX12_classes_4 : decode cX12_classes 4 = .ok (.ifCond .eq 17, 3) := by decide +kernel
theorem dX12_classes_7 : decode cX12_classes 7 = .ok (.iload_n 1, 1) := by decide +kernel
theorem dX12_classes_8 : decode cX12_classes 8 = .ok (.bipush 100, 2) := by decide +kernel
theorem dX12_classes_10 : decode cX12_classes 10 = .ok (.if_icmp .eq 13, 3) := by decide +kernel
theorem dX12_classes_13 : decode cX12_classes 13 = .ok (.aload_n 0, 1) := by decide +kernel
theorem dX12_classes_14 : decode cX12_classes 14 = .ok (.iload_n 1, 1) := by decide +kernel
theorem dX12_classes_15 : decode cX12_classes 15 = .ok (.invokevirtual 131, 3) := by decide +kernel
theorem dX12_classes_18 : decode cX12_classes 18 = .ok (.ifCond .ne 5, 3) := by decide +kernel
theorem dX12_classes_21 : decode cX12_classes 21 = .ok (.iconst (-1), 1) := by decide +kernel
theorem dX12_classes_22 : decode cX12_classes 22 = .ok (.ireturn, 1) := by decide +kernel
theorem dX12_classes_23 : decode cX12_classes 23 = .ok (.aload_n 0, 1) := by decide +kernel
theorem dX12_classes_24 : decode cX12_classes 24 = .ok (.invokevirtual 380, 3) := by decide +kernel
theorem dX12_classes_27 : decode cX12_classes 27 = .ok (.iload_n 1, 1) := by decide +kernel
theorem dX12_classes_28 : decode cX12_classes 28 = .ok (.bipush 100, 2) := by decide +kernel
theorem dX12_classes_30 : decode cX12_classes 30 = .ok (.if_icmp .eq 9, 3) := by decide +kernel
theorem dX12_classes_33 : decode cX12_classes 33 = .ok (.aload_n 0, 1) := by decide +kernel
theorem dX12_classes_34 : decode cX12_classes 34 = .ok (.iload_n 1, 1) := by decide +kernel
theorem dX12_classes_35 : decode cX12_classes 35 = .ok (.invokevirtual 383, 3) := by decide +kernel
theorem dX12_classes_38 : decode cX12_classes 38 = .ok (.ireturn, 1) := by decide +kernel
theorem dX12_classes_39 : decode cX12_classes 39 = .ok (.iconst 0, 1) := by decide +kernel
theorem dX12_classes_40 : decode cX12_classes 40 = .ok (.istore_n 2, 1) := by decide +kernel
theorem dX12_classes_41 : decode cX12_classes 41 = .ok (.iconst 0, 1) := by decide +kernel
theorem dX12_classes_42 : decode cX12_classes 42 = .ok (.istore_n 3, 1) := by decide +kernel
theorem dX12_classes_43 : decode cX12_classes 43 = .ok (.iload_n 3, 1) := by decide +kernel
theorem dX12_classes_44 : decode cX12_classes 44 = .ok (.aload_n 0, 1) := by decide +kernel
theorem dX12_classes_45 : decode cX12_classes 45 = .ok (.getfield 123, 3) := by decide +kernel
theorem dX12_classes_48 : decode cX12_classes 48 = .ok (.if_icmp .ge 25, 3) := by decide +kernel
theorem dX12_classes_51 : decode cX12_classes 51 = .ok (.aload_n 0, 1) := by decide +kernel
theorem dX12_classes_52 : decode cX12_classes 52 = .ok (.iload_n 3, 1) := by decide +kernel
theorem dX12_classes_53 : decode cX12_classes 53 = .ok (.invokevirtual 383, 3) := by decide +kernel
theorem dX12_classes_56 : decode cX12_classes 56 = .ok (.invokestatic 386, 3) := by decide +kernel
theorem dX12_classes_59 : decode cX12_classes 59 = .ok (.iload_n 3, 1) := by decide +kernel
theorem dX12_classes_60 : decode cX12_classes 60 = .ok (.if_icmp .ne 7, 3) := by decide +kernel
theorem dX12_classes_63 : decode cX12_classes 63 = .ok (.iload_n 2, 1) := by decide +kernel
theorem dX12_classes_64 : decode cX12_classes 64 = .ok (.iconst 1, 1) := by decide +kernel
theorem dX12_classes_65 : decode cX12_classes 65 = .ok (.iadd, 1) := by decide +kernel
theorem dX12_classes_66 : decode cX12_classes 66 = .ok (.istore_n 2, 1) := by decide +kernel
theorem dX12_classes_67 : decode cX12_classes 67 = .ok (.iinc 3 1, 3) := by decide +kernel
theorem dX12_classes_70 : decode cX12_classes 70 = .ok (.goto (-27), 3) := by decide +kernel
theorem dX12_classes_73 : decode cX12_classes 73 = .ok (.iload_n 2, 1) := by decide +kernel
theorem dX12_classes_74 : decode cX12_classes 74 = .ok (.ireturn, 1) := by decide +kernel
theorem dX12_classOf_0 : decode cX12_classOf 0 = .ok (.iconst 0, 1) := by decide +kernel
theorem dX12_classOf_1 : decode cX12_classOf 1 = .ok (.istore_n 2, 1) := by decide +kernel
theorem dX12_classOf_2 : decode cX12_classOf 2 = .ok (.iconst 0, 1) := by decide +kernel
theorem dX12_classOf_3 : decode cX12_classOf 3 = .ok (.istore_n 3, 1) := by decide +kernel
theorem dX12_classOf_4 : decode cX12_classOf 4 = .ok (.iload_n 3, 1) := by decide +kernel
theorem dX12_classOf_5 : decode cX12_classOf 5 = .ok (.aload_n 0, 1) := by decide +kernel
theorem dX12_classOf_6 : decode cX12_classOf 6 = .ok (.getfield 123, 3) := by decide +kernel
theorem dX12_classOf_9 : decode cX12_classOf 9 = .ok (.if_icmp .ge 32, 3) := by decide +kernel
theorem dX12_classOf_12 : decode cX12_classOf 12 = .ok (.aload_n 0, 1) := by decide +kernel
theorem dX12_classOf_13 : decode cX12_classOf 13 = .ok (.getfield 98, 3) := by decide +kernel
theorem dX12_classOf_16 : decode cX12_classOf 16 = .ok (.bipush 10, 2) := by decide +kernel
theorem dX12_classOf_18 : decode cX12_classOf 18 = .ok (.iload_n 1, 1) := by decide +kernel
theorem dX12_classOf_19 : decode cX12_classOf 19 = .ok (.imul, 1) := by decide +kernel
theorem dX12_classOf_20 : decode cX12_classOf 20 = .ok (.iload_n 3, 1) := by decide +kernel
theorem dX12_classOf_21 : decode cX12_classOf 21 = .ok (.iadd, 1) := by decide +kernel
theorem dX12_classOf_22 : decode cX12_classOf 22 = .ok (.iaload, 1) := by decide +kernel
theorem dX12_classOf_23 : decode cX12_classOf 23 = .ok (.ldc_w 372, 3) := by decide +kernel
theorem dX12_classOf_26 : decode cX12_classOf 26 = .ok (.if_icmp .lt 9, 3) := by decide +kernel
theorem dX12_classOf_29 : decode cX12_classOf 29 = .ok (.iload_n 2, 1) := by decide +kernel
theorem dX12_classOf_30 : decode cX12_classOf 30 = .ok (.iconst 1, 1) := by decide +kernel
theorem dX12_classOf_31 : decode cX12_classOf 31 = .ok (.iload_n 3, 1) := by decide +kernel
theorem dX12_classOf_32 : decode cX12_classOf 32 = .ok (.ishl, 1) := by decide +kernel
theorem dX12_classOf_33 : decode cX12_classOf 33 = .ok (.ior, 1) := by decide +kernel
theorem dX12_classOf_34 : decode cX12_classOf 34 = .ok (.istore_n 2, 1) := by decide +kernel
theorem dX12_classOf_35 : decode cX12_classOf 35 = .ok (.iinc 3 1, 3) := by decide +kernel
theorem dX12_classOf_38 : decode cX12_classOf 38 = .ok (.goto (-34), 3) := by decide +kernel
theorem dX12_classOf_41 : decode cX12_classOf 41 = .ok (.iload_n 2, 1) := by decide +kernel
theorem dX12_classOf_42 : decode cX12_classOf 42 = .ok (.ireturn, 1) := by decide +kernel
theorem dX12_lowest_0 : decode cX12_lowest 0 = .ok (.iconst 0, 1) := by decide +kernel
theorem dX12_lowest_1 : decode cX12_lowest 1 = .ok (.istore_n 1, 1) := by decide +kernel
theorem dX12_lowest_2 : decode cX12_lowest 2 = .ok (.iload_n 0, 1) := by decide +kernel
theorem dX12_lowest_3 : decode cX12_lowest 3 = .ok (.iload_n 1, 1) := by decide +kernel
theorem dX12_lowest_4 : decode cX12_lowest 4 = .ok (.invokestatic 119, 3) := by decide +kernel
theorem dX12_lowest_7 : decode cX12_lowest 7 = .ok (.ifCond .ne 10, 3) := by decide +kernel
theorem dX12_lowest_10 : decode cX12_lowest 10 = .ok (.iload_n 1, 1) := by decide +kernel
theorem dX12_lowest_11 : decode cX12_lowest 11 = .ok (.iconst 1, 1) := by decide +kernel
theorem dX12_lowest_12 : decode cX12_lowest 12 = .ok (.iadd, 1) := by decide +kernel
theorem dX12_lowest_13 : decode cX12_lowest 13 = .ok (.istore_n 1, 1) := by decide +kernel
theorem dX12_lowest_14 : decode cX12_lowest 14 = .ok (.goto (-12), 3) := by decide +kernel
theorem dX12_lowest_17 : decode cX12_lowest 17 = .ok (.iload_n 1, 1) := by decide +kernel
theorem dX12_lowest_18 : decode cX12_lowest 18 = .ok (.ireturn, 1) := by decide +kernel
theorem dX12_known_0 : decode cX12_known 0 = .ok (.aload_n 0, 1) := by decide +kernel
theorem dX12_known_1 : decode cX12_known 1 = .ok (.getfield 123, 3) := by decide +kernel
theorem dX12_known_4 : decode cX12_known 4 = .ok (.ifCond .eq 12, 3) := by decide +kernel
theorem dX12_known_7 : decode cX12_known 7 = .ok (.iload_n 1, 1) := by decide +kernel
theorem dX12_known_8 : decode cX12_known 8 = .ok (.iconst 0, 1) := by decide +kernel
theorem dX12_known_9 : decode cX12_known 9 = .ok (.iconst 2, 1) := by decide +kernel
theorem dX12_known_10 : decode cX12_known 10 = .ok (.invokestatic 127, 3) := by decide +kernel
theorem dX12_known_13 : decode cX12_known 13 = .ok (.ifCond .ne 5, 3) := by decide +kernel
theorem dX12_known_16 : decode cX12_known 16 = .ok (.iconst (-1), 1) := by decide +kernel
theorem dX12_known_17 : decode cX12_known 17 = .ok (.ireturn, 1) := by decide +kernel
theorem dX12_known_18 : decode cX12_known 18 = .ok (.aload_n 0, 1) := by decide +kernel
theorem dX12_known_19 : decode cX12_known 19 = .ok (.invokevirtual 395, 3) := by decide +kernel
theorem dX12_known_22 : decode cX12_known 22 = .ok (.istore_n 2, 1) := by decide +kernel
theorem dX12_known_23 : decode cX12_known 23 = .ok (.iload_n 2, 1) := by decide +kernel
theorem dX12_known_24 : decode cX12_known 24 = .ok (.iconst (-1), 1) := by decide +kernel
theorem dX12_known_25 : decode cX12_known 25 = .ok (.if_icmp .ne 6, 3) := by decide +kernel
theorem dX12_known_28 : decode cX12_known 28 = .ok (.bipush (-2), 2) := by decide +kernel
theorem dX12_known_30 : decode cX12_known 30 = .ok (.ireturn, 1) := by decide +kernel
theorem dX12_known_31 : decode cX12_known 31 = .ok (.iload_n 1, 1) := by decide +kernel
theorem dX12_known_32 : decode cX12_known 32 = .ok (.ifCond .ne 12, 3) := by decide +kernel
theorem dX12_known_35 : decode cX12_known 35 = .ok (.aload_n 0, 1) := by decide +kernel
theorem dX12_known_36 : decode cX12_known 36 = .ok (.getfield 104, 3) := by decide +kernel
theorem dX12_known_39 : decode cX12_known 39 = .ok (.iload_n 2, 1) := by decide +kernel
theorem dX12_known_40 : decode cX12_known 40 = .ok (.iaload, 1) := by decide +kernel
theorem dX12_known_41 : decode cX12_known 41 = .ok (.goto 21, 3) := by decide +kernel
theorem dX12_known_44 : decode cX12_known 44 = .ok (.iload_n 1, 1) := by decide +kernel
theorem dX12_known_45 : decode cX12_known 45 = .ok (.iconst 1, 1) := by decide +kernel
theorem dX12_known_46 : decode cX12_known 46 = .ok (.if_icmp .ne 10, 3) := by decide +kernel
theorem dX12_known_49 : decode cX12_known 49 = .ok (.iload_n 2, 1) := by decide +kernel
theorem dX12_known_50 : decode cX12_known 50 = .ok (.invokestatic 386, 3) := by decide +kernel
theorem dX12_known_53 : decode cX12_known 53 = .ok (.goto 9, 3) := by decide +kernel
theorem dX12_known_56 : decode cX12_known 56 = .ok (.aload_n 0, 1) := by decide +kernel
theorem dX12_known_57 : decode cX12_known 57 = .ok (.getfield 107, 3) := by decide +kernel
theorem dX12_known_60 : decode cX12_known 60 = .ok (.iload_n 2, 1) := by decide +kernel
theorem dX12_known_61 : decode cX12_known 61 = .ok (.iaload, 1) := by decide +kernel
theorem dX12_known_62 : decode cX12_known 62 = .ok (.ireturn, 1) := by decide +kernel
theorem dX12_laysKnown_0 : decode cX12_laysKnown 0 = .ok (.iconst 0, 1) := by decide +kernel
theorem dX12_laysKnown_1 : decode cX12_laysKnown 1 = .ok (.istore_n 1, 1) := by decide +kernel
theorem dX12_laysKnown_2 : decode cX12_laysKnown 2 = .ok (.iload_n 1, 1) := by decide +kernel
theorem dX12_laysKnown_3 : decode cX12_laysKnown 3 = .ok (.sipush 1024, 3) := by decide +kernel
theorem dX12_laysKnown_6 : decode cX12_laysKnown 6 = .ok (.if_icmp .ge 16, 3) := by decide +kernel
theorem dX12_laysKnown_9 : decode cX12_laysKnown 9 = .ok (.aload_n 0, 1) := by decide +kernel
theorem dX12_laysKnown_10 : decode cX12_laysKnown 10 = .ok (.getfield 104, 3) := by decide +kernel
theorem dX12_laysKnown_13 : decode cX12_laysKnown 13 = .ok (.iload_n 1, 1) := by decide +kernel
theorem dX12_laysKnown_14 : decode cX12_laysKnown 14 = .ok (.iconst (-1), 1) := by decide +kernel
theorem dX12_laysKnown_15 : decode cX12_laysKnown 15 = .ok (.iastore, 1) := by decide +kernel
theorem dX12_laysKnown_16 : decode cX12_laysKnown 16 = .ok (.iinc 1 1, 3) := by decide +kernel
theorem dX12_laysKnown_19 : decode cX12_laysKnown 19 = .ok (.goto (-17), 3) := by decide +kernel
theorem dX12_laysKnown_22 : decode cX12_laysKnown 22 = .ok (.aload_n 0, 1) := by decide +kernel
theorem dX12_laysKnown_23 : decode cX12_laysKnown 23 = .ok (.getfield 101, 3) := by decide +kernel
theorem dX12_laysKnown_26 : decode cX12_laysKnown 26 = .ok (.iconst 0, 1) := by decide +kernel
theorem dX12_laysKnown_27 : decode cX12_laysKnown 27 = .ok (.iconst 1, 1) := by decide +kernel
theorem dX12_laysKnown_28 : decode cX12_laysKnown 28 = .ok (.aload_n 0, 1) := by decide +kernel
theorem dX12_laysKnown_29 : decode cX12_laysKnown 29 = .ok (.getfield 123, 3) := by decide +kernel
theorem dX12_laysKnown_32 : decode cX12_laysKnown 32 = .ok (.ishl, 1) := by decide +kernel
theorem dX12_laysKnown_33 : decode cX12_laysKnown 33 = .ok (.iconst 1, 1) := by decide +kernel
theorem dX12_laysKnown_34 : decode cX12_laysKnown 34 = .ok (.isub, 1) := by decide +kernel
theorem dX12_laysKnown_35 : decode cX12_laysKnown 35 = .ok (.iastore, 1) := by decide +kernel
theorem dX12_laysKnown_36 : decode cX12_laysKnown 36 = .ok (.aload_n 0, 1) := by decide +kernel
theorem dX12_laysKnown_37 : decode cX12_laysKnown 37 = .ok (.getfield 104, 3) := by decide +kernel
theorem dX12_laysKnown_40 : decode cX12_laysKnown 40 = .ok (.aload_n 0, 1) := by decide +kernel
theorem dX12_laysKnown_41 : decode cX12_laysKnown 41 = .ok (.getfield 101, 3) := by decide +kernel
theorem dX12_laysKnown_44 : decode cX12_laysKnown 44 = .ok (.iconst 0, 1) := by decide +kernel
theorem dX12_laysKnown_45 : decode cX12_laysKnown 45 = .ok (.iaload, 1) := by decide +kernel
theorem dX12_laysKnown_46 : decode cX12_laysKnown 46 = .ok (.iconst 0, 1) := by decide +kernel
theorem dX12_laysKnown_47 : decode cX12_laysKnown 47 = .ok (.iastore, 1) := by decide +kernel
theorem dX12_laysKnown_48 : decode cX12_laysKnown 48 = .ok (.iconst 1, 1) := by decide +kernel
theorem dX12_laysKnown_49 : decode cX12_laysKnown 49 = .ok (.istore_n 1, 1) := by decide +kernel
theorem dX12_laysKnown_50 : decode cX12_laysKnown 50 = .ok (.iconst 0, 1) := by decide +kernel
theorem dX12_laysKnown_51 : decode cX12_laysKnown 51 = .ok (.istore_n 2, 1) := by decide +kernel
theorem dX12_laysKnown_52 : decode cX12_laysKnown 52 = .ok (.iload_n 2, 1) := by decide +kernel
theorem dX12_laysKnown_53 : decode cX12_laysKnown 53 = .ok (.iload_n 1, 1) := by decide +kernel
theorem dX12_laysKnown_54 : decode cX12_laysKnown 54 = .ok (.if_icmp .ge 128, 3) := by decide +kernel
theorem dX12_laysKnown_57 : decode cX12_laysKnown 57 = .ok (.aload_n 0, 1) := by decide +kernel
theorem dX12_laysKnown_58 : decode cX12_laysKnown 58 = .ok (.getfield 101, 3) := by decide +kernel
theorem dX12_laysKnown_61 : decode cX12_laysKnown 61 = .ok (.iload_n 2, 1) := by decide +kernel
theorem dX12_laysKnown_62 : decode cX12_laysKnown 62 = .ok (.iaload, 1) := by decide +kernel
theorem dX12_laysKnown_63 : decode cX12_laysKnown 63 = .ok (.invokestatic 389, 3) := by decide +kernel
theorem dX12_laysKnown_66 : decode cX12_laysKnown 66 = .ok (.iconst 1, 1) := by decide +kernel
theorem dX12_laysKnown_67 : decode cX12_laysKnown 67 = .ok (.if_icmp .ne 10, 3) := by decide +kernel
theorem dX12_laysKnown_70 : decode cX12_laysKnown 70 = .ok (.aload_n 0, 1) := by decide +kernel
theorem dX12_laysKnown_71 : decode cX12_laysKnown 71 = .ok (.getfield 101, 3) := by decide +kernel
theorem dX12_laysKnown_74 : decode cX12_laysKnown 74 = .ok (.iload_n 2, 1) := by decide +kernel
theorem dX12_laysKnown_75 : decode cX12_laysKnown 75 = .ok (.iaload, 1) := by decide +kernel
theorem dX12_laysKnown_76 : decode cX12_laysKnown 76 = .ok (.ireturn, 1) := by decide +kernel
theorem dX12_laysKnown_77 : decode cX12_laysKnown 77 = .ok (.iconst 0, 1) := by decide +kernel
theorem dX12_laysKnown_78 : decode cX12_laysKnown 78 = .ok (.istore_n 3, 1) := by decide +kernel
theorem dX12_laysKnown_79 : decode cX12_laysKnown 79 = .ok (.iload_n 3, 1) := by decide +kernel
theorem dX12_laysKnown_80 : decode cX12_laysKnown 80 = .ok (.bipush 8, 2) := by decide +kernel
theorem dX12_laysKnown_82 : decode cX12_laysKnown 82 = .ok (.if_icmp .ge 94, 3) := by decide +kernel
theorem dX12_laysKnown_85 : decode cX12_laysKnown 85 = .ok (.aload_n 0, 1) := by decide +kernel
theorem dX12_laysKnown_86 : decode cX12_laysKnown 86 = .ok (.aload_n 0, 1) := by decide +kernel
theorem dX12_laysKnown_87 : decode cX12_laysKnown 87 = .ok (.getfield 101, 3) := by decide +kernel
theorem dX12_laysKnown_90 : decode cX12_laysKnown 90 = .ok (.iload_n 2, 1) := by decide +kernel
theorem dX12_laysKnown_91 : decode cX12_laysKnown 91 = .ok (.iaload, 1) := by decide +kernel
theorem dX12_laysKnown_92 : decode cX12_laysKnown 92 = .ok (.iload_n 3, 1) := by decide +kernel
theorem dX12_laysKnown_93 : decode cX12_laysKnown 93 = .ok (.invokevirtual 392, 3) := by decide +kernel
theorem dX12_laysKnown_96 : decode cX12_laysKnown 96 = .ok (.istore 4, 2) := by decide +kernel
theorem dX12_laysKnown_98 : decode cX12_laysKnown 98 = .ok (.aload_n 0, 1) := by decide +kernel
theorem dX12_laysKnown_99 : decode cX12_laysKnown 99 = .ok (.getfield 104, 3) := by decide +kernel
theorem dX12_laysKnown_102 : decode cX12_laysKnown 102 = .ok (.iload 4, 2) := by decide +kernel
theorem dX12_laysKnown_104 : decode cX12_laysKnown 104 = .ok (.iaload, 1) := by decide +kernel
theorem dX12_laysKnown_105 : decode cX12_laysKnown 105 = .ok (.iconst (-1), 1) := by decide +kernel
theorem dX12_laysKnown_106 : decode cX12_laysKnown 106 = .ok (.if_icmp .eq 6, 3) := by decide +kernel
theorem dX12_laysKnown_109 : decode cX12_laysKnown 109 = .ok (.goto 61, 3) := by decide +kernel
theorem dX12_laysKnown_112 : decode cX12_laysKnown 112 = .ok (.aload_n 0, 1) := by decide +kernel
theorem dX12_laysKnown_113 : decode cX12_laysKnown 113 = .ok (.getfield 104, 3) := by decide +kernel
theorem dX12_laysKnown_116 : decode cX12_laysKnown 116 = .ok (.iload 4, 2) := by decide +kernel
theorem dX12_laysKnown_118 : decode cX12_laysKnown 118 = .ok (.aload_n 0, 1) := by decide +kernel
theorem dX12_laysKnown_119 : decode cX12_laysKnown 119 = .ok (.getfield 104, 3) := by decide +kernel
theorem dX12_laysKnown_122 : decode cX12_laysKnown 122 = .ok (.aload_n 0, 1) := by decide +kernel
theorem dX12_laysKnown_123 : decode cX12_laysKnown 123 = .ok (.getfield 101, 3) := by decide +kernel
theorem dX12_laysKnown_126 : decode cX12_laysKnown 126 = .ok (.iload_n 2, 1) := by decide +kernel
theorem dX12_laysKnown_127 : decode cX12_laysKnown 127 = .ok (.iaload, 1) := by decide +kernel
theorem dX12_laysKnown_128 : decode cX12_laysKnown 128 = .ok (.iaload, 1) := by decide +kernel
theorem dX12_laysKnown_129 : decode cX12_laysKnown 129 = .ok (.iconst 1, 1) := by decide +kernel
theorem dX12_laysKnown_130 : decode cX12_laysKnown 130 = .ok (.iadd, 1) := by decide +kernel
theorem dX12_laysKnown_131 : decode cX12_laysKnown 131 = .ok (.iastore, 1) := by decide +kernel
theorem dX12_laysKnown_132 : decode cX12_laysKnown 132 = .ok (.aload_n 0, 1) := by decide +kernel
theorem dX12_laysKnown_133 : decode cX12_laysKnown 133 = .ok (.getfield 107, 3) := by decide +kernel
theorem dX12_laysKnown_136 : decode cX12_laysKnown 136 = .ok (.iload 4, 2) := by decide +kernel
theorem dX12_laysKnown_138 : decode cX12_laysKnown 138 = .ok (.iload_n 2, 1) := by decide +kernel
theorem dX12_laysKnown_139 : decode cX12_laysKnown 139 = .ok (.ifCond .ne 7, 3) := by decide +kernel
theorem dX12_laysKnown_142 : decode cX12_laysKnown 142 = .ok (.iload_n 3, 1) := by decide +kernel
theorem dX12_laysKnown_143 : decode cX12_laysKnown 143 = .ok (.goto 14, 3) := by decide +kernel
theorem dX12_laysKnown_146 : decode cX12_laysKnown 146 = .ok (.aload_n 0, 1) := by decide +kernel
theorem dX12_laysKnown_147 : decode cX12_laysKnown 147 = .ok (.getfield 107, 3) := by decide +kernel
theorem dX12_laysKnown_150 : decode cX12_laysKnown 150 = .ok (.aload_n 0, 1) := by decide +kernel
theorem dX12_laysKnown_151 : decode cX12_laysKnown 151 = .ok (.getfield 101, 3) := by decide +kernel
theorem dX12_laysKnown_154 : decode cX12_laysKnown 154 = .ok (.iload_n 2, 1) := by decide +kernel
theorem dX12_laysKnown_155 : decode cX12_laysKnown 155 = .ok (.iaload, 1) := by decide +kernel
theorem dX12_laysKnown_156 : decode cX12_laysKnown 156 = .ok (.iaload, 1) := by decide +kernel
theorem dX12_laysKnown_157 : decode cX12_laysKnown 157 = .ok (.iastore, 1) := by decide +kernel
theorem dX12_laysKnown_158 : decode cX12_laysKnown 158 = .ok (.aload_n 0, 1) := by decide +kernel
theorem dX12_laysKnown_159 : decode cX12_laysKnown 159 = .ok (.getfield 101, 3) := by decide +kernel
theorem dX12_laysKnown_162 : decode cX12_laysKnown 162 = .ok (.iload_n 1, 1) := by decide +kernel
theorem dX12_laysKnown_163 : decode cX12_laysKnown 163 = .ok (.iload 4, 2) := by decide +kernel
theorem dX12_laysKnown_165 : decode cX12_laysKnown 165 = .ok (.iastore, 1) := by decide +kernel
theorem dX12_laysKnown_166 : decode cX12_laysKnown 166 = .ok (.iload_n 1, 1) := by decide +kernel
theorem dX12_laysKnown_167 : decode cX12_laysKnown 167 = .ok (.iconst 1, 1) := by decide +kernel
theorem dX12_laysKnown_168 : decode cX12_laysKnown 168 = .ok (.iadd, 1) := by decide +kernel
theorem dX12_laysKnown_169 : decode cX12_laysKnown 169 = .ok (.istore_n 1, 1) := by decide +kernel
theorem dX12_laysKnown_170 : decode cX12_laysKnown 170 = .ok (.iinc 3 1, 3) := by decide +kernel
theorem dX12_laysKnown_173 : decode cX12_laysKnown 173 = .ok (.goto (-94), 3) := by decide +kernel
theorem dX12_laysKnown_176 : decode cX12_laysKnown 176 = .ok (.iinc 2 1, 3) := by decide +kernel
theorem dX12_laysKnown_179 : decode cX12_laysKnown 179 = .ok (.goto (-127), 3) := by decide +kernel
theorem dX12_laysKnown_182 : decode cX12_laysKnown 182 = .ok (.iconst (-1), 1) := by decide +kernel
theorem dX12_laysKnown_183 : decode cX12_laysKnown 183 = .ok (.ireturn, 1) := by decide +kernel
theorem dX12_bits_0 : decode cX12_bits 0 = .ok (.iconst 0, 1) := by decide +kernel
theorem dX12_bits_1 : decode cX12_bits 1 = .ok (.istore_n 1, 1) := by decide +kernel
theorem dX12_bits_2 : decode cX12_bits 2 = .ok (.iconst 0, 1) := by decide +kernel
theorem dX12_bits_3 : decode cX12_bits 3 = .ok (.istore_n 2, 1) := by decide +kernel
theorem dX12_bits_4 : decode cX12_bits 4 = .ok (.iload_n 2, 1) := by decide +kernel
theorem dX12_bits_5 : decode cX12_bits 5 = .ok (.bipush 10, 2) := by decide +kernel
theorem dX12_bits_7 : decode cX12_bits 7 = .ok (.if_icmp .ge 17, 3) := by decide +kernel
theorem dX12_bits_10 : decode cX12_bits 10 = .ok (.iload_n 1, 1) := by decide +kernel
theorem dX12_bits_11 : decode cX12_bits 11 = .ok (.iload_n 0, 1) := by decide +kernel
theorem dX12_bits_12 : decode cX12_bits 12 = .ok (.iload_n 2, 1) := by decide +kernel
theorem dX12_bits_13 : decode cX12_bits 13 = .ok (.ishr, 1) := by decide +kernel
theorem dX12_bits_14 : decode cX12_bits 14 = .ok (.iconst 1, 1) := by decide +kernel
theorem dX12_bits_15 : decode cX12_bits 15 = .ok (.iand, 1) := by decide +kernel
theorem dX12_bits_16 : decode cX12_bits 16 = .ok (.iadd, 1) := by decide +kernel
theorem dX12_bits_17 : decode cX12_bits 17 = .ok (.istore_n 1, 1) := by decide +kernel
theorem dX12_bits_18 : decode cX12_bits 18 = .ok (.iinc 2 1, 3) := by decide +kernel
theorem dX12_bits_21 : decode cX12_bits 21 = .ok (.goto (-17), 3) := by decide +kernel
theorem dX12_bits_24 : decode cX12_bits 24 = .ok (.iload_n 1, 1) := by decide +kernel
theorem dX12_bits_25 : decode cX12_bits 25 = .ok (.ireturn, 1) := by decide +kernel
theorem dX12_moved_0 : decode cX12_moved 0 = .ok (.iconst 0, 1) := by decide +kernel
theorem dX12_moved_1 : decode cX12_moved 1 = .ok (.istore_n 3, 1) := by decide +kernel
theorem dX12_moved_2 : decode cX12_moved 2 = .ok (.iconst 0, 1) := by decide +kernel
theorem dX12_moved_3 : decode cX12_moved 3 = .ok (.istore 4, 2) := by decide +kernel
theorem dX12_moved_5 : decode cX12_moved 5 = .ok (.iload 4, 2) := by decide +kernel
theorem dX12_moved_7 : decode cX12_moved 7 = .ok (.aload_n 0, 1) := by decide +kernel
theorem dX12_moved_8 : decode cX12_moved 8 = .ok (.getfield 123, 3) := by decide +kernel
theorem dX12_moved_11 : decode cX12_moved 11 = .ok (.if_icmp .ge 30, 3) := by decide +kernel
theorem dX12_moved_14 : decode cX12_moved 14 = .ok (.iload_n 1, 1) := by decide +kernel
theorem dX12_moved_15 : decode cX12_moved 15 = .ok (.iload 4, 2) := by decide +kernel
theorem dX12_moved_17 : decode cX12_moved 17 = .ok (.invokestatic 119, 3) := by decide +kernel
theorem dX12_moved_20 : decode cX12_moved 20 = .ok (.ifCond .eq 15, 3) := by decide +kernel
theorem dX12_moved_23 : decode cX12_moved 23 = .ok (.iload_n 3, 1) := by decide +kernel
theorem dX12_moved_24 : decode cX12_moved 24 = .ok (.iconst 1, 1) := by decide +kernel
theorem dX12_moved_25 : decode cX12_moved 25 = .ok (.aload_n 0, 1) := by decide +kernel
theorem dX12_moved_26 : decode cX12_moved 26 = .ok (.iload_n 2, 1) := by decide +kernel
theorem dX12_moved_27 : decode cX12_moved 27 = .ok (.iload 4, 2) := by decide +kernel
theorem dX12_moved_29 : decode cX12_moved 29 = .ok (.invokevirtual 306, 3) := by decide +kernel
theorem dX12_moved_32 : decode cX12_moved 32 = .ok (.ishl, 1) := by decide +kernel
theorem dX12_moved_33 : decode cX12_moved 33 = .ok (.ior, 1) := by decide +kernel
theorem dX12_moved_34 : decode cX12_moved 34 = .ok (.istore_n 3, 1) := by decide +kernel
theorem dX12_moved_35 : decode cX12_moved 35 = .ok (.iinc 4 1, 3) := by decide +kernel
theorem dX12_moved_38 : decode cX12_moved 38 = .ok (.goto (-33), 3) := by decide +kernel
theorem dX12_moved_41 : decode cX12_moved 41 = .ok (.iload_n 3, 1) := by decide +kernel
theorem dX12_moved_42 : decode cX12_moved 42 = .ok (.ireturn, 1) := by decide +kernel
theorem dX12_plan_0 : decode cX12_plan 0 = .ok (.aload_n 0, 1) := by decide +kernel
theorem dX12_plan_1 : decode cX12_plan 1 = .ok (.getfield 123, 3) := by decide +kernel
theorem dX12_plan_4 : decode cX12_plan 4 = .ok (.ifCond .eq 20, 3) := by decide +kernel
theorem dX12_plan_7 : decode cX12_plan 7 = .ok (.aload_n 0, 1) := by decide +kernel
theorem dX12_plan_8 : decode cX12_plan 8 = .ok (.iload_n 1, 1) := by decide +kernel
theorem dX12_plan_9 : decode cX12_plan 9 = .ok (.invokevirtual 407, 3) := by decide +kernel
theorem dX12_plan_12 : decode cX12_plan 12 = .ok (.ifCond .eq 12, 3) := by decide +kernel
theorem dX12_plan_15 : decode cX12_plan 15 = .ok (.iload_n 2, 1) := by decide +kernel
theorem dX12_plan_16 : decode cX12_plan 16 = .ok (.iconst 0, 1) := by decide +kernel
theorem dX12_plan_17 : decode cX12_plan 17 = .ok (.iconst 1, 1) := by decide +kernel
theorem dX12_plan_18 : decode cX12_plan 18 = .ok (.invokestatic 127, 3) := by decide +kernel
theorem dX12_plan_21 : decode cX12_plan 21 = .ok (.ifCond .ne 5, 3) := by decide +kernel
theorem dX12_plan_24 : decode cX12_plan 24 = .ok (.iconst (-1), 1) := by decide +kernel
theorem dX12_plan_25 : decode cX12_plan 25 = .ok (.ireturn, 1) := by decide +kernel
theorem dX12_plan_26 : decode cX12_plan 26 = .ok (.aload_n 0, 1) := by decide +kernel
theorem dX12_plan_27 : decode cX12_plan 27 = .ok (.invokevirtual 410, 3) := by decide +kernel
theorem dX12_plan_30 : decode cX12_plan 30 = .ok (.aload_n 0, 1) := by decide +kernel
theorem dX12_plan_31 : decode cX12_plan 31 = .ok (.getfield 110, 3) := by decide +kernel
theorem dX12_plan_34 : decode cX12_plan 34 = .ok (.iload_n 1, 1) := by decide +kernel
theorem dX12_plan_35 : decode cX12_plan 35 = .ok (.iaload, 1) := by decide +kernel
theorem dX12_plan_36 : decode cX12_plan 36 = .ok (.ldc_w 372, 3) := by decide +kernel
theorem dX12_plan_39 : decode cX12_plan 39 = .ok (.if_icmp .lt 6, 3) := by decide +kernel
theorem dX12_plan_42 : decode cX12_plan 42 = .ok (.bipush (-2), 2) := by decide +kernel
theorem dX12_plan_44 : decode cX12_plan 44 = .ok (.ireturn, 1) := by decide +kernel
theorem dX12_plan_45 : decode cX12_plan 45 = .ok (.iload_n 2, 1) := by decide +kernel
theorem dX12_plan_46 : decode cX12_plan 46 = .ok (.ifCond .ne 10, 3) := by decide +kernel
theorem dX12_plan_49 : decode cX12_plan 49 = .ok (.aload_n 0, 1) := by decide +kernel
theorem dX12_plan_50 : decode cX12_plan 50 = .ok (.getfield 110, 3) := by decide +kernel
theorem dX12_plan_53 : decode cX12_plan 53 = .ok (.iload_n 1, 1) := by decide +kernel
theorem dX12_plan_54 : decode cX12_plan 54 = .ok (.iaload, 1) := by decide +kernel
theorem dX12_plan_55 : decode cX12_plan 55 = .ok (.ireturn, 1) := by decide +kernel
theorem dX12_plan_56 : decode cX12_plan 56 = .ok (.aload_n 0, 1) := by decide +kernel
theorem dX12_plan_57 : decode cX12_plan 57 = .ok (.getfield 110, 3) := by decide +kernel
theorem dX12_plan_60 : decode cX12_plan 60 = .ok (.iload_n 1, 1) := by decide +kernel
theorem dX12_plan_61 : decode cX12_plan 61 = .ok (.iaload, 1) := by decide +kernel
theorem dX12_plan_62 : decode cX12_plan 62 = .ok (.ifCond .ne 6, 3) := by decide +kernel
theorem dX12_plan_65 : decode cX12_plan 65 = .ok (.bipush (-4), 2) := by decide +kernel
theorem dX12_plan_67 : decode cX12_plan 67 = .ok (.ireturn, 1) := by decide +kernel
theorem dX12_plan_68 : decode cX12_plan 68 = .ok (.iconst 0, 1) := by decide +kernel
theorem dX12_plan_69 : decode cX12_plan 69 = .ok (.istore_n 3, 1) := by decide +kernel
theorem dX12_plan_70 : decode cX12_plan 70 = .ok (.aload_n 0, 1) := by decide +kernel
theorem dX12_plan_71 : decode cX12_plan 71 = .ok (.iload_n 1, 1) := by decide +kernel
theorem dX12_plan_72 : decode cX12_plan 72 = .ok (.iload_n 3, 1) := by decide +kernel
theorem dX12_plan_73 : decode cX12_plan 73 = .ok (.invokevirtual 404, 3) := by decide +kernel
theorem dX12_plan_76 : decode cX12_plan 76 = .ok (.aload_n 0, 1) := by decide +kernel
theorem dX12_plan_77 : decode cX12_plan 77 = .ok (.getfield 110, 3) := by decide +kernel
theorem dX12_plan_80 : decode cX12_plan 80 = .ok (.iload_n 1, 1) := by decide +kernel
theorem dX12_plan_81 : decode cX12_plan 81 = .ok (.iaload, 1) := by decide +kernel
theorem dX12_plan_82 : decode cX12_plan 82 = .ok (.if_icmp .eq 10, 3) := by decide +kernel
theorem dX12_plan_85 : decode cX12_plan 85 = .ok (.iload_n 3, 1) := by decide +kernel
theorem dX12_plan_86 : decode cX12_plan 86 = .ok (.iconst 1, 1) := by decide +kernel
theorem dX12_plan_87 : decode cX12_plan 87 = .ok (.iadd, 1) := by decide +kernel
theorem dX12_plan_88 : decode cX12_plan 88 = .ok (.istore_n 3, 1) := by decide +kernel
theorem dX12_plan_89 : decode cX12_plan 89 = .ok (.goto (-19), 3) := by decide +kernel
theorem dX12_plan_92 : decode cX12_plan 92 = .ok (.iload_n 3, 1) := by decide +kernel
theorem dX12_plan_93 : decode cX12_plan 93 = .ok (.ireturn, 1) := by decide +kernel
theorem dX12_areStates_0 : decode cX12_areStates 0 = .ok (.iload_n 1, 1) := by decide +kernel
theorem dX12_areStates_1 : decode cX12_areStates 1 = .ok (.ifCond .le 17, 3) := by decide +kernel
theorem dX12_areStates_4 : decode cX12_areStates 4 = .ok (.iload_n 1, 1) := by decide +kernel
theorem dX12_areStates_5 : decode cX12_areStates 5 = .ok (.iconst 1, 1) := by decide +kernel
theorem dX12_areStates_6 : decode cX12_areStates 6 = .ok (.aload_n 0, 1) := by decide +kernel
theorem dX12_areStates_7 : decode cX12_areStates 7 = .ok (.getfield 123, 3) := by decide +kernel
theorem dX12_areStates_10 : decode cX12_areStates 10 = .ok (.ishl, 1) := by decide +kernel
theorem dX12_areStates_11 : decode cX12_areStates 11 = .ok (.if_icmp .ge 7, 3) := by decide +kernel
theorem dX12_areStates_14 : decode cX12_areStates 14 = .ok (.iconst 1, 1) := by decide +kernel
theorem dX12_areStates_15 : decode cX12_areStates 15 = .ok (.goto 4, 3) := by decide +kernel
theorem dX12_areStates_18 : decode cX12_areStates 18 = .ok (.iconst 0, 1) := by decide +kernel
theorem dX12_areStates_19 : decode cX12_areStates 19 = .ok (.ireturn, 1) := by decide +kernel
theorem dX12_laysPlans_0 : decode cX12_laysPlans 0 = .ok (.iconst 0, 1) := by decide +kernel
theorem dX12_laysPlans_1 : decode cX12_laysPlans 1 = .ok (.istore_n 1, 1) := by decide +kernel
theorem dX12_laysPlans_2 : decode cX12_laysPlans 2 = .ok (.iload_n 1, 1) := by decide +kernel
theorem dX12_laysPlans_3 : decode cX12_laysPlans 3 = .ok (.sipush 1024, 3) := by decide +kernel
theorem dX12_laysPlans_6 : decode cX12_laysPlans 6 = .ok (.if_icmp .ge 30, 3) := by decide +kernel
theorem dX12_laysPlans_9 : decode cX12_laysPlans 9 = .ok (.aload_n 0, 1) := by decide +kernel
theorem dX12_laysPlans_10 : decode cX12_laysPlans 10 = .ok (.getfield 110, 3) := by decide +kernel
theorem dX12_laysPlans_13 : decode cX12_laysPlans 13 = .ok (.iload_n 1, 1) := by decide +kernel
theorem dX12_laysPlans_14 : decode cX12_laysPlans 14 = .ok (.iload_n 1, 1) := by decide +kernel
theorem dX12_laysPlans_15 : decode cX12_laysPlans 15 = .ok (.invokestatic 389, 3) := by decide +kernel
theorem dX12_laysPlans_18 : decode cX12_laysPlans 18 = .ok (.iconst 2, 1) := by decide +kernel
theorem dX12_laysPlans_19 : decode cX12_laysPlans 19 = .ok (.if_icmp .ge 7, 3) := by decide +kernel
theorem dX12_laysPlans_22 : decode cX12_laysPlans 22 = .ok (.iconst 0, 1) := by decide +kernel
theorem dX12_laysPlans_23 : decode cX12_laysPlans 23 = .ok (.goto 6, 3) := by decide +kernel
theorem dX12_laysPlans_26 : decode cX12_laysPlans 26 = .ok (.ldc_w 372, 3) := by decide +kernel
theorem dX12_laysPlans_29 : decode cX12_laysPlans 29 = .ok (.iastore, 1) := by decide +kernel
theorem dX12_laysPlans_30 : decode cX12_laysPlans 30 = .ok (.iinc 1 1, 3) := by decide +kernel
theorem dX12_laysPlans_33 : decode cX12_laysPlans 33 = .ok (.goto (-31), 3) := by decide +kernel
theorem dX12_laysPlans_36 : decode cX12_laysPlans 36 = .ok (.iconst 1, 1) := by decide +kernel
theorem dX12_laysPlans_37 : decode cX12_laysPlans 37 = .ok (.istore_n 1, 1) := by decide +kernel
theorem dX12_laysPlans_38 : decode cX12_laysPlans 38 = .ok (.iload_n 1, 1) := by decide +kernel
theorem dX12_laysPlans_39 : decode cX12_laysPlans 39 = .ok (.ifCond .eq 80, 3) := by decide +kernel
theorem dX12_laysPlans_42 : decode cX12_laysPlans 42 = .ok (.iconst 0, 1) := by decide +kernel
theorem dX12_laysPlans_43 : decode cX12_laysPlans 43 = .ok (.istore_n 1, 1) := by decide +kernel
theorem dX12_laysPlans_44 : decode cX12_laysPlans 44 = .ok (.iconst 1, 1) := by decide +kernel
theorem dX12_laysPlans_45 : decode cX12_laysPlans 45 = .ok (.istore_n 2, 1) := by decide +kernel
theorem dX12_laysPlans_46 : decode cX12_laysPlans 46 = .ok (.iload_n 2, 1) := by decide +kernel
theorem dX12_laysPlans_47 : decode cX12_laysPlans 47 = .ok (.iconst 1, 1) := by decide +kernel
theorem dX12_laysPlans_48 : decode cX12_laysPlans 48 = .ok (.aload_n 0, 1) := by decide +kernel
theorem dX12_laysPlans_49 : decode cX12_laysPlans 49 = .ok (.getfield 123, 3) := by decide +kernel
theorem dX12_laysPlans_52 : decode cX12_laysPlans 52 = .ok (.ishl, 1) := by decide +kernel
theorem dX12_laysPlans_53 : decode cX12_laysPlans 53 = .ok (.if_icmp .ge 63, 3) := by decide +kernel
theorem dX12_laysPlans_56 : decode cX12_laysPlans 56 = .ok (.iconst 0, 1) := by decide +kernel
theorem dX12_laysPlans_57 : decode cX12_laysPlans 57 = .ok (.istore_n 3, 1) := by decide +kernel
theorem dX12_laysPlans_58 : decode cX12_laysPlans 58 = .ok (.iload_n 3, 1) := by decide +kernel
theorem dX12_laysPlans_59 : decode cX12_laysPlans 59 = .ok (.bipush 8, 2) := by decide +kernel
theorem dX12_laysPlans_61 : decode cX12_laysPlans 61 = .ok (.if_icmp .ge 49, 3) := by decide +kernel
theorem dX12_laysPlans_64 : decode cX12_laysPlans 64 = .ok (.iload_n 2, 1) := by decide +kernel
theorem dX12_laysPlans_65 : decode cX12_laysPlans 65 = .ok (.invokestatic 389, 3) := by decide +kernel
theorem dX12_laysPlans_68 : decode cX12_laysPlans 68 = .ok (.iconst 1, 1) := by decide +kernel
theorem dX12_laysPlans_69 : decode cX12_laysPlans 69 = .ok (.if_icmp .le 41, 3) := by decide +kernel
theorem dX12_laysPlans_72 : decode cX12_laysPlans 72 = .ok (.aload_n 0, 1) := by decide +kernel
theorem dX12_laysPlans_73 : decode cX12_laysPlans 73 = .ok (.iload_n 2, 1) := by decide +kernel
theorem dX12_laysPlans_74 : decode cX12_laysPlans 74 = .ok (.iload_n 3, 1) := by decide +kernel
theorem dX12_laysPlans_75 : decode cX12_laysPlans 75 = .ok (.invokevirtual 404, 3) := by decide +kernel
theorem dX12_laysPlans_78 : decode cX12_laysPlans 78 = .ok (.aload_n 0, 1) := by decide +kernel
theorem dX12_laysPlans_79 : decode cX12_laysPlans 79 = .ok (.getfield 110, 3) := by decide +kernel
theorem dX12_laysPlans_82 : decode cX12_laysPlans 82 = .ok (.iload_n 2, 1) := by decide +kernel
theorem dX12_laysPlans_83 : decode cX12_laysPlans 83 = .ok (.iaload, 1) := by decide +kernel
theorem dX12_laysPlans_84 : decode cX12_laysPlans 84 = .ok (.if_icmp .lt 6, 3) := by decide +kernel
theorem dX12_laysPlans_87 : decode cX12_laysPlans 87 = .ok (.goto 17, 3) := by decide +kernel
theorem dX12_laysPlans_90 : decode cX12_laysPlans 90 = .ok (.aload_n 0, 1) := by decide +kernel
theorem dX12_laysPlans_91 : decode cX12_laysPlans 91 = .ok (.getfield 110, 3) := by decide +kernel
theorem dX12_laysPlans_94 : decode cX12_laysPlans 94 = .ok (.iload_n 2, 1) := by decide +kernel
theorem dX12_laysPlans_95 : decode cX12_laysPlans 95 = .ok (.aload_n 0, 1) := by decide +kernel
theorem dX12_laysPlans_96 : decode cX12_laysPlans 96 = .ok (.iload_n 2, 1) := by decide +kernel
theorem dX12_laysPlans_97 : decode cX12_laysPlans 97 = .ok (.iload_n 3, 1) := by decide +kernel
theorem dX12_laysPlans_98 : decode cX12_laysPlans 98 = .ok (.invokevirtual 404, 3) := by decide +kernel
theorem dX12_laysPlans_101 : decode cX12_laysPlans 101 = .ok (.iastore, 1) := by decide +kernel
theorem dX12_laysPlans_102 : decode cX12_laysPlans 102 = .ok (.iconst 1, 1) := by decide +kernel
theorem dX12_laysPlans_103 : decode cX12_laysPlans 103 = .ok (.istore_n 1, 1) := by decide +kernel
theorem dX12_laysPlans_104 : decode cX12_laysPlans 104 = .ok (.iinc 3 1, 3) := by decide +kernel
theorem dX12_laysPlans_107 : decode cX12_laysPlans 107 = .ok (.goto (-49), 3) := by decide +kernel
theorem dX12_laysPlans_110 : decode cX12_laysPlans 110 = .ok (.iinc 2 1, 3) := by decide +kernel
theorem dX12_laysPlans_113 : decode cX12_laysPlans 113 = .ok (.goto (-67), 3) := by decide +kernel
theorem dX12_laysPlans_116 : decode cX12_laysPlans 116 = .ok (.goto (-78), 3) := by decide +kernel
theorem dX12_laysPlans_119 : decode cX12_laysPlans 119 = .ok (.return_, 1) := by decide +kernel
theorem dX12_worstBy_0 : decode cX12_worstBy 0 = .ok (.iconst 0, 1) := by decide +kernel
theorem dX12_worstBy_1 : decode cX12_worstBy 1 = .ok (.istore_n 3, 1) := by decide +kernel
theorem dX12_worstBy_2 : decode cX12_worstBy 2 = .ok (.iconst 0, 1) := by decide +kernel
theorem dX12_worstBy_3 : decode cX12_worstBy 3 = .ok (.istore 4, 2) := by decide +kernel
theorem dX12_worstBy_5 : decode cX12_worstBy 5 = .ok (.iload 4, 2) := by decide +kernel
theorem dX12_worstBy_7 : decode cX12_worstBy 7 = .ok (.bipush 10, 2) := by decide +kernel
theorem dX12_worstBy_9 : decode cX12_worstBy 9 = .ok (.if_icmp .ge 36, 3) := by decide +kernel
theorem dX12_worstBy_12 : decode cX12_worstBy 12 = .ok (.aload_n 0, 1) := by decide +kernel
theorem dX12_worstBy_13 : decode cX12_worstBy 13 = .ok (.iload_n 1, 1) := by decide +kernel
theorem dX12_worstBy_14 : decode cX12_worstBy 14 = .ok (.iload_n 2, 1) := by decide +kernel
theorem dX12_worstBy_15 : decode cX12_worstBy 15 = .ok (.iload 4, 2) := by decide +kernel
theorem dX12_worstBy_17 : decode cX12_worstBy 17 = .ok (.invokevirtual 398, 3) := by decide +kernel
theorem dX12_worstBy_20 : decode cX12_worstBy 20 = .ok (.istore 5, 2) := by decide +kernel
theorem dX12_worstBy_22 : decode cX12_worstBy 22 = .ok (.iload 5, 2) := by decide +kernel
theorem dX12_worstBy_24 : decode cX12_worstBy 24 = .ok (.ifCond .eq 15, 3) := by decide +kernel
theorem dX12_worstBy_27 : decode cX12_worstBy 27 = .ok (.iload_n 3, 1) := by decide +kernel
theorem dX12_worstBy_28 : decode cX12_worstBy 28 = .ok (.aload_n 0, 1) := by decide +kernel
theorem dX12_worstBy_29 : decode cX12_worstBy 29 = .ok (.getfield 110, 3) := by decide +kernel
theorem dX12_worstBy_32 : decode cX12_worstBy 32 = .ok (.iload 5, 2) := by decide +kernel
theorem dX12_worstBy_34 : decode cX12_worstBy 34 = .ok (.iaload, 1) := by decide +kernel
theorem dX12_worstBy_35 : decode cX12_worstBy 35 = .ok (.invokestatic 401, 3) := by decide +kernel
theorem dX12_worstBy_38 : decode cX12_worstBy 38 = .ok (.istore_n 3, 1) := by decide +kernel
theorem dX12_worstBy_39 : decode cX12_worstBy 39 = .ok (.iinc 4 1, 3) := by decide +kernel
theorem dX12_worstBy_42 : decode cX12_worstBy 42 = .ok (.goto (-37), 3) := by decide +kernel
theorem dX12_worstBy_45 : decode cX12_worstBy 45 = .ok (.iload_n 3, 1) := by decide +kernel
theorem dX12_worstBy_46 : decode cX12_worstBy 46 = .ok (.iconst 1, 1) := by decide +kernel
theorem dX12_worstBy_47 : decode cX12_worstBy 47 = .ok (.iadd, 1) := by decide +kernel
theorem dX12_worstBy_48 : decode cX12_worstBy 48 = .ok (.ireturn, 1) := by decide +kernel
theorem dX12_leftBy_0 : decode cX12_leftBy 0 = .ok (.iconst 0, 1) := by decide +kernel
theorem dX12_leftBy_1 : decode cX12_leftBy 1 = .ok (.istore 4, 2) := by decide +kernel
theorem dX12_leftBy_3 : decode cX12_leftBy 3 = .ok (.iconst 0, 1) := by decide +kernel
theorem dX12_leftBy_4 : decode cX12_leftBy 4 = .ok (.istore 5, 2) := by decide +kernel
theorem dX12_leftBy_6 : decode cX12_leftBy 6 = .ok (.iload 5, 2) := by decide +kernel
theorem dX12_leftBy_8 : decode cX12_leftBy 8 = .ok (.aload_n 0, 1) := by decide +kernel
theorem dX12_leftBy_9 : decode cX12_leftBy 9 = .ok (.getfield 123, 3) := by decide +kernel
theorem dX12_leftBy_12 : decode cX12_leftBy 12 = .ok (.if_icmp .ge 43, 3) := by decide +kernel
theorem dX12_leftBy_15 : decode cX12_leftBy 15 = .ok (.iload_n 1, 1) := by decide +kernel
theorem dX12_leftBy_16 : decode cX12_leftBy 16 = .ok (.iload 5, 2) := by decide +kernel
theorem dX12_leftBy_18 : decode cX12_leftBy 18 = .ok (.invokestatic 119, 3) := by decide +kernel
theorem dX12_leftBy_21 : decode cX12_leftBy 21 = .ok (.ifCond .eq 28, 3) := by decide +kernel
theorem dX12_leftBy_24 : decode cX12_leftBy 24 = .ok (.aload_n 0, 1) := by decide +kernel
theorem dX12_leftBy_25 : decode cX12_leftBy 25 = .ok (.iload_n 2, 1) := by decide +kernel
theorem dX12_leftBy_26 : decode cX12_leftBy 26 = .ok (.iload 5, 2) := by decide +kernel
theorem dX12_leftBy_28 : decode cX12_leftBy 28 = .ok (.invokevirtual 299, 3) := by decide +kernel
theorem dX12_leftBy_31 : decode cX12_leftBy 31 = .ok (.iload_n 3, 1) := by decide +kernel
theorem dX12_leftBy_32 : decode cX12_leftBy 32 = .ok (.if_icmp .ne 17, 3) := by decide +kernel
theorem dX12_leftBy_35 : decode cX12_leftBy 35 = .ok (.iload 4, 2) := by decide +kernel
theorem dX12_leftBy_37 : decode cX12_leftBy 37 = .ok (.iconst 1, 1) := by decide +kernel
theorem dX12_leftBy_38 : decode cX12_leftBy 38 = .ok (.aload_n 0, 1) := by decide +kernel
theorem dX12_leftBy_39 : decode cX12_leftBy 39 = .ok (.iload_n 2, 1) := by decide +kernel
theorem dX12_leftBy_40 : decode cX12_leftBy 40 = .ok (.iload 5, 2) := by decide +kernel
theorem dX12_leftBy_42 : decode cX12_leftBy 42 = .ok (.invokevirtual 306, 3) := by decide +kernel
theorem dX12_leftBy_45 : decode cX12_leftBy 45 = .ok (.ishl, 1) := by decide +kernel
theorem dX12_leftBy_46 : decode cX12_leftBy 46 = .ok (.ior, 1) := by decide +kernel
theorem dX12_leftBy_47 : decode cX12_leftBy 47 = .ok (.istore 4, 2) := by decide +kernel
theorem dX12_leftBy_49 : decode cX12_leftBy 49 = .ok (.iinc 5 1, 3) := by decide +kernel
theorem dX12_leftBy_52 : decode cX12_leftBy 52 = .ok (.goto (-46), 3) := by decide +kernel
theorem dX12_leftBy_55 : decode cX12_leftBy 55 = .ok (.iload 4, 2) := by decide +kernel
theorem dX12_leftBy_57 : decode cX12_leftBy 57 = .ok (.ireturn, 1) := by decide +kernel
theorem dX12_max_0 : decode cX12_max 0 = .ok (.iload_n 0, 1) := by decide +kernel
theorem dX12_max_1 : decode cX12_max 1 = .ok (.iload_n 1, 1) := by decide +kernel
theorem dX12_max_2 : decode cX12_max 2 = .ok (.if_icmp .le 7, 3) := by decide +kernel
theorem dX12_max_5 : decode cX12_max 5 = .ok (.iload_n 0, 1) := by decide +kernel
theorem dX12_max_6 : decode cX12_max 6 = .ok (.goto 4, 3) := by decide +kernel
theorem dX12_max_9 : decode cX12_max 9 = .ok (.iload_n 1, 1) := by decide +kernel
theorem dX12_max_10 : decode cX12_max 10 = .ok (.ireturn, 1) := by decide +kernel
theorem dX12_logged_0 : decode cX12_logged 0 = .ok (.aload_n 0, 1) := by decide +kernel
theorem dX12_logged_1 : decode cX12_logged 1 = .ok (.getfield 123, 3) := by decide +kernel
theorem dX12_logged_4 : decode cX12_logged 4 = .ok (.ifCond .eq 32, 3) := by decide +kernel
theorem dX12_logged_7 : decode cX12_logged 7 = .ok (.iload_n 1, 1) := by decide +kernel
theorem dX12_logged_8 : decode cX12_logged 8 = .ok (.iconst 1, 1) := by decide +kernel
theorem dX12_logged_9 : decode cX12_logged 9 = .ok (.bipush 20, 2) := by decide +kernel
theorem dX12_logged_11 : decode cX12_logged 11 = .ok (.invokestatic 127, 3) := by decide +kernel
theorem dX12_logged_14 : decode cX12_logged 14 = .ok (.ifCond .eq 22, 3) := by decide +kernel
theorem dX12_logged_17 : decode cX12_logged 17 = .ok (.iload_n 2, 1) := by decide +kernel
theorem dX12_logged_18 : decode cX12_logged 18 = .ok (.iconst 0, 1) := by decide +kernel
theorem dX12_logged_19 : decode cX12_logged 19 = .ok (.iconst 2, 1) := by decide +kernel
theorem dX12_logged_20 : decode cX12_logged 20 = .ok (.invokestatic 127, 3) := by decide +kernel
theorem dX12_logged_23 : decode cX12_logged 23 = .ok (.ifCond .eq 13, 3) := by decide +kernel
theorem dX12_logged_26 : decode cX12_logged 26 = .ok (.iconst 2, 1) := by decide +kernel
theorem dX12_logged_27 : decode cX12_logged 27 = .ok (.iload_n 1, 1) := by decide +kernel
theorem dX12_logged_28 : decode cX12_logged 28 = .ok (.imul, 1) := by decide +kernel
theorem dX12_logged_29 : decode cX12_logged 29 = .ok (.aload_n 0, 1) := by decide +kernel
theorem dX12_logged_30 : decode cX12_logged 30 = .ok (.getfield 138, 3) := by decide +kernel
theorem dX12_logged_33 : decode cX12_logged 33 = .ok (.if_icmp .le 5, 3) := by decide +kernel
theorem dX12_logged_36 : decode cX12_logged 36 = .ok (.iconst (-1), 1) := by decide +kernel
theorem dX12_logged_37 : decode cX12_logged 37 = .ok (.ireturn, 1) := by decide +kernel
theorem dX12_logged_38 : decode cX12_logged 38 = .ok (.aload_n 0, 1) := by decide +kernel
theorem dX12_logged_39 : decode cX12_logged 39 = .ok (.iconst 0, 1) := by decide +kernel
theorem dX12_logged_40 : decode cX12_logged 40 = .ok (.putfield 138, 3) := by decide +kernel
theorem dX12_logged_43 : decode cX12_logged 43 = .ok (.iconst 0, 1) := by decide +kernel
theorem dX12_logged_44 : decode cX12_logged 44 = .ok (.istore_n 3, 1) := by decide +kernel
theorem dX12_logged_45 : decode cX12_logged 45 = .ok (.iload_n 3, 1) := by decide +kernel
theorem dX12_logged_46 : decode cX12_logged 46 = .ok (.iload_n 1, 1) := by decide +kernel
theorem dX12_logged_47 : decode cX12_logged 47 = .ok (.if_icmp .ge 38, 3) := by decide +kernel
theorem dX12_logged_50 : decode cX12_logged 50 = .ok (.aload_n 0, 1) := by decide +kernel
theorem dX12_logged_51 : decode cX12_logged 51 = .ok (.iconst 2, 1) := by decide +kernel
theorem dX12_logged_52 : decode cX12_logged 52 = .ok (.iload_n 3, 1) := by decide +kernel
theorem dX12_logged_53 : decode cX12_logged 53 = .ok (.imul, 1) := by decide +kernel
theorem dX12_logged_54 : decode cX12_logged 54 = .ok (.invokevirtual 357, 3) := by decide +kernel
theorem dX12_logged_57 : decode cX12_logged 57 = .ok (.bipush 8, 2) := by decide +kernel
theorem dX12_logged_59 : decode cX12_logged 59 = .ok (.if_icmp .ge 17, 3) := by decide +kernel
theorem dX12_logged_62 : decode cX12_logged 62 = .ok (.aload_n 0, 1) := by decide +kernel
theorem dX12_logged_63 : decode cX12_logged 63 = .ok (.iconst 2, 1) := by decide +kernel
theorem dX12_logged_64 : decode cX12_logged 64 = .ok (.iload_n 3, 1) := by decide +kernel
theorem dX12_logged_65 : decode cX12_logged 65 = .ok (.imul, 1) := by decide +kernel
theorem dX12_logged_66 : decode cX12_logged 66 = .ok (.iconst 1, 1) := by decide +kernel
theorem dX12_logged_67 : decode cX12_logged 67 = .ok (.iadd, 1) := by decide +kernel
theorem dX12_logged_68 : decode cX12_logged 68 = .ok (.invokevirtual 357, 3) := by decide +kernel
theorem dX12_logged_71 : decode cX12_logged 71 = .ok (.bipush 9, 2) := by decide +kernel
theorem dX12_logged_73 : decode cX12_logged 73 = .ok (.if_icmp .le 6, 3) := by decide +kernel
theorem dX12_logged_76 : decode cX12_logged 76 = .ok (.bipush (-3), 2) := by decide +kernel
theorem dX12_logged_78 : decode cX12_logged 78 = .ok (.ireturn, 1) := by decide +kernel
theorem dX12_logged_79 : decode cX12_logged 79 = .ok (.iinc 3 1, 3) := by decide +kernel
theorem dX12_logged_82 : decode cX12_logged 82 = .ok (.goto (-37), 3) := by decide +kernel
theorem dX12_logged_85 : decode cX12_logged 85 = .ok (.iconst 0, 1) := by decide +kernel
theorem dX12_logged_86 : decode cX12_logged 86 = .ok (.istore_n 3, 1) := by decide +kernel
theorem dX12_logged_87 : decode cX12_logged 87 = .ok (.iconst 0, 1) := by decide +kernel
theorem dX12_logged_88 : decode cX12_logged 88 = .ok (.istore 4, 2) := by decide +kernel
theorem dX12_logged_90 : decode cX12_logged 90 = .ok (.ldc_w 372, 3) := by decide +kernel
theorem dX12_logged_93 : decode cX12_logged 93 = .ok (.istore 5, 2) := by decide +kernel
theorem dX12_logged_95 : decode cX12_logged 95 = .ok (.iconst 0, 1) := by decide +kernel
theorem dX12_logged_96 : decode cX12_logged 96 = .ok (.istore 6, 2) := by decide +kernel
theorem dX12_logged_98 : decode cX12_logged 98 = .ok (.iload 6, 2) := by decide +kernel
theorem dX12_logged_100 : decode cX12_logged 100 = .ok (.aload_n 0, 1) := by decide +kernel
theorem dX12_logged_101 : decode cX12_logged 101 = .ok (.getfield 123, 3) := by decide +kernel
theorem dX12_logged_104 : decode cX12_logged 104 = .ok (.if_icmp .ge 53, 3) := by decide +kernel
theorem dX12_logged_107 : decode cX12_logged 107 = .ok (.aload_n 0, 1) := by decide +kernel
theorem dX12_logged_108 : decode cX12_logged 108 = .ok (.iload 6, 2) := by decide +kernel
theorem dX12_logged_110 : decode cX12_logged 110 = .ok (.iload_n 1, 1) := by decide +kernel
theorem dX12_logged_111 : decode cX12_logged 111 = .ok (.invokevirtual 416, 3) := by decide +kernel
theorem dX12_logged_114 : decode cX12_logged 114 = .ok (.istore 7, 2) := by decide +kernel
theorem dX12_logged_116 : decode cX12_logged 116 = .ok (.iload 5, 2) := by decide +kernel
theorem dX12_logged_118 : decode cX12_logged 118 = .ok (.iload 7, 2) := by decide +kernel
theorem dX12_logged_120 : decode cX12_logged 120 = .ok (.invokestatic 302, 3) := by decide +kernel
theorem dX12_logged_123 : decode cX12_logged 123 = .ok (.istore 5, 2) := by decide +kernel
theorem dX12_logged_125 : decode cX12_logged 125 = .ok (.iload 7, 2) := by decide +kernel
theorem dX12_logged_127 : decode cX12_logged 127 = .ok (.ifCond .le 6, 3) := by decide +kernel
theorem dX12_logged_130 : decode cX12_logged 130 = .ok (.goto 21, 3) := by decide +kernel
theorem dX12_logged_133 : decode cX12_logged 133 = .ok (.iload_n 3, 1) := by decide +kernel
theorem dX12_logged_134 : decode cX12_logged 134 = .ok (.iconst 1, 1) := by decide +kernel
theorem dX12_logged_135 : decode cX12_logged 135 = .ok (.iload 6, 2) := by decide +kernel
theorem dX12_logged_137 : decode cX12_logged 137 = .ok (.ishl, 1) := by decide +kernel
theorem dX12_logged_138 : decode cX12_logged 138 = .ok (.ior, 1) := by decide +kernel
theorem dX12_logged_139 : decode cX12_logged 139 = .ok (.istore_n 3, 1) := by decide +kernel
theorem dX12_logged_140 : decode cX12_logged 140 = .ok (.iload 4, 2) := by decide +kernel
theorem dX12_logged_142 : decode cX12_logged 142 = .ok (.iconst 1, 1) := by decide +kernel
theorem dX12_logged_143 : decode cX12_logged 143 = .ok (.aload_n 0, 1) := by decide +kernel
theorem dX12_logged_144 : decode cX12_logged 144 = .ok (.getfield 413, 3) := by decide +kernel
theorem dX12_logged_147 : decode cX12_logged 147 = .ok (.ishl, 1) := by decide +kernel
theorem dX12_logged_148 : decode cX12_logged 148 = .ok (.ior, 1) := by decide +kernel
theorem dX12_logged_149 : decode cX12_logged 149 = .ok (.istore 4, 2) := by decide +kernel
theorem dX12_logged_151 : decode cX12_logged 151 = .ok (.iinc 6 1, 3) := by decide +kernel
theorem dX12_logged_154 : decode cX12_logged 154 = .ok (.goto (-56), 3) := by decide +kernel
theorem dX12_logged_157 : decode cX12_logged 157 = .ok (.iload_n 2, 1) := by decide +kernel
theorem dX12_logged_158 : decode cX12_logged 158 = .ok (.ifCond .ne 7, 3) := by decide +kernel
theorem dX12_logged_161 : decode cX12_logged 161 = .ok (.iload_n 3, 1) := by decide +kernel
theorem dX12_logged_162 : decode cX12_logged 162 = .ok (.goto 15, 3) := by decide +kernel
theorem dX12_logged_165 : decode cX12_logged 165 = .ok (.iload_n 2, 1) := by decide +kernel
theorem dX12_logged_166 : decode cX12_logged 166 = .ok (.iconst 1, 1) := by decide +kernel
theorem dX12_logged_167 : decode cX12_logged 167 = .ok (.if_icmp .ne 8, 3) := by decide +kernel
theorem dX12_logged_170 : decode cX12_logged 170 = .ok (.iload 4, 2) := by decide +kernel
theorem dX12_logged_172 : decode cX12_logged 172 = .ok (.goto 5, 3) := by decide +kernel
theorem dX12_logged_175 : decode cX12_logged 175 = .ok (.iload 5, 2) := by decide +kernel
theorem dX12_logged_177 : decode cX12_logged 177 = .ok (.ireturn, 1) := by decide +kernel
theorem dX12_liesFrom_0 : decode cX12_liesFrom 0 = .ok (.iload_n 1, 1) := by decide +kernel
theorem dX12_liesFrom_1 : decode cX12_liesFrom 1 = .ok (.istore_n 3, 1) := by decide +kernel
theorem dX12_liesFrom_2 : decode cX12_liesFrom 2 = .ok (.iconst 0, 1) := by decide +kernel
theorem dX12_liesFrom_3 : decode cX12_liesFrom 3 = .ok (.istore 4, 2) := by decide +kernel
theorem dX12_liesFrom_5 : decode cX12_liesFrom 5 = .ok (.iconst 0, 1) := by decide +kernel
theorem dX12_liesFrom_6 : decode cX12_liesFrom 6 = .ok (.istore 5, 2) := by decide +kernel
theorem dX12_liesFrom_8 : decode cX12_liesFrom 8 = .ok (.iload 5, 2) := by decide +kernel
theorem dX12_liesFrom_10 : decode cX12_liesFrom 10 = .ok (.iload_n 2, 1) := by decide +kernel
theorem dX12_liesFrom_11 : decode cX12_liesFrom 11 = .ok (.if_icmp .ge 53, 3) := by decide +kernel
theorem dX12_liesFrom_14 : decode cX12_liesFrom 14 = .ok (.aload_n 0, 1) := by decide +kernel
theorem dX12_liesFrom_15 : decode cX12_liesFrom 15 = .ok (.iconst 2, 1) := by decide +kernel
theorem dX12_liesFrom_16 : decode cX12_liesFrom 16 = .ok (.iload 5, 2) := by decide +kernel
theorem dX12_liesFrom_18 : decode cX12_liesFrom 18 = .ok (.imul, 1) := by decide +kernel
theorem dX12_liesFrom_19 : decode cX12_liesFrom 19 = .ok (.invokevirtual 357, 3) := by decide +kernel
theorem dX12_liesFrom_22 : decode cX12_liesFrom 22 = .ok (.istore 6, 2) := by decide +kernel
theorem dX12_liesFrom_24 : decode cX12_liesFrom 24 = .ok (.aload_n 0, 1) := by decide +kernel
theorem dX12_liesFrom_25 : decode cX12_liesFrom 25 = .ok (.iload 6, 2) := by decide +kernel
theorem dX12_liesFrom_27 : decode cX12_liesFrom 27 = .ok (.iload_n 3, 1) := by decide +kernel
theorem dX12_liesFrom_28 : decode cX12_liesFrom 28 = .ok (.invokevirtual 299, 3) := by decide +kernel
theorem dX12_liesFrom_31 : decode cX12_liesFrom 31 = .ok (.aload_n 0, 1) := by decide +kernel
theorem dX12_liesFrom_32 : decode cX12_liesFrom 32 = .ok (.iconst 2, 1) := by decide +kernel
theorem dX12_liesFrom_33 : decode cX12_liesFrom 33 = .ok (.iload 5, 2) := by decide +kernel
theorem dX12_liesFrom_35 : decode cX12_liesFrom 35 = .ok (.imul, 1) := by decide +kernel
theorem dX12_liesFrom_36 : decode cX12_liesFrom 36 = .ok (.iconst 1, 1) := by decide +kernel
theorem dX12_liesFrom_37 : decode cX12_liesFrom 37 = .ok (.iadd, 1) := by decide +kernel
theorem dX12_liesFrom_38 : decode cX12_liesFrom 38 = .ok (.invokevirtual 357, 3) := by decide +kernel
theorem dX12_liesFrom_41 : decode cX12_liesFrom 41 = .ok (.if_icmp .eq 9, 3) := by decide +kernel
theorem dX12_liesFrom_44 : decode cX12_liesFrom 44 = .ok (.iload 4, 2) := by decide +kernel
theorem dX12_liesFrom_46 : decode cX12_liesFrom 46 = .ok (.iconst 1, 1) := by decide +kernel
theorem dX12_liesFrom_47 : decode cX12_liesFrom 47 = .ok (.iadd, 1) := by decide +kernel
theorem dX12_liesFrom_48 : decode cX12_liesFrom 48 = .ok (.istore 4, 2) := by decide +kernel
theorem dX12_liesFrom_50 : decode cX12_liesFrom 50 = .ok (.aload_n 0, 1) := by decide +kernel
theorem dX12_liesFrom_51 : decode cX12_liesFrom 51 = .ok (.iload 6, 2) := by decide +kernel
theorem dX12_liesFrom_53 : decode cX12_liesFrom 53 = .ok (.iload_n 3, 1) := by decide +kernel
theorem dX12_liesFrom_54 : decode cX12_liesFrom 54 = .ok (.invokevirtual 306, 3) := by decide +kernel
theorem dX12_liesFrom_57 : decode cX12_liesFrom 57 = .ok (.istore_n 3, 1) := by decide +kernel
