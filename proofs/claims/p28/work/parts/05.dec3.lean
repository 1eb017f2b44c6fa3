theorem dX11_leads_5 : decode cX11_leads 5 = .ok (.invokevirtual 87, 3) := by decide +kernel
theorem dX11_leads_8 : decode cX11_leads 8 = .ok (.ifCond .eq 21, 3) := by decide +kernel
theorem dX11_leads_11 : decode cX11_leads 11 = .ok (.aload_n 0, 1) := by decide +kernel
theorem dX11_leads_12 : decode cX11_leads 12 = .ok (.getfield 42, 3) := by decide +kernel
theorem dX11_leads_15 : decode cX11_leads 15 = .ok (.iload_n 2, 1) := by decide +kernel
theorem dX11_leads_16 : decode cX11_leads 16 = .ok (.invokevirtual 87, 3) := by decide +kernel
theorem dX11_leads_19 : decode cX11_leads 19 = .ok (.ifCond .eq 10, 3) := by decide +kernel
theorem dX11_leads_22 : decode cX11_leads 22 = .ok (.iload_n 3, 1) := by decide +kernel
theorem dX11_leads_23 : decode cX11_leads 23 = .ok (.invokestatic 179, 3) := by decide +kernel
theorem dX11_leads_26 : decode cX11_leads 26 = .ok (.ifCond .ne 5, 3) := by decide +kernel
theorem dX11_leads_29 : decode cX11_leads 29 = .ok (.iconst (-1), 1) := by decide +kernel
theorem dX11_leads_30 : decode cX11_leads 30 = .ok (.ireturn, 1) := by decide +kernel
theorem dX11_leads_31 : decode cX11_leads 31 = .ok (.aload_n 0, 1) := by decide +kernel
theorem dX11_leads_32 : decode cX11_leads 32 = .ok (.getfield 76, 3) := by decide +kernel
theorem dX11_leads_35 : decode cX11_leads 35 = .ok (.aload_n 0, 1) := by decide +kernel
theorem dX11_leads_36 : decode cX11_leads 36 = .ok (.getfield 42, 3) := by decide +kernel
theorem dX11_leads_39 : decode cX11_leads 39 = .ok (.iload_n 1, 1) := by decide +kernel
theorem dX11_leads_40 : decode cX11_leads 40 = .ok (.iload_n 2, 1) := by decide +kernel
theorem dX11_leads_41 : decode cX11_leads 41 = .ok (.invokevirtual 206, 3) := by decide +kernel
theorem dX11_leads_44 : decode cX11_leads 44 = .ok (.istore 4, 2) := by decide +kernel
theorem dX11_leads_46 : decode cX11_leads 46 = .ok (.iload 4, 2) := by decide +kernel
theorem dX11_leads_48 : decode cX11_leads 48 = .ok (.ifCond .lt 7, 3) := by decide +kernel
theorem dX11_leads_51 : decode cX11_leads 51 = .ok (.iload_n 3, 1) := by decide +kernel
theorem dX11_leads_52 : decode cX11_leads 52 = .ok (.ifCond .ne 6, 3) := by decide +kernel
theorem dX11_leads_55 : decode cX11_leads 55 = .ok (.iload 4, 2) := by decide +kernel
theorem dX11_leads_57 : decode cX11_leads 57 = .ok (.ireturn, 1) := by decide +kernel
theorem dX11_leads_58 : decode cX11_leads 58 = .ok (.iload 4, 2) := by decide +kernel
theorem dX11_leads_60 : decode cX11_leads 60 = .ok (.ifCond .ne 8, 3) := by decide +kernel
theorem dX11_leads_63 : decode cX11_leads 63 = .ok (.bipush (-4), 2) := by decide +kernel
theorem dX11_leads_65 : decode cX11_leads 65 = .ok (.goto 15, 3) := by decide +kernel
theorem dX11_leads_68 : decode cX11_leads 68 = .ok (.aload_n 0, 1) := by decide +kernel
theorem dX11_leads_69 : decode cX11_leads 69 = .ok (.getfield 76, 3) := by decide +kernel
theorem dX11_leads_72 : decode cX11_leads 72 = .ok (.aload_n 0, 1) := by decide +kernel
theorem dX11_leads_73 : decode cX11_leads 73 = .ok (.getfield 42, 3) := by decide +kernel
theorem dX11_leads_76 : decode cX11_leads 76 = .ok (.iload_n 1, 1) := by decide +kernel
theorem dX11_leads_77 : decode cX11_leads 77 = .ok (.invokevirtual 210, 3) := by decide +kernel
theorem dX11_leads_80 : decode cX11_leads 80 = .ok (.ireturn, 1) := by decide +kernel
theorem dX10_steps_0 : decode cX10_steps 0 = .ok (.aload_n 0, 1) := by decide +kernel
theorem dX10_steps_1 : decode cX10_steps 1 = .ok (.aload_n 1, 1) := by decide +kernel
theorem dX10_steps_2 : decode cX10_steps 2 = .ok (.aload_n 0, 1) := by decide +kernel
theorem dX10_steps_3 : decode cX10_steps 3 = .ok (.getfield 11, 3) := by decide +kernel
theorem dX10_steps_6 : decode cX10_steps 6 = .ok (.iload_n 2, 1) := by decide +kernel
theorem dX10_steps_7 : decode cX10_steps 7 = .ok (.iload_n 3, 1) := by decide +kernel
theorem dX10_steps_8 : decode cX10_steps 8 = .ok (.invokevirtual 24, 3) := by decide +kernel
theorem dX10_steps_11 : decode cX10_steps 11 = .ok (.ireturn, 1) := by decide +kernel
theorem dX10_cost_0 : decode cX10_cost 0 = .ok (.aload_n 0, 1) := by decide +kernel
theorem dX10_cost_1 : decode cX10_cost 1 = .ok (.aload_n 1, 1) := by decide +kernel
theorem dX10_cost_2 : decode cX10_cost 2 = .ok (.aload_n 2, 1) := by decide +kernel
theorem dX10_cost_3 : decode cX10_cost 3 = .ok (.iload 4, 2) := by decide +kernel
theorem dX10_cost_5 : decode cX10_cost 5 = .ok (.invokevirtual 28, 3) := by decide +kernel
theorem dX10_cost_8 : decode cX10_cost 8 = .ok (.aload_n 0, 1) := by decide +kernel
theorem dX10_cost_9 : decode cX10_cost 9 = .ok (.iload_n 3, 1) := by decide +kernel
theorem dX10_cost_10 : decode cX10_cost 10 = .ok (.invokevirtual 32, 3) := by decide +kernel
theorem dX10_cost_13 : decode cX10_cost 13 = .ok (.istore 5, 2) := by decide +kernel
theorem dX10_cost_15 : decode cX10_cost 15 = .ok (.iload 5, 2) := by decide +kernel
theorem dX10_cost_17 : decode cX10_cost 17 = .ok (.ldc 36, 2) := by decide +kernel
theorem dX10_cost_19 : decode cX10_cost 19 = .ok (.if_icmp .ne 8, 3) := by decide +kernel
theorem dX10_cost_22 : decode cX10_cost 22 = .ok (.bipush (-2), 2) := by decide +kernel
theorem dX10_cost_24 : decode cX10_cost 24 = .ok (.goto 5, 3) := by decide +kernel
theorem dX10_cost_27 : decode cX10_cost 27 = .ok (.iload 5, 2) := by decide +kernel
theorem dX10_cost_29 : decode cX10_cost 29 = .ok (.ireturn, 1) := by decide +kernel
theorem dX10_fillCosts_0 : decode cX10_fillCosts 0 = .ok (.aload_n 0, 1) := by decide +kernel
theorem dX10_fillCosts_1 : decode cX10_fillCosts 1 = .ok (.getfield 15, 3) := by decide +kernel
theorem dX10_fillCosts_4 : decode cX10_fillCosts 4 = .ok (.ldc 36, 2) := by decide +kernel
theorem dX10_fillCosts_6 : decode cX10_fillCosts 6 = .ok (.invokestatic 43, 3) := by decide +kernel
theorem dX10_fillCosts_9 : decode cX10_fillCosts 9 = .ok (.iload_n 3, 1) := by decide +kernel
theorem dX10_fillCosts_10 : decode cX10_fillCosts 10 = .ok (.ifCond .lt 9, 3) := by decide +kernel
theorem dX10_fillCosts_13 : decode cX10_fillCosts 13 = .ok (.iload_n 3, 1) := by decide +kernel
theorem dX10_fillCosts_14 : decode cX10_fillCosts 14 = .ok (.bipush 10, 2) := by decide +kernel
theorem dX10_fillCosts_16 : decode cX10_fillCosts 16 = .ok (.if_icmp .lt 4, 3) := by decide +kernel
theorem dX10_fillCosts_19 : decode cX10_fillCosts 19 = .ok (.return_, 1) := by decide +kernel
theorem dX10_fillCosts_20 : decode cX10_fillCosts 20 = .ok (.aload_n 0, 1) := by decide +kernel
theorem dX10_fillCosts_21 : decode cX10_fillCosts 21 = .ok (.getfield 15, 3) := by decide +kernel
theorem dX10_fillCosts_24 : decode cX10_fillCosts 24 = .ok (.iload_n 3, 1) := by decide +kernel
theorem dX10_fillCosts_25 : decode cX10_fillCosts 25 = .ok (.iconst 0, 1) := by decide +kernel
theorem dX10_fillCosts_26 : decode cX10_fillCosts 26 = .ok (.iastore, 1) := by decide +kernel
theorem dX10_fillCosts_27 : decode cX10_fillCosts 27 = .ok (.iconst 1, 1) := by decide +kernel
theorem dX10_fillCosts_28 : decode cX10_fillCosts 28 = .ok (.istore 4, 2) := by decide +kernel
theorem dX10_fillCosts_30 : decode cX10_fillCosts 30 = .ok (.iconst 0, 1) := by decide +kernel
theorem dX10_fillCosts_31 : decode cX10_fillCosts 31 = .ok (.istore 5, 2) := by decide +kernel
theorem dX10_fillCosts_33 : decode cX10_fillCosts 33 = .ok (.iload 5, 2) := by decide +kernel
theorem dX10_fillCosts_35 : decode cX10_fillCosts 35 = .ok (.bipush 10, 2) := by decide +kernel
theorem dX10_fillCosts_37 : decode cX10_fillCosts 37 = .ok (.if_icmp .ge 108, 3) := by decide +kernel
theorem dX10_fillCosts_40 : decode cX10_fillCosts 40 = .ok (.iload 4, 2) := by decide +kernel
theorem dX10_fillCosts_42 : decode cX10_fillCosts 42 = .ok (.ifCond .eq 103, 3) := by decide +kernel
theorem dX10_fillCosts_45 : decode cX10_fillCosts 45 = .ok (.iconst 0, 1) := by decide +kernel
theorem dX10_fillCosts_46 : decode cX10_fillCosts 46 = .ok (.istore 4, 2) := by decide +kernel
theorem dX10_fillCosts_48 : decode cX10_fillCosts 48 = .ok (.iconst 0, 1) := by decide +kernel
theorem dX10_fillCosts_49 : decode cX10_fillCosts 49 = .ok (.istore 6, 2) := by decide +kernel
theorem dX10_fillCosts_51 : decode cX10_fillCosts 51 = .ok (.iload 6, 2) := by decide +kernel
theorem dX10_fillCosts_53 : decode cX10_fillCosts 53 = .ok (.aload_n 1, 1) := by decide +kernel
theorem dX10_fillCosts_54 : decode cX10_fillCosts 54 = .ok (.getfield 49, 3) := by decide +kernel
theorem dX10_fillCosts_57 : decode cX10_fillCosts 57 = .ok (.if_icmp .ge 82, 3) := by decide +kernel
theorem dX10_fillCosts_60 : decode cX10_fillCosts 60 = .ok (.iload 6, 2) := by decide +kernel
theorem dX10_fillCosts_62 : decode cX10_fillCosts 62 = .ok (.bipush 10, 2) := by decide +kernel
theorem dX10_fillCosts_64 : decode cX10_fillCosts 64 = .ok (.if_icmp .ge 75, 3) := by decide +kernel
theorem dX10_fillCosts_67 : decode cX10_fillCosts 67 = .ok (.iconst 0, 1) := by decide +kernel
theorem dX10_fillCosts_68 : decode cX10_fillCosts 68 = .ok (.istore 7, 2) := by decide +kernel
theorem dX10_fillCosts_70 : decode cX10_fillCosts 70 = .ok (.iload 7, 2) := by decide +kernel
theorem dX10_fillCosts_72 : decode cX10_fillCosts 72 = .ok (.bipush 8, 2) := by decide +kernel
theorem dX10_fillCosts_74 : decode cX10_fillCosts 74 = .ok (.if_icmp .ge 59, 3) := by decide +kernel
theorem dX10_fillCosts_77 : decode cX10_fillCosts 77 = .ok (.iload 7, 2) := by decide +kernel
theorem dX10_fillCosts_79 : decode cX10_fillCosts 79 = .ok (.aload_n 2, 1) := by decide +kernel
theorem dX10_fillCosts_80 : decode cX10_fillCosts 80 = .ok (.arraylength, 1) := by decide +kernel
theorem dX10_fillCosts_81 : decode cX10_fillCosts 81 = .ok (.if_icmp .ge 52, 3) := by decide +kernel
theorem dX10_fillCosts_84 : decode cX10_fillCosts 84 = .ok (.aload_n 0, 1) := by decide +kernel
theorem dX10_fillCosts_85 : decode cX10_fillCosts 85 = .ok (.aload_n 1, 1) := by decide +kernel
theorem dX10_fillCosts_86 : decode cX10_fillCosts 86 = .ok (.iload 7, 2) := by decide +kernel
theorem dX10_fillCosts_88 : decode cX10_fillCosts 88 = .ok (.iload 6, 2) := by decide +kernel
theorem dX10_fillCosts_90 : decode cX10_fillCosts 90 = .ok (.invokevirtual 37, 3) := by decide +kernel
theorem dX10_fillCosts_93 : decode cX10_fillCosts 93 = .ok (.invokevirtual 32, 3) := by decide +kernel
theorem dX10_fillCosts_96 : decode cX10_fillCosts 96 = .ok (.aload_n 2, 1) := by decide +kernel
theorem dX10_fillCosts_97 : decode cX10_fillCosts 97 = .ok (.iload 7, 2) := by decide +kernel
theorem dX10_fillCosts_99 : decode cX10_fillCosts 99 = .ok (.iaload, 1) := by decide +kernel
theorem dX10_fillCosts_100 : decode cX10_fillCosts 100 = .ok (.iadd, 1) := by decide +kernel
theorem dX10_fillCosts_101 : decode cX10_fillCosts 101 = .ok (.istore 8, 2) := by decide +kernel
theorem dX10_fillCosts_103 : decode cX10_fillCosts 103 = .ok (.iload 8, 2) := by decide +kernel
theorem dX10_fillCosts_105 : decode cX10_fillCosts 105 = .ok (.aload_n 0, 1) := by decide +kernel
theorem dX10_fillCosts_106 : decode cX10_fillCosts 106 = .ok (.getfield 15, 3) := by decide +kernel
theorem dX10_fillCosts_109 : decode cX10_fillCosts 109 = .ok (.iload 6, 2) := by decide +kernel
theorem dX10_fillCosts_111 : decode cX10_fillCosts 111 = .ok (.iaload, 1) := by decide +kernel
theorem dX10_fillCosts_112 : decode cX10_fillCosts 112 = .ok (.if_icmp .ge 15, 3) := by decide +kernel
theorem dX10_fillCosts_115 : decode cX10_fillCosts 115 = .ok (.aload_n 0, 1) := by decide +kernel
theorem dX10_fillCosts_116 : decode cX10_fillCosts 116 = .ok (.getfield 15, 3) := by decide +kernel
theorem dX10_fillCosts_119 : decode cX10_fillCosts 119 = .ok (.iload 6, 2) := by decide +kernel
theorem dX10_fillCosts_121 : decode cX10_fillCosts 121 = .ok (.iload 8, 2) := by decide +kernel
theorem dX10_fillCosts_123 : decode cX10_fillCosts 123 = .ok (.iastore, 1) := by decide +kernel
theorem dX10_fillCosts_124 : decode cX10_fillCosts 124 = .ok (.iconst 1, 1) := by decide +kernel
theorem dX10_fillCosts_125 : decode cX10_fillCosts 125 = .ok (.istore 4, 2) := by decide +kernel
theorem dX10_fillCosts_127 : decode cX10_fillCosts 127 = .ok (.iinc 7 1, 3) := by decide +kernel
theorem dX10_fillCosts_130 : decode cX10_fillCosts 130 = .ok (.goto (-60), 3) := by decide +kernel
theorem dX10_fillCosts_133 : decode cX10_fillCosts 133 = .ok (.iinc 6 1, 3) := by decide +kernel
theorem dX10_fillCosts_136 : decode cX10_fillCosts 136 = .ok (.goto (-85), 3) := by decide +kernel
theorem dX10_fillCosts_139 : decode cX10_fillCosts 139 = .ok (.iinc 5 1, 3) := by decide +kernel
theorem dX10_fillCosts_142 : decode cX10_fillCosts 142 = .ok (.goto (-109), 3) := by decide +kernel
theorem dX10_fillCosts_145 : decode cX10_fillCosts 145 = .ok (.return_, 1) := by decide +kernel
theorem dX10_costFrom_0 : decode cX10_costFrom 0 = .ok (.iload_n 1, 1) := by decide +kernel
theorem dX10_costFrom_1 : decode cX10_costFrom 1 = .ok (.ifCond .lt 18, 3) := by decide +kernel
theorem dX10_costFrom_4 : decode cX10_costFrom 4 = .ok (.iload_n 1, 1) := by decide +kernel
theorem dX10_costFrom_5 : decode cX10_costFrom 5 = .ok (.bipush 10, 2) := by decide +kernel
theorem dX10_costFrom_7 : decode cX10_costFrom 7 = .ok (.if_icmp .ge 12, 3) := by decide +kernel
theorem dX10_costFrom_10 : decode cX10_costFrom 10 = .ok (.aload_n 0, 1) := by decide +kernel
theorem dX10_costFrom_11 : decode cX10_costFrom 11 = .ok (.getfield 15, 3) := by decide +kernel
theorem dX10_costFrom_14 : decode cX10_costFrom 14 = .ok (.iload_n 1, 1) := by decide +kernel
theorem dX10_costFrom_15 : decode cX10_costFrom 15 = .ok (.iaload, 1) := by decide +kernel
theorem dX10_costFrom_16 : decode cX10_costFrom 16 = .ok (.goto 5, 3) := by decide +kernel
theorem dX10_costFrom_19 : decode cX10_costFrom 19 = .ok (.ldc 36, 2) := by decide +kernel
theorem dX10_costFrom_21 : decode cX10_costFrom 21 = .ok (.ireturn, 1) := by decide +kernel
theorem dX10_firstStep_0 : decode cX10_firstStep 0 = .ok (.iconst 0, 1) := by decide +kernel
theorem dX10_firstStep_1 : decode cX10_firstStep 1 = .ok (.istore_n 3, 1) := by decide +kernel
theorem dX10_firstStep_2 : decode cX10_firstStep 2 = .ok (.iload_n 3, 1) := by decide +kernel
theorem dX10_firstStep_3 : decode cX10_firstStep 3 = .ok (.bipush 8, 2) := by decide +kernel
theorem dX10_firstStep_5 : decode cX10_firstStep 5 = .ok (.if_icmp .ge 31, 3) := by decide +kernel
theorem dX10_firstStep_8 : decode cX10_firstStep 8 = .ok (.aload_n 0, 1) := by decide +kernel
theorem dX10_firstStep_9 : decode cX10_firstStep 9 = .ok (.aload_n 1, 1) := by decide +kernel
theorem dX10_firstStep_10 : decode cX10_firstStep 10 = .ok (.iload_n 3, 1) := by decide +kernel
theorem dX10_firstStep_11 : decode cX10_firstStep 11 = .ok (.iload_n 2, 1) := by decide +kernel
theorem dX10_firstStep_12 : decode cX10_firstStep 12 = .ok (.invokevirtual 37, 3) := by decide +kernel
theorem dX10_firstStep_15 : decode cX10_firstStep 15 = .ok (.invokevirtual 32, 3) := by decide +kernel
theorem dX10_firstStep_18 : decode cX10_firstStep 18 = .ok (.iconst 1, 1) := by decide +kernel
theorem dX10_firstStep_19 : decode cX10_firstStep 19 = .ok (.iadd, 1) := by decide +kernel
theorem dX10_firstStep_20 : decode cX10_firstStep 20 = .ok (.aload_n 0, 1) := by decide +kernel
theorem dX10_firstStep_21 : decode cX10_firstStep 21 = .ok (.iload_n 2, 1) := by decide +kernel
theorem dX10_firstStep_22 : decode cX10_firstStep 22 = .ok (.invokevirtual 32, 3) := by decide +kernel
theorem dX10_firstStep_25 : decode cX10_firstStep 25 = .ok (.if_icmp .ne 5, 3) := by decide +kernel
theorem dX10_firstStep_28 : decode cX10_firstStep 28 = .ok (.iload_n 3, 1) := by decide +kernel
theorem dX10_firstStep_29 : decode cX10_firstStep 29 = .ok (.ireturn, 1) := by decide +kernel
theorem dX10_firstStep_30 : decode cX10_firstStep 30 = .ok (.iinc 3 1, 3) := by decide +kernel
theorem dX10_firstStep_33 : decode cX10_firstStep 33 = .ok (.goto (-31), 3) := by decide +kernel
theorem dX10_firstStep_36 : decode cX10_firstStep 36 = .ok (.iconst (-1), 1) := by decide +kernel
theorem dX10_firstStep_37 : decode cX10_firstStep 37 = .ok (.ireturn, 1) := by decide +kernel
theorem dX11_back_0 : decode cX11_back 0 = .ok (.iload_n 1, 1) := by decide +kernel
theorem dX11_back_1 : decode cX11_back 1 = .ok (.invokestatic 95, 3) := by decide +kernel
theorem dX11_back_4 : decode cX11_back 4 = .ok (.ifCond .eq 14, 3) := by decide +kernel
theorem dX11_back_7 : decode cX11_back 7 = .ok (.aload_n 0, 1) := by decide +kernel
theorem dX11_back_8 : decode cX11_back 8 = .ok (.getfield 42, 3) := by decide +kernel
theorem dX11_back_11 : decode cX11_back 11 = .ok (.iload_n 2, 1) := by decide +kernel
theorem dX11_back_12 : decode cX11_back 12 = .ok (.invokevirtual 87, 3) := by decide +kernel
theorem dX11_back_15 : decode cX11_back 15 = .ok (.ifCond .ne 5, 3) := by decide +kernel
theorem dX11_back_18 : decode cX11_back 18 = .ok (.iconst (-1), 1) := by decide +kernel
theorem dX11_back_19 : decode cX11_back 19 = .ok (.ireturn, 1) := by decide +kernel
theorem dX11_back_20 : decode cX11_back 20 = .ok (.aload_n 0, 1) := by decide +kernel
theorem dX11_back_21 : decode cX11_back 21 = .ok (.getfield 76, 3) := by decide +kernel
theorem dX11_back_24 : decode cX11_back 24 = .ok (.aload_n 0, 1) := by decide +kernel
theorem dX11_back_25 : decode cX11_back 25 = .ok (.getfield 42, 3) := by decide +kernel
theorem dX11_back_28 : decode cX11_back 28 = .ok (.aload_n 0, 1) := by decide +kernel
theorem dX11_back_29 : decode cX11_back 29 = .ok (.getfield 42, 3) := by decide +kernel
theorem dX11_back_32 : decode cX11_back 32 = .ok (.iload_n 1, 1) := by decide +kernel
theorem dX11_back_33 : decode cX11_back 33 = .ok (.iload_n 2, 1) := by decide +kernel
theorem dX11_back_34 : decode cX11_back 34 = .ok (.invokevirtual 186, 3) := by decide +kernel
theorem dX11_back_37 : decode cX11_back 37 = .ok (.iload_n 2, 1) := by decide +kernel
theorem dX11_back_38 : decode cX11_back 38 = .ok (.invokevirtual 206, 3) := by decide +kernel
theorem dX11_back_41 : decode cX11_back 41 = .ok (.ireturn, 1) := by decide +kernel
theorem dX11_cheapest_0 : decode cX11_cheapest 0 = .ok (.aload_n 0, 1) := by decide +kernel
theorem dX11_cheapest_1 : decode cX11_cheapest 1 = .ok (.getfield 42, 3) := by decide +kernel
theorem dX11_cheapest_4 : decode cX11_cheapest 4 = .ok (.iload_n 1, 1) := by decide +kernel
theorem dX11_cheapest_5 : decode cX11_cheapest 5 = .ok (.invokevirtual 87, 3) := by decide +kernel
theorem dX11_cheapest_8 : decode cX11_cheapest 8 = .ok (.ifCond .eq 14, 3) := by decide +kernel
theorem dX11_cheapest_11 : decode cX11_cheapest 11 = .ok (.aload_n 0, 1) := by decide +kernel
theorem dX11_cheapest_12 : decode cX11_cheapest 12 = .ok (.getfield 42, 3) := by decide +kernel
theorem dX11_cheapest_15 : decode cX11_cheapest 15 = .ok (.iload_n 2, 1) := by decide +kernel
theorem dX11_cheapest_16 : decode cX11_cheapest 16 = .ok (.invokevirtual 87, 3) := by decide +kernel
theorem dX11_cheapest_19 : decode cX11_cheapest 19 = .ok (.ifCond .ne 5, 3) := by decide +kernel
theorem dX11_cheapest_22 : decode cX11_cheapest 22 = .ok (.iconst (-1), 1) := by decide +kernel
theorem dX11_cheapest_23 : decode cX11_cheapest 23 = .ok (.ireturn, 1) := by decide +kernel
theorem dX11_cheapest_24 : decode cX11_cheapest 24 = .ok (.aload_n 0, 1) := by decide +kernel
theorem dX11_cheapest_25 : decode cX11_cheapest 25 = .ok (.getfield 76, 3) := by decide +kernel
theorem dX11_cheapest_28 : decode cX11_cheapest 28 = .ok (.aload_n 0, 1) := by decide +kernel
theorem dX11_cheapest_29 : decode cX11_cheapest 29 = .ok (.getfield 42, 3) := by decide +kernel
theorem dX11_cheapest_32 : decode cX11_cheapest 32 = .ok (.aload_n 0, 1) := by decide +kernel
theorem dX11_cheapest_33 : decode cX11_cheapest 33 = .ok (.getfield 16, 3) := by decide +kernel
theorem dX11_cheapest_36 : decode cX11_cheapest 36 = .ok (.iload_n 1, 1) := by decide +kernel
theorem dX11_cheapest_37 : decode cX11_cheapest 37 = .ok (.iload_n 2, 1) := by decide +kernel
theorem dX11_cheapest_38 : decode cX11_cheapest 38 = .ok (.invokevirtual 214, 3) := by decide +kernel
theorem dX11_cheapest_41 : decode cX11_cheapest 41 = .ok (.ireturn, 1) := by decide +kernel
theorem dX11_classes_0 : decode cX11_classes 0 = .ok (.aload_n 0, 1) := by decide +kernel
theorem dX11_classes_1 : decode cX11_classes 1 = .ok (.getfield 42, 3) := by decide +kernel
theorem dX11_classes_4 : decode cX11_classes 4 = .ok (.invokevirtual 144, 3) := by decide +kernel
theorem dX11_classes_7 : decode cX11_classes 7 = .ok (.ifCond .eq 20, 3) := by decide +kernel
theorem dX11_classes_10 : decode cX11_classes 10 = .ok (.iload_n 1, 1) := by decide +kernel
theorem dX11_classes_11 : decode cX11_classes 11 = .ok (.bipush 100, 2) := by decide +kernel
theorem dX11_classes_13 : decode cX11_classes 13 = .ok (.if_icmp .eq 16, 3) := by decide +kernel
theorem dX11_classes_16 : decode cX11_classes 16 = .ok (.aload_n 0, 1) := by decide +kernel
theorem dX11_classes_17 : decode cX11_classes 17 = .ok (.getfield 42, 3) := by decide +kernel
theorem dX11_classes_20 : decode cX11_classes 20 = .ok (.iload_n 1, 1) := by decide +kernel
theorem dX11_classes_21 : decode cX11_classes 21 = .ok (.invokevirtual 87, 3) := by decide +kernel
theorem dX11_classes_24 : decode cX11_classes 24 = .ok (.ifCond .ne 5, 3) := by decide +kernel
theorem dX11_classes_27 : decode cX11_classes 27 = .ok (.iconst (-1), 1) := by decide +kernel
theorem dX11_classes_28 : decode cX11_classes 28 = .ok (.ireturn, 1) := by decide +kernel
theorem dX11_classes_29 : decode cX11_classes 29 = .ok (.aload_n 0, 1) := by decide +kernel
theorem dX11_classes_30 : decode cX11_classes 30 = .ok (.getfield 76, 3) := by decide +kernel
theorem dX11_classes_33 : decode cX11_classes 33 = .ok (.aload_n 0, 1) := by decide +kernel
theorem dX11_classes_34 : decode cX11_classes 34 = .ok (.getfield 42, 3) := by decide +kernel
theorem dX11_classes_37 : decode cX11_classes 37 = .ok (.invokevirtual 218, 3) := by decide +kernel
theorem dX11_classes_40 : decode cX11_classes 40 = .ok (.iload_n 1, 1) := by decide +kernel
theorem dX11_classes_41 : decode cX11_classes 41 = .ok (.bipush 100, 2) := by decide +kernel
theorem dX11_classes_43 : decode cX11_classes 43 = .ok (.if_icmp .ne 17, 3) := by decide +kernel
theorem dX11_classes_46 : decode cX11_classes 46 = .ok (.aload_n 0, 1) := by decide +kernel
theorem dX11_classes_47 : decode cX11_classes 47 = .ok (.getfield 76, 3) := by decide +kernel
theorem dX11_classes_50 : decode cX11_classes 50 = .ok (.aload_n 0, 1) := by decide +kernel
theorem dX11_classes_51 : decode cX11_classes 51 = .ok (.getfield 42, 3) := by decide +kernel
theorem dX11_classes_54 : decode cX11_classes 54 = .ok (.invokevirtual 222, 3) := by decide +kernel
theorem dX11_classes_57 : decode cX11_classes 57 = .ok (.goto 15, 3) := by decide +kernel
theorem dX11_classes_60 : decode cX11_classes 60 = .ok (.aload_n 0, 1) := by decide +kernel
theorem dX11_classes_61 : decode cX11_classes 61 = .ok (.getfield 76, 3) := by decide +kernel
theorem dX11_classes_64 : decode cX11_classes 64 = .ok (.aload_n 0, 1) := by decide +kernel
theorem dX11_classes_65 : decode cX11_classes 65 = .ok (.getfield 42, 3) := by decide +kernel
theorem dX11_classes_68 : decode cX11_classes 68 = .ok (.iload_n 1, 1) := by decide +kernel
theorem dX11_classes_69 : decode cX11_classes 69 = .ok (.invokevirtual 226, 3) := by decide +kernel
theorem dX11_classes_72 : decode cX11_classes 72 = .ok (.ireturn, 1) := by decide +kernel
theorem dX10_tellApart_0 : decode cX10_tellApart 0 = .ok (.aload_n 0, 1) := by decide +kernel
theorem dX10_tellApart_1 : decode cX10_tellApart 1 = .ok (.getfield 18, 3) := by decide +kernel
theorem dX10_tellApart_4 : decode cX10_tellApart 4 = .ok (.iconst 0, 1) := by decide +kernel
theorem dX10_tellApart_5 : decode cX10_tellApart 5 = .ok (.invokestatic 43, 3) := by decide +kernel
theorem dX10_tellApart_8 : decode cX10_tellApart 8 = .ok (.iconst 1, 1) := by decide +kernel
theorem dX10_tellApart_9 : decode cX10_tellApart 9 = .ok (.istore_n 2, 1) := by decide +kernel
theorem dX10_tellApart_10 : decode cX10_tellApart 10 = .ok (.iconst 1, 1) := by decide +kernel
theorem dX10_tellApart_11 : decode cX10_tellApart 11 = .ok (.istore_n 3, 1) := by decide +kernel
theorem dX10_tellApart_12 : decode cX10_tellApart 12 = .ok (.iload_n 3, 1) := by decide +kernel
theorem dX10_tellApart_13 : decode cX10_tellApart 13 = .ok (.bipush 10, 2) := by decide +kernel
theorem dX10_tellApart_15 : decode cX10_tellApart 15 = .ok (.if_icmp .ge 121, 3) := by decide +kernel
theorem dX10_tellApart_18 : decode cX10_tellApart 18 = .ok (.iload_n 2, 1) := by decide +kernel
theorem dX10_tellApart_19 : decode cX10_tellApart 19 = .ok (.ifCond .eq 117, 3) := by decide +kernel
theorem dX10_tellApart_22 : decode cX10_tellApart 22 = .ok (.iconst 0, 1) := by decide +kernel
theorem dX10_tellApart_23 : decode cX10_tellApart 23 = .ok (.istore_n 2, 1) := by decide +kernel
theorem dX10_tellApart_24 : decode cX10_tellApart 24 = .ok (.iconst 0, 1) := by decide +kernel
theorem dX10_tellApart_25 : decode cX10_tellApart 25 = .ok (.istore 4, 2) := by decide +kernel
theorem dX10_tellApart_27 : decode cX10_tellApart 27 = .ok (.iload 4, 2) := by decide +kernel
theorem dX10_tellApart_29 : decode cX10_tellApart 29 = .ok (.bipush 100, 2) := by decide +kernel
theorem dX10_tellApart_31 : decode cX10_tellApart 31 = .ok (.if_icmp .ge 99, 3) := by decide +kernel
theorem dX10_tellApart_34 : decode cX10_tellApart 34 = .ok (.iload 4, 2) := by decide +kernel
theorem dX10_tellApart_36 : decode cX10_tellApart 36 = .ok (.bipush 10, 2) := by decide +kernel
theorem dX10_tellApart_38 : decode cX10_tellApart 38 = .ok (.idiv, 1) := by decide +kernel
theorem dX10_tellApart_39 : decode cX10_tellApart 39 = .ok (.istore 5, 2) := by decide +kernel
theorem dX10_tellApart_41 : decode cX10_tellApart 41 = .ok (.iload 4, 2) := by decide +kernel
theorem dX10_tellApart_43 : decode cX10_tellApart 43 = .ok (.bipush 10, 2) := by decide +kernel
theorem dX10_tellApart_45 : decode cX10_tellApart 45 = .ok (.irem, 1) := by decide +kernel
theorem dX10_tellApart_46 : decode cX10_tellApart 46 = .ok (.istore 6, 2) := by decide +kernel
theorem dX10_tellApart_48 : decode cX10_tellApart 48 = .ok (.iload 5, 2) := by decide +kernel
theorem dX10_tellApart_50 : decode cX10_tellApart 50 = .ok (.iload 6, 2) := by decide +kernel
theorem dX10_tellApart_52 : decode cX10_tellApart 52 = .ok (.if_icmp .ge 26, 3) := by decide +kernel
theorem dX10_tellApart_55 : decode cX10_tellApart 55 = .ok (.iload 6, 2) := by decide +kernel
theorem dX10_tellApart_57 : decode cX10_tellApart 57 = .ok (.aload_n 1, 1) := by decide +kernel
theorem dX10_tellApart_58 : decode cX10_tellApart 58 = .ok (.getfield 49, 3) := by decide +kernel
theorem dX10_tellApart_61 : decode cX10_tellApart 61 = .ok (.if_icmp .ge 17, 3) := by decide +kernel
theorem dX10_tellApart_64 : decode cX10_tellApart 64 = .ok (.aload_n 0, 1) := by decide +kernel
theorem dX10_tellApart_65 : decode cX10_tellApart 65 = .ok (.getfield 18, 3) := by decide +kernel
theorem dX10_tellApart_68 : decode cX10_tellApart 68 = .ok (.iload 4, 2) := by decide +kernel
theorem dX10_tellApart_70 : decode cX10_tellApart 70 = .ok (.iaload, 1) := by decide +kernel
theorem dX10_tellApart_71 : decode cX10_tellApart 71 = .ok (.ifCond .ne 7, 3) := by decide +kernel
theorem dX10_tellApart_74 : decode cX10_tellApart 74 = .ok (.iconst 1, 1) := by decide +kernel
theorem dX10_tellApart_75 : decode cX10_tellApart 75 = .ok (.goto 4, 3) := by decide +kernel
theorem dX10_tellApart_78 : decode cX10_tellApart 78 = .ok (.iconst 0, 1) := by decide +kernel
theorem dX10_tellApart_79 : decode cX10_tellApart 79 = .ok (.istore 7, 2) := by decide +kernel
theorem dX10_tellApart_81 : decode cX10_tellApart 81 = .ok (.iload 7, 2) := by decide +kernel
theorem dX10_tellApart_83 : decode cX10_tellApart 83 = .ok (.ifCond .eq 41, 3) := by decide +kernel
theorem dX10_tellApart_86 : decode cX10_tellApart 86 = .ok (.aload_n 0, 1) := by decide +kernel
theorem dX10_tellApart_87 : decode cX10_tellApart 87 = .ok (.aload_n 1, 1) := by decide +kernel
theorem dX10_tellApart_88 : decode cX10_tellApart 88 = .ok (.iload 5, 2) := by decide +kernel
theorem dX10_tellApart_90 : decode cX10_tellApart 90 = .ok (.iload 6, 2) := by decide +kernel
theorem dX10_tellApart_92 : decode cX10_tellApart 92 = .ok (.iload_n 3, 1) := by decide +kernel
theorem dX10_tellApart_93 : decode cX10_tellApart 93 = .ok (.invokevirtual 53, 3) := by decide +kernel
theorem dX10_tellApart_96 : decode cX10_tellApart 96 = .ok (.iconst (-1), 1) := by decide +kernel
theorem dX10_tellApart_97 : decode cX10_tellApart 97 = .ok (.if_icmp .eq 27, 3) := by decide +kernel
theorem dX10_tellApart_100 : decode cX10_tellApart 100 = .ok (.aload_n 0, 1) := by decide +kernel
theorem dX10_tellApart_101 : decode cX10_tellApart 101 = .ok (.getfield 18, 3) := by decide +kernel
theorem dX10_tellApart_104 : decode cX10_tellApart 104 = .ok (.iload 4, 2) := by decide +kernel
theorem dX10_tellApart_106 : decode cX10_tellApart 106 = .ok (.iload_n 3, 1) := by decide +kernel
theorem dX10_tellApart_107 : decode cX10_tellApart 107 = .ok (.iastore, 1) := by decide +kernel
theorem dX10_tellApart_108 : decode cX10_tellApart 108 = .ok (.aload_n 0, 1) := by decide +kernel
theorem dX10_tellApart_109 : decode cX10_tellApart 109 = .ok (.getfield 18, 3) := by decide +kernel
theorem dX10_tellApart_112 : decode cX10_tellApart 112 = .ok (.iload 6, 2) := by decide +kernel
theorem dX10_tellApart_114 : decode cX10_tellApart 114 = .ok (.bipush 10, 2) := by decide +kernel
theorem dX10_tellApart_116 : decode cX10_tellApart 116 = .ok (.imul, 1) := by decide +kernel
theorem dX10_tellApart_117 : decode cX10_tellApart 117 = .ok (.iload 5, 2) := by decide +kernel
theorem dX10_tellApart_119 : decode cX10_tellApart 119 = .ok (.iadd, 1) := by decide +kernel
theorem dX10_tellApart_120 : decode cX10_tellApart 120 = .ok (.iload_n 3, 1) := by decide +kernel
theorem dX10_tellApart_121 : decode cX10_tellApart 121 = .ok (.iastore, 1) := by decide +kernel
theorem dX10_tellApart_122 : decode cX10_tellApart 122 = .ok (.iconst 1, 1) := by decide +kernel
theorem dX10_tellApart_123 : decode cX10_tellApart 123 = .ok (.istore_n 2, 1) := by decide +kernel
theorem dX10_tellApart_124 : decode cX10_tellApart 124 = .ok (.iinc 4 1, 3) := by decide +kernel
theorem dX10_tellApart_127 : decode cX10_tellApart 127 = .ok (.goto (-100), 3) := by decide +kernel
theorem dX10_tellApart_130 : decode cX10_tellApart 130 = .ok (.iinc 3 1, 3) := by decide +kernel
theorem dX10_tellApart_133 : decode cX10_tellApart 133 = .ok (.goto (-121), 3) := by decide +kernel
theorem dX10_tellApart_136 : decode cX10_tellApart 136 = .ok (.return_, 1) := by decide +kernel
theorem dX10_firstApart_0 : decode cX10_firstApart 0 = .ok (.iconst 0, 1) := by decide +kernel
theorem dX10_firstApart_1 : decode cX10_firstApart 1 = .ok (.istore 5, 2) := by decide +kernel
theorem dX10_firstApart_3 : decode cX10_firstApart 3 = .ok (.iload 5, 2) := by decide +kernel
theorem dX10_firstApart_5 : decode cX10_firstApart 5 = .ok (.bipush 8, 2) := by decide +kernel
theorem dX10_firstApart_7 : decode cX10_firstApart 7 = .ok (.if_icmp .ge 80, 3) := by decide +kernel
theorem dX10_firstApart_10 : decode cX10_firstApart 10 = .ok (.iload 4, 2) := by decide +kernel
theorem dX10_firstApart_12 : decode cX10_firstApart 12 = .ok (.iconst 1, 1) := by decide +kernel
theorem dX10_firstApart_13 : decode cX10_firstApart 13 = .ok (.if_icmp .ne 28, 3) := by decide +kernel
theorem dX10_firstApart_16 : decode cX10_firstApart 16 = .ok (.aload_n 1, 1) := by decide +kernel
theorem dX10_firstApart_17 : decode cX10_firstApart 17 = .ok (.iload 5, 2) := by decide +kernel
theorem dX10_firstApart_19 : decode cX10_firstApart 19 = .ok (.iload_n 2, 1) := by decide +kernel
theorem dX10_firstApart_20 : decode cX10_firstApart 20 = .ok (.invokevirtual 57, 3) := by decide +kernel
theorem dX10_firstApart_23 : decode cX10_firstApart 23 = .ok (.aload_n 1, 1) := by decide +kernel
theorem dX10_firstApart_24 : decode cX10_firstApart 24 = .ok (.iload 5, 2) := by decide +kernel
theorem dX10_firstApart_26 : decode cX10_firstApart 26 = .ok (.iload_n 3, 1) := by decide +kernel
theorem dX10_firstApart_27 : decode cX10_firstApart 27 = .ok (.invokevirtual 57, 3) := by decide +kernel
theorem dX10_firstApart_30 : decode cX10_firstApart 30 = .ok (.if_icmp .eq 7, 3) := by decide +kernel
theorem dX10_firstApart_33 : decode cX10_firstApart 33 = .ok (.iconst 1, 1) := by decide +kernel
theorem dX10_firstApart_34 : decode cX10_firstApart 34 = .ok (.goto 37, 3) := by decide +kernel
theorem dX10_firstApart_37 : decode cX10_firstApart 37 = .ok (.iconst 0, 1) := by decide +kernel
theorem dX10_firstApart_38 : decode cX10_firstApart 38 = .ok (.goto 33, 3) := by decide +kernel
theorem dX10_firstApart_41 : decode cX10_firstApart 41 = .ok (.aload_n 0, 1) := by decide +kernel
theorem dX10_firstApart_42 : decode cX10_firstApart 42 = .ok (.aload_n 1, 1) := by decide +kernel
theorem dX10_firstApart_43 : decode cX10_firstApart 43 = .ok (.iload 5, 2) := by decide +kernel
theorem dX10_firstApart_45 : decode cX10_firstApart 45 = .ok (.iload_n 2, 1) := by decide +kernel
theorem dX10_firstApart_46 : decode cX10_firstApart 46 = .ok (.invokevirtual 37, 3) := by decide +kernel
theorem dX10_firstApart_49 : decode cX10_firstApart 49 = .ok (.aload_n 1, 1) := by decide +kernel
theorem dX10_firstApart_50 : decode cX10_firstApart 50 = .ok (.iload 5, 2) := by decide +kernel
theorem dX10_firstApart_52 : decode cX10_firstApart 52 = .ok (.iload_n 3, 1) := by decide +kernel
theorem dX10_firstApart_53 : decode cX10_firstApart 53 = .ok (.invokevirtual 37, 3) := by decide +kernel
theorem dX10_firstApart_56 : decode cX10_firstApart 56 = .ok (.invokevirtual 60, 3) := by decide +kernel
theorem dX10_firstApart_59 : decode cX10_firstApart 59 = .ok (.iload 4, 2) := by decide +kernel
theorem dX10_firstApart_61 : decode cX10_firstApart 61 = .ok (.iconst 1, 1) := by decide +kernel
theorem dX10_firstApart_62 : decode cX10_firstApart 62 = .ok (.isub, 1) := by decide +kernel
theorem dX10_firstApart_63 : decode cX10_firstApart 63 = .ok (.if_icmp .ne 7, 3) := by decide +kernel
theorem dX10_firstApart_66 : decode cX10_firstApart 66 = .ok (.iconst 1, 1) := by decide +kernel
theorem dX10_firstApart_67 : decode cX10_firstApart 67 = .ok (.goto 4, 3) := by decide +kernel
theorem dX10_firstApart_70 : decode cX10_firstApart 70 = .ok (.iconst 0, 1) := by decide +kernel
theorem dX10_firstApart_71 : decode cX10_firstApart 71 = .ok (.istore 6, 2) := by decide +kernel
theorem dX10_firstApart_73 : decode cX10_firstApart 73 = .ok (.iload 6, 2) := by decide +kernel
theorem dX10_firstApart_75 : decode cX10_firstApart 75 = .ok (.ifCond .eq 6, 3) := by decide +kernel
theorem dX10_firstApart_78 : decode cX10_firstApart 78 = .ok (.iload 5, 2) := by decide +kernel
theorem dX10_firstApart_80 : decode cX10_firstApart 80 = .ok (.ireturn, 1) := by decide +kernel
theorem dX10_firstApart_81 : decode cX10_firstApart 81 = .ok (.iinc 5 1, 3) := by decide +kernel
theorem dX10_firstApart_84 : decode cX10_firstApart 84 = .ok (.goto (-81), 3) := by decide +kernel
theorem dX10_firstApart_87 : decode cX10_firstApart 87 = .ok (.iconst (-1), 1) := by decide +kernel
theorem dX10_firstApart_88 : decode cX10_firstApart 88 = .ok (.ireturn, 1) := by decide +kernel
theorem dX10_apartBy_0 : decode cX10_apartBy 0 = .ok (.iload_n 1, 1) := by decide +kernel
theorem dX10_apartBy_1 : decode cX10_apartBy 1 = .ok (.bipush 10, 2) := by decide +kernel
theorem dX10_apartBy_3 : decode cX10_apartBy 3 = .ok (.imul, 1) := by decide +kernel
theorem dX10_apartBy_4 : decode cX10_apartBy 4 = .ok (.iload_n 2, 1) := by decide +kernel
theorem dX10_apartBy_5 : decode cX10_apartBy 5 = .ok (.iadd, 1) := by decide +kernel
theorem dX10_apartBy_6 : decode cX10_apartBy 6 = .ok (.istore_n 3, 1) := by decide +kernel
theorem dX10_apartBy_7 : decode cX10_apartBy 7 = .ok (.iload_n 3, 1) := by decide +kernel
theorem dX10_apartBy_8 : decode cX10_apartBy 8 = .ok (.ifCond .lt 18, 3) := by decide +kernel
theorem dX10_apartBy_11 : decode cX10_apartBy 11 = .ok (.iload_n 3, 1) := by decide +kernel
theorem dX10_apartBy_12 : decode cX10_apartBy 12 = .ok (.bipush 100, 2) := by decide +kernel
theorem dX10_apartBy_14 : decode cX10_apartBy 14 = .ok (.if_icmp .ge 12, 3) := by decide +kernel
theorem dX10_apartBy_17 : decode cX10_apartBy 17 = .ok (.aload_n 0, 1) := by decide +kernel
theorem dX10_apartBy_18 : decode cX10_apartBy 18 = .ok (.getfield 18, 3) := by decide +kernel
theorem dX10_apartBy_21 : decode cX10_apartBy 21 = .ok (.iload_n 3, 1) := by decide +kernel
theorem dX10_apartBy_22 : decode cX10_apartBy 22 = .ok (.iaload, 1) := by decide +kernel
theorem dX10_apartBy_23 : decode cX10_apartBy 23 = .ok (.goto 4, 3) := by decide +kernel
theorem dX10_apartBy_26 : decode cX10_apartBy 26 = .ok (.iconst 0, 1) := by decide +kernel
theorem dX10_apartBy_27 : decode cX10_apartBy 27 = .ok (.ireturn, 1) := by decide +kernel
theorem dX10_countAlike_0 : decode cX10_countAlike 0 = .ok (.iconst 0, 1) := by decide +kernel
theorem dX10_countAlike_1 : decode cX10_countAlike 1 = .ok (.istore_n 2, 1) := by decide +kernel
theorem dX10_countAlike_2 : decode cX10_countAlike 2 = .ok (.iconst 0, 1) := by decide +kernel
theorem dX10_countAlike_3 : decode cX10_countAlike 3 = .ok (.istore_n 3, 1) := by decide +kernel
theorem dX10_countAlike_4 : decode cX10_countAlike 4 = .ok (.iload_n 3, 1) := by decide +kernel
theorem dX10_countAlike_5 : decode cX10_countAlike 5 = .ok (.aload_n 1, 1) := by decide +kernel
theorem dX10_countAlike_6 : decode cX10_countAlike 6 = .ok (.getfield 49, 3) := by decide +kernel
theorem dX10_countAlike_9 : decode cX10_countAlike 9 = .ok (.if_icmp .ge 31, 3) := by decide +kernel
theorem dX10_countAlike_12 : decode cX10_countAlike 12 = .ok (.iconst 1, 1) := by decide +kernel
theorem dX10_countAlike_13 : decode cX10_countAlike 13 = .ok (.iload_n 3, 1) := by decide +kernel
theorem dX10_countAlike_14 : decode cX10_countAlike 14 = .ok (.ishl, 1) := by decide +kernel
theorem dX10_countAlike_15 : decode cX10_countAlike 15 = .ok (.iconst 1, 1) := by decide +kernel
theorem dX10_countAlike_16 : decode cX10_countAlike 16 = .ok (.isub, 1) := by decide +kernel
theorem dX10_countAlike_17 : decode cX10_countAlike 17 = .ok (.istore 4, 2) := by decide +kernel
theorem dX10_countAlike_19 : decode cX10_countAlike 19 = .ok (.aload_n 0, 1) := by decide +kernel
theorem dX10_countAlike_20 : decode cX10_countAlike 20 = .ok (.aload_n 1, 1) := by decide +kernel
theorem dX10_countAlike_21 : decode cX10_countAlike 21 = .ok (.iload_n 3, 1) := by decide +kernel
theorem dX10_countAlike_22 : decode cX10_countAlike 22 = .ok (.invokevirtual 63, 3) := by decide +kernel
theorem dX10_countAlike_25 : decode cX10_countAlike 25 = .ok (.iload 4, 2) := by decide +kernel
theorem dX10_countAlike_27 : decode cX10_countAlike 27 = .ok (.iand, 1) := by decide +kernel
theorem dX10_countAlike_28 : decode cX10_countAlike 28 = .ok (.ifCond .ne 6, 3) := by decide +kernel
theorem dX10_countAlike_31 : decode cX10_countAlike 31 = .ok (.iinc 2 1, 3) := by decide +kernel
theorem dX10_countAlike_34 : decode cX10_countAlike 34 = .ok (.iinc 3 1, 3) := by decide +kernel
theorem dX10_countAlike_37 : decode cX10_countAlike 37 = .ok (.goto (-33), 3) := by decide +kernel
theorem dX10_countAlike_40 : decode cX10_countAlike 40 = .ok (.iload_n 2, 1) := by decide +kernel
theorem dX10_countAlike_41 : decode cX10_countAlike 41 = .ok (.ireturn, 1) := by decide +kernel
theorem dX10_alike_0 : decode cX10_alike 0 = .ok (.iconst 0, 1) := by decide +kernel
theorem dX10_alike_1 : decode cX10_alike 1 = .ok (.istore_n 3, 1) := by decide +kernel
theorem dX10_alike_2 : decode cX10_alike 2 = .ok (.iconst 0, 1) := by decide +kernel
theorem dX10_alike_3 : decode cX10_alike 3 = .ok (.istore 4, 2) := by decide +kernel
theorem dX10_alike_5 : decode cX10_alike 5 = .ok (.iload 4, 2) := by decide +kernel
theorem dX10_alike_7 : decode cX10_alike 7 = .ok (.aload_n 1, 1) := by decide +kernel
theorem dX10_alike_8 : decode cX10_alike 8 = .ok (.getfield 49, 3) := by decide +kernel
theorem dX10_alike_11 : decode cX10_alike 11 = .ok (.if_icmp .ge 26, 3) := by decide +kernel
theorem dX10_alike_14 : decode cX10_alike 14 = .ok (.aload_n 0, 1) := by decide +kernel
theorem dX10_alike_15 : decode cX10_alike 15 = .ok (.iload_n 2, 1) := by decide +kernel
theorem dX10_alike_16 : decode cX10_alike 16 = .ok (.iload 4, 2) := by decide +kernel
theorem dX10_alike_18 : decode cX10_alike 18 = .ok (.invokevirtual 60, 3) := by decide +kernel
theorem dX10_alike_21 : decode cX10_alike 21 = .ok (.ifCond .ne 10, 3) := by decide +kernel
theorem dX10_alike_24 : decode cX10_alike 24 = .ok (.iload_n 3, 1) := by decide +kernel
theorem dX10_alike_25 : decode cX10_alike 25 = .ok (.iconst 1, 1) := by decide +kernel
theorem dX10_alike_26 : decode cX10_alike 26 = .ok (.iload 4, 2) := by decide +kernel
theorem dX10_alike_28 : decode cX10_alike 28 = .ok (.ishl, 1) := by decide +kernel
theorem dX10_alike_29 : decode cX10_alike 29 = .ok (.ior, 1) := by decide +kernel
theorem dX10_alike_30 : decode cX10_alike 30 = .ok (.istore_n 3, 1) := by decide +kernel
theorem dX10_alike_31 : decode cX10_alike 31 = .ok (.iinc 4 1, 3) := by decide +kernel
theorem dX10_alike_34 : decode cX10_alike 34 = .ok (.goto (-29), 3) := by decide +kernel
theorem dX10_alike_37 : decode cX10_alike 37 = .ok (.iload_n 3, 1) := by decide +kernel
theorem dX10_alike_38 : decode cX10_alike 38 = .ok (.ireturn, 1) := by decide +kernel
theorem dX11_parts_0 : decode cX11_parts 0 = .ok (.aload_n 0, 1) := by decide +kernel
theorem dX11_parts_1 : decode cX11_parts 1 = .ok (.getfield 42, 3) := by decide +kernel
theorem dX11_parts_4 : decode cX11_parts 4 = .ok (.iload_n 1, 1) := by decide +kernel
theorem dX11_parts_5 : decode cX11_parts 5 = .ok (.invokevirtual 87, 3) := by decide +kernel
theorem dX11_parts_8 : decode cX11_parts 8 = .ok (.ifCond .eq 21, 3) := by decide +kernel
theorem dX11_parts_11 : decode cX11_parts 11 = .ok (.aload_n 0, 1) := by decide +kernel
theorem dX11_parts_12 : decode cX11_parts 12 = .ok (.getfield 42, 3) := by decide +kernel
theorem dX11_parts_15 : decode cX11_parts 15 = .ok (.iload_n 2, 1) := by decide +kernel
theorem dX11_parts_16 : decode cX11_parts 16 = .ok (.invokevirtual 87, 3) := by decide +kernel
theorem dX11_parts_19 : decode cX11_parts 19 = .ok (.ifCond .eq 10, 3) := by decide +kernel
theorem dX11_parts_22 : decode cX11_parts 22 = .ok (.iload_n 3, 1) := by decide +kernel
theorem dX11_parts_23 : decode cX11_parts 23 = .ok (.invokestatic 179, 3) := by decide +kernel
theorem dX11_parts_26 : decode cX11_parts 26 = .ok (.ifCond .ne 5, 3) := by decide +kernel
theorem dX11_parts_29 : decode cX11_parts 29 = .ok (.iconst (-1), 1) := by decide +kernel
theorem dX11_parts_30 : decode cX11_parts 30 = .ok (.ireturn, 1) := by decide +kernel
theorem dX11_parts_31 : decode cX11_parts 31 = .ok (.aload_n 0, 1) := by decide +kernel
theorem dX11_parts_32 : decode cX11_parts 32 = .ok (.getfield 76, 3) := by decide +kernel
theorem dX11_parts_35 : decode cX11_parts 35 = .ok (.aload_n 0, 1) := by decide +kernel
theorem dX11_parts_36 : decode cX11_parts 36 = .ok (.getfield 42, 3) := by decide +kernel
theorem dX11_parts_39 : decode cX11_parts 39 = .ok (.invokevirtual 218, 3) := by decide +kernel
theorem dX11_parts_42 : decode cX11_parts 42 = .ok (.aload_n 0, 1) := by decide +kernel
theorem dX11_parts_43 : decode cX11_parts 43 = .ok (.getfield 76, 3) := by decide +kernel
theorem dX11_parts_46 : decode cX11_parts 46 = .ok (.iload_n 1, 1) := by decide +kernel
theorem dX11_parts_47 : decode cX11_parts 47 = .ok (.iload_n 2, 1) := by decide +kernel
theorem dX11_parts_48 : decode cX11_parts 48 = .ok (.invokevirtual 229, 3) := by decide +kernel
theorem dX11_parts_51 : decode cX11_parts 51 = .ok (.istore 4, 2) := by decide +kernel
theorem dX11_parts_53 : decode cX11_parts 53 = .ok (.iload 4, 2) := by decide +kernel
theorem dX11_parts_55 : decode cX11_parts 55 = .ok (.ifCond .ne 6, 3) := by decide +kernel
theorem dX11_parts_58 : decode cX11_parts 58 = .ok (.bipush (-2), 2) := by decide +kernel
theorem dX11_parts_60 : decode cX11_parts 60 = .ok (.ireturn, 1) := by decide +kernel
theorem dX11_parts_61 : decode cX11_parts 61 = .ok (.iload_n 3, 1) := by decide +kernel
theorem dX11_parts_62 : decode cX11_parts 62 = .ok (.ifCond .ne 8, 3) := by decide +kernel
theorem dX11_parts_65 : decode cX11_parts 65 = .ok (.iload 4, 2) := by decide +kernel
theorem dX11_parts_67 : decode cX11_parts 67 = .ok (.goto 18, 3) := by decide +kernel
theorem dX11_parts_70 : decode cX11_parts 70 = .ok (.aload_n 0, 1) := by decide +kernel
theorem dX11_parts_71 : decode cX11_parts 71 = .ok (.getfield 76, 3) := by decide +kernel
theorem dX11_parts_74 : decode cX11_parts 74 = .ok (.aload_n 0, 1) := by decide +kernel
theorem dX11_parts_75 : decode cX11_parts 75 = .ok (.getfield 42, 3) := by decide +kernel
theorem dX11_parts_78 : decode cX11_parts 78 = .ok (.iload_n 1, 1) := by decide +kernel
theorem dX11_parts_79 : decode cX11_parts 79 = .ok (.iload_n 2, 1) := by decide +kernel
theorem dX11_parts_80 : decode cX11_parts 80 = .ok (.iload 4, 2) := by decide +kernel
theorem dX11_parts_82 : decode cX11_parts 82 = .ok (.invokevirtual 232, 3) := by decide +kernel
theorem dX11_parts_85 : decode cX11_parts 85 = .ok (.ireturn, 1) := by decide +kernel
theorem dX11_known_0 : decode cX11_known 0 = .ok (.iload_n 1, 1) := by decide +kernel
theorem dX11_known_1 : decode cX11_known 1 = .ok (.ifCond .lt 18, 3) := by decide +kernel
theorem dX11_known_4 : decode cX11_known 4 = .ok (.iload_n 1, 1) := by decide +kernel
theorem dX11_known_5 : decode cX11_known 5 = .ok (.iconst 2, 1) := by decide +kernel
theorem dX11_known_6 : decode cX11_known 6 = .ok (.if_icmp .gt 13, 3) := by decide +kernel
theorem dX11_known_9 : decode cX11_known 9 = .ok (.aload_n 0, 1) := by decide +kernel
theorem dX11_known_10 : decode cX11_known 10 = .ok (.getfield 42, 3) := by decide +kernel
theorem dX11_known_13 : decode cX11_known 13 = .ok (.invokevirtual 144, 3) := by decide +kernel
theorem dX11_known_16 : decode cX11_known 16 = .ok (.ifCond .ne 5, 3) := by decide +kernel
theorem dX11_known_19 : decode cX11_known 19 = .ok (.iconst (-1), 1) := by decide +kernel
theorem dX11_known_20 : decode cX11_known 20 = .ok (.ireturn, 1) := by decide +kernel
theorem dX11_known_21 : decode cX11_known 21 = .ok (.aload_n 0, 1) := by decide +kernel
theorem dX11_known_22 : decode cX11_known 22 = .ok (.getfield 83, 3) := by decide +kernel
theorem dX11_known_25 : decode cX11_known 25 = .ok (.aload_n 0, 1) := by decide +kernel
theorem dX11_known_26 : decode cX11_known 26 = .ok (.getfield 42, 3) := by decide +kernel
theorem dX11_known_29 : decode cX11_known 29 = .ok (.iload_n 1, 1) := by decide +kernel
theorem dX11_known_30 : decode cX11_known 30 = .ok (.invokevirtual 236, 3) := by decide +kernel
theorem dX11_known_33 : decode cX11_known 33 = .ok (.ireturn, 1) := by decide +kernel
theorem dX5_meet_0 : decode cX5_meet 0 = .ok (.aload_n 0, 1) := by decide +kernel
theorem dX5_meet_1 : decode cX5_meet 1 = .ok (.getfield 15, 3) := by decide +kernel
theorem dX5_meet_4 : decode cX5_meet 4 = .ok (.iconst (-1), 1) := by decide +kernel
theorem dX5_meet_5 : decode cX5_meet 5 = .ok (.invokestatic 51, 3) := by decide +kernel
theorem dX5_meet_8 : decode cX5_meet 8 = .ok (.aload_n 0, 1) := by decide +kernel
theorem dX5_meet_9 : decode cX5_meet 9 = .ok (.iconst 0, 1) := by decide +kernel
theorem dX5_meet_10 : decode cX5_meet 10 = .ok (.putfield 57, 3) := by decide +kernel
theorem dX5_meet_13 : decode cX5_meet 13 = .ok (.aload_n 0, 1) := by decide +kernel
theorem dX5_meet_14 : decode cX5_meet 14 = .ok (.aload_n 1, 1) := by decide +kernel
theorem dX5_meet_15 : decode cX5_meet 15 = .ok (.invokevirtual 61, 3) := by decide +kernel
theorem dX5_meet_18 : decode cX5_meet 18 = .ok (.iconst 0, 1) := by decide +kernel
theorem dX5_meet_19 : decode cX5_meet 19 = .ok (.iconst (-1), 1) := by decide +kernel
theorem dX5_meet_20 : decode cX5_meet 20 = .ok (.invokevirtual 65, 3) := by decide +kernel
theorem dX5_meet_23 : decode cX5_meet 23 = .ok (.iconst 0, 1) := by decide +kernel
theorem dX5_meet_24 : decode cX5_meet 24 = .ok (.istore_n 3, 1) := by decide +kernel
theorem dX5_meet_25 : decode cX5_meet 25 = .ok (.iload_n 3, 1) := by decide +kernel
theorem dX5_meet_26 : decode cX5_meet 26 = .ok (.aload_n 0, 1) := by decide +kernel
theorem dX5_meet_27 : decode cX5_meet 27 = .ok (.getfield 57, 3) := by decide +kernel
theorem dX5_meet_30 : decode cX5_meet 30 = .ok (.if_icmp .ge 135, 3) := by decide +kernel
theorem dX5_meet_33 : decode cX5_meet 33 = .ok (.iload_n 3, 1) := by decide +kernel
theorem dX5_meet_34 : decode cX5_meet 34 = .ok (.sipush 1024, 3) := by decide +kernel
theorem dX5_meet_37 : decode cX5_meet 37 = .ok (.if_icmp .ge 128, 3) := by decide +kernel
theorem dX5_meet_40 : decode cX5_meet 40 = .ok (.aload_n 0, 1) := by decide +kernel
theorem dX5_meet_41 : decode cX5_meet 41 = .ok (.getfield 9, 3) := by decide +kernel
theorem dX5_meet_44 : decode cX5_meet 44 = .ok (.iload_n 3, 1) := by decide +kernel
theorem dX5_meet_45 : decode cX5_meet 45 = .ok (.iaload, 1) := by decide +kernel
theorem dX5_meet_46 : decode cX5_meet 46 = .ok (.sipush 1023, 3) := by decide +kernel
theorem dX5_meet_49 : decode cX5_meet 49 = .ok (.iand, 1) := by decide +kernel
theorem dX5_meet_50 : decode cX5_meet 50 = .ok (.istore 4, 2) := by decide +kernel
theorem dX5_meet_52 : decode cX5_meet 52 = .ok (.iload 4, 2) := by decide +kernel
theorem dX5_meet_54 : decode cX5_meet 54 = .ok (.invokestatic 69, 3) := by decide +kernel
theorem dX5_meet_57 : decode cX5_meet 57 = .ok (.iconst 1, 1) := by decide +kernel
theorem dX5_meet_58 : decode cX5_meet 58 = .ok (.if_icmp .ne 38, 3) := by decide +kernel
theorem dX5_meet_61 : decode cX5_meet 61 = .ok (.iload_n 2, 1) := by decide +kernel
theorem dX5_meet_62 : decode cX5_meet 62 = .ok (.ifCond .ne 13, 3) := by decide +kernel
theorem dX5_meet_65 : decode cX5_meet 65 = .ok (.aload_n 0, 1) := by decide +kernel
theorem dX5_meet_66 : decode cX5_meet 66 = .ok (.getfield 15, 3) := by decide +kernel
theorem dX5_meet_69 : decode cX5_meet 69 = .ok (.iload 4, 2) := by decide +kernel
theorem dX5_meet_71 : decode cX5_meet 71 = .ok (.iaload, 1) := by decide +kernel
theorem dX5_meet_72 : decode cX5_meet 72 = .ok (.goto 23, 3) := by decide +kernel
theorem dX5_meet_75 : decode cX5_meet 75 = .ok (.iload_n 2, 1) := by decide +kernel
theorem dX5_meet_76 : decode cX5_meet 76 = .ok (.iconst 1, 1) := by decide +kernel
theorem dX5_meet_77 : decode cX5_meet 77 = .ok (.if_icmp .ne 11, 3) := by decide +kernel
theorem dX5_meet_80 : decode cX5_meet 80 = .ok (.iload 4, 2) := by decide +kernel
theorem dX5_meet_82 : decode cX5_meet 82 = .ok (.invokestatic 74, 3) := by decide +kernel
theorem dX5_meet_85 : decode cX5_meet 85 = .ok (.goto 10, 3) := by decide +kernel
theorem dX5_meet_88 : decode cX5_meet 88 = .ok (.aload_n 0, 1) := by decide +kernel
theorem dX5_meet_89 : decode cX5_meet 89 = .ok (.getfield 18, 3) := by decide +kernel
theorem dX5_meet_92 : decode cX5_meet 92 = .ok (.iload 4, 2) := by decide +kernel
theorem dX5_meet_94 : decode cX5_meet 94 = .ok (.iaload, 1) := by decide +kernel
theorem dX5_meet_95 : decode cX5_meet 95 = .ok (.ireturn, 1) := by decide +kernel
theorem dX5_meet_96 : decode cX5_meet 96 = .ok (.iconst 0, 1) := by decide +kernel
theorem dX5_meet_97 : decode cX5_meet 97 = .ok (.istore 5, 2) := by decide +kernel
theorem dX5_meet_99 : decode cX5_meet 99 = .ok (.iload 5, 2) := by decide +kernel
theorem dX5_meet_101 : decode cX5_meet 101 = .ok (.bipush 8, 2) := by decide +kernel
theorem dX5_meet_103 : decode cX5_meet 103 = .ok (.if_icmp .ge 56, 3) := by decide +kernel
theorem dX5_meet_106 : decode cX5_meet 106 = .ok (.aload_n 0, 1) := by decide +kernel
theorem dX5_meet_107 : decode cX5_meet 107 = .ok (.getfield 15, 3) := by decide +kernel
theorem dX5_meet_110 : decode cX5_meet 110 = .ok (.iload 4, 2) := by decide +kernel
theorem dX5_meet_112 : decode cX5_meet 112 = .ok (.iaload, 1) := by decide +kernel
theorem dX5_meet_113 : decode cX5_meet 113 = .ok (.ifCond .ne 8, 3) := by decide +kernel
theorem dX5_meet_116 : decode cX5_meet 116 = .ok (.iload 5, 2) := by decide +kernel
theorem dX5_meet_118 : decode cX5_meet 118 = .ok (.goto 10, 3) := by decide +kernel
theorem dX5_meet_121 : decode cX5_meet 121 = .ok (.aload_n 0, 1) := by decide +kernel
theorem dX5_meet_122 : decode cX5_meet 122 = .ok (.getfield 18, 3) := by decide +kernel
theorem dX5_meet_125 : decode cX5_meet 125 = .ok (.iload 4, 2) := by decide +kernel
theorem dX5_meet_127 : decode cX5_meet 127 = .ok (.iaload, 1) := by decide +kernel
theorem dX5_meet_128 : decode cX5_meet 128 = .ok (.istore 6, 2) := by decide +kernel
theorem dX5_meet_130 : decode cX5_meet 130 = .ok (.aload_n 0, 1) := by decide +kernel
theorem dX5_meet_131 : decode cX5_meet 131 = .ok (.aload_n 1, 1) := by decide +kernel
theorem dX5_meet_132 : decode cX5_meet 132 = .ok (.iload 4, 2) := by decide +kernel
theorem dX5_meet_134 : decode cX5_meet 134 = .ok (.iload 5, 2) := by decide +kernel
theorem dX5_meet_136 : decode cX5_meet 136 = .ok (.invokestatic 77, 3) := by decide +kernel
theorem dX5_meet_139 : decode cX5_meet 139 = .ok (.aload_n 0, 1) := by decide +kernel
theorem dX5_meet_140 : decode cX5_meet 140 = .ok (.getfield 15, 3) := by decide +kernel
theorem dX5_meet_143 : decode cX5_meet 143 = .ok (.iload 4, 2) := by decide +kernel
theorem dX5_meet_145 : decode cX5_meet 145 = .ok (.iaload, 1) := by decide +kernel
theorem dX5_meet_146 : decode cX5_meet 146 = .ok (.iconst 1, 1) := by decide +kernel
theorem dX5_meet_147 : decode cX5_meet 147 = .ok (.iadd, 1) := by decide +kernel
theorem dX5_meet_148 : decode cX5_meet 148 = .ok (.iload 6, 2) := by decide +kernel
theorem dX5_meet_150 : decode cX5_meet 150 = .ok (.invokevirtual 65, 3) := by decide +kernel
theorem dX5_meet_153 : decode cX5_meet 153 = .ok (.iinc 5 1, 3) := by decide +kernel
theorem dX5_meet_156 : decode cX5_meet 156 = .ok (.goto (-57), 3) := by decide +kernel
theorem dX5_meet_159 : decode cX5_meet 159 = .ok (.iinc 3 1, 3) := by decide +kernel
theorem dX5_meet_162 : decode cX5_meet 162 = .ok (.goto (-137), 3) := by decide +kernel
theorem dX5_meet_165 : decode cX5_meet 165 = .ok (.bipush (-2), 2) := by decide +kernel
theorem dX5_meet_167 : decode cX5_meet 167 = .ok (.ireturn, 1) := by decide +kernel
theorem dX5_enter_0 : decode cX5_enter 0 = .ok (.iload_n 1, 1) := by decide +kernel
theorem dX5_enter_1 : decode cX5_enter 1 = .ok (.ifCond .lt 24, 3) := by decide +kernel
theorem dX5_enter_4 : decode cX5_enter 4 = .ok (.iload_n 1, 1) := by decide +kernel
theorem dX5_enter_5 : decode cX5_enter 5 = .ok (.sipush 1024, 3) := by decide +kernel
theorem dX5_enter_8 : decode cX5_enter 8 = .ok (.if_icmp .ge 17, 3) := by decide +kernel
theorem dX5_enter_11 : decode cX5_enter 11 = .ok (.aload_n 0, 1) := by decide +kernel
theorem dX5_enter_12 : decode cX5_enter 12 = .ok (.getfield 15, 3) := by decide +kernel
theorem dX5_enter_15 : decode cX5_enter 15 = .ok (.iload_n 1, 1) := by decide +kernel
theorem dX5_enter_16 : decode cX5_enter 16 = .ok (.iaload, 1) := by decide +kernel
theorem dX5_enter_17 : decode cX5_enter 17 = .ok (.iconst (-1), 1) := by decide +kernel
theorem dX5_enter_18 : decode cX5_enter 18 = .ok (.if_icmp .ne 7, 3) := by decide +kernel
theorem dX5_enter_21 : decode cX5_enter 21 = .ok (.iconst 1, 1) := by decide +kernel
theorem dX5_enter_22 : decode cX5_enter 22 = .ok (.goto 4, 3) := by decide +kernel
theorem dX5_enter_25 : decode cX5_enter 25 = .ok (.iconst 0, 1) := by decide +kernel
theorem dX5_enter_26 : decode cX5_enter 26 = .ok (.istore 4, 2) := by decide +kernel
theorem dX5_enter_28 : decode cX5_enter 28 = .ok (.iload 4, 2) := by decide +kernel
theorem dX5_enter_30 : decode cX5_enter 30 = .ok (.ifCond .eq 54, 3) := by decide +kernel
theorem dX5_enter_33 : decode cX5_enter 33 = .ok (.aload_n 0, 1) := by decide +kernel
theorem dX5_enter_34 : decode cX5_enter 34 = .ok (.getfield 57, 3) := by decide +kernel
theorem dX5_enter_37 : decode cX5_enter 37 = .ok (.ifCond .lt 47, 3) := by decide +kernel
theorem dX5_enter_40 : decode cX5_enter 40 = .ok (.aload_n 0, 1) := by decide +kernel
theorem dX5_enter_41 : decode cX5_enter 41 = .ok (.getfield 57, 3) := by decide +kernel
theorem dX5_enter_44 : decode cX5_enter 44 = .ok (.sipush 1024, 3) := by decide +kernel
theorem dX5_enter_47 : decode cX5_enter 47 = .ok (.if_icmp .ge 37, 3) := by decide +kernel
theorem dX5_enter_50 : decode cX5_enter 50 = .ok (.aload_n 0, 1) := by decide +kernel
theorem dX5_enter_51 : decode cX5_enter 51 = .ok (.getfield 15, 3) := by decide +kernel
theorem dX5_enter_54 : decode cX5_enter 54 = .ok (.iload_n 1, 1) := by decide +kernel
theorem dX5_enter_55 : decode cX5_enter 55 = .ok (.iload_n 2, 1) := by decide +kernel
theorem dX5_enter_56 : decode cX5_enter 56 = .ok (.iastore, 1) := by decide +kernel
theorem dX5_enter_57 : decode cX5_enter 57 = .ok (.aload_n 0, 1) := by decide +kernel
theorem dX5_enter_58 : decode cX5_enter 58 = .ok (.getfield 18, 3) := by decide +kernel
theorem dX5_enter_61 : decode cX5_enter 61 = .ok (.iload_n 1, 1) := by decide +kernel
theorem dX5_enter_62 : decode cX5_enter 62 = .ok (.iload_n 3, 1) := by decide +kernel
theorem dX5_enter_63 : decode cX5_enter 63 = .ok (.iastore, 1) := by decide +kernel
theorem dX5_enter_64 : decode cX5_enter 64 = .ok (.aload_n 0, 1) := by decide +kernel
theorem dX5_enter_65 : decode cX5_enter 65 = .ok (.getfield 9, 3) := by decide +kernel
theorem dX5_enter_68 : decode cX5_enter 68 = .ok (.aload_n 0, 1) := by decide +kernel
theorem dX5_enter_69 : decode cX5_enter 69 = .ok (.getfield 57, 3) := by decide +kernel
theorem dX5_enter_72 : decode cX5_enter 72 = .ok (.iload_n 1, 1) := by decide +kernel
theorem dX5_enter_73 : decode cX5_enter 73 = .ok (.iastore, 1) := by decide +kernel
theorem dX5_enter_74 : decode cX5_enter 74 = .ok (.aload_n 0, 1) := by decide +kernel
theorem dX5_enter_75 : decode cX5_enter 75 = .ok (.dup, 1) := by decide +kernel
theorem dX5_enter_76 : decode cX5_enter 76 = .ok (.getfield 57, 3) := by decide +kernel
theorem dX5_enter_79 : decode cX5_enter 79 = .ok (.iconst 1, 1) := by decide +kernel
theorem dX5_enter_80 : decode cX5_enter 80 = .ok (.iadd, 1) := by decide +kernel
theorem dX5_enter_81 : decode cX5_enter 81 = .ok (.putfield 57, 3) := by decide +kernel
theorem dX5_enter_84 : decode cX5_enter 84 = .ok (.return_, 1) := by decide +kernel
theorem dJ6_bitCount_0f7a4_0 : decode cJ6_bitCount_0f7a4 0 = .ok (.iload_n 0, 1) := by decide +kernel
theorem dJ6_bitCount_0f7a4_1 : decode cJ6_bitCount_0f7a4 1 = .ok (.iload_n 0, 1) := by decide +kernel
theorem dJ6_bitCount_0f7a4_2 : decode cJ6_bitCount_0f7a4 2 = .ok (.iconst 1, 1) := by decide +kernel
theorem dJ6_bitCount_0f7a4_3 : decode cJ6_bitCount_0f7a4 3 = .ok (.iushr, 1) := by decide +kernel
theorem dJ6_bitCount_0f7a4_4 : decode cJ6_bitCount_0f7a4 4 = .ok (.ldc_w 265, 3) := by decide +kernel
theorem dJ6_bitCount_0f7a4_7 : decode cJ6_bitCount_0f7a4 7 = .ok (.iand, 1) := by decide +kernel
theorem dJ6_bitCount_0f7a4_8 : decode cJ6_bitCount_0f7a4 8 = .ok (.isub, 1) := by decide +kernel
theorem dJ6_bitCount_0f7a4_9 : decode cJ6_bitCount_0f7a4 9 = .ok (.istore_n 0, 1) := by decide +kernel
theorem dJ6_bitCount_0f7a4_10 : decode cJ6_bitCount_0f7a4 10 = .ok (.iload_n 0, 1) := by decide +kernel
theorem dJ6_bitCount_0f7a4_11 : decode cJ6_bitCount_0f7a4 11 = .ok (.ldc_w 266, 3) := by decide +kernel
theorem dJ6_bitCount_0f7a4_14 : decode cJ6_bitCount_0f7a4 14 = .ok (.iand, 1) := by decide +kernel
theorem dJ6_bitCount_0f7a4_15 : decode cJ6_bitCount_0f7a4 15 = .ok (.iload_n 0, 1) := by decide +kernel
theorem dJ6_bitCount_0f7a4_16 : decode cJ6_bitCount_0f7a4 16 = .ok (.iconst 2, 1) := by decide +kernel
theorem dJ6_bitCount_0f7a4_17 : decode cJ6_bitCount_0f7a4 17 = .ok (.iushr, 1) := by decide +kernel
theorem dJ6_bitCount_0f7a4_18 : decode cJ6_bitCount_0f7a4 18 = .ok (.ldc_w 266, 3) := by decide +kernel
theorem dJ6_bitCount_0f7a4_21 : decode cJ6_bitCount_0f7a4 21 = .ok (.iand, 1) := by decide +kernel
theorem dJ6_bitCount_0f7a4_22 : decode cJ6_bitCount_0f7a4 22 = .ok (.iadd, 1) := by decide +kernel
theorem dJ6_bitCount_0f7a4_23 : decode cJ6_bitCount_0f7a4 23 = .ok (.istore_n 0, 1) := by decide +kernel
theorem dJ6_bitCount_0f7a4_24 : decode cJ6_bitCount_0f7a4 24 = .ok (.iload_n 0, 1) := by decide +kernel
theorem dJ6_bitCount_0f7a4_25 : decode cJ6_bitCount_0f7a4 25 = .ok (.iload_n 0, 1) := by decide +kernel
theorem dJ6_bitCount_0f7a4_26 : decode cJ6_bitCount_0f7a4 26 = .ok (.iconst 4, 1) := by decide +kernel
theorem dJ6_bitCount_0f7a4_27 : decode cJ6_bitCount_0f7a4 27 = .ok (.iushr, 1) := by decide +kernel
theorem dJ6_bitCount_0f7a4_28 : decode cJ6_bitCount_0f7a4 28 = .ok (.iadd, 1) := by decide +kernel
theorem dJ6_bitCount_0f7a4_29 : decode cJ6_bitCount_0f7a4 29 = .ok (.ldc_w 267, 3) := by decide +kernel
theorem dJ6_bitCount_0f7a4_32 : decode cJ6_bitCount_0f7a4 32 = .ok (.iand, 1) := by decide +kernel
theorem dJ6_bitCount_0f7a4_33 : decode cJ6_bitCount_0f7a4 33 = .ok (.istore_n 0, 1) := by decide +kernel
theorem dJ6_bitCount_0f7a4_34 : decode cJ6_bitCount_0f7a4 34 = .ok (.iload_n 0, 1) := by decide +kernel
theorem dJ6_bitCount_0f7a4_35 : decode cJ6_bitCount_0f7a4 35 = .ok (.iload_n 0, 1) := by decide +kernel
theorem dJ6_bitCount_0f7a4_36 : decode cJ6_bitCount_0f7a4 36 = .ok (.bipush 8, 2) := by decide +kernel
theorem dJ6_bitCount_0f7a4_38 : decode cJ6_bitCount_0f7a4 38 = .ok (.iushr, 1) := by decide +kernel
theorem dJ6_bitCount_0f7a4_39 : decode cJ6_bitCount_0f7a4 39 = .ok (.iadd, 1) := by decide +kernel
theorem dJ6_bitCount_0f7a4_40 : decode cJ6_bitCount_0f7a4 40 = .ok (.istore_n 0, 1) := by decide +kernel
theorem dJ6_bitCount_0f7a4_41 : decode cJ6_bitCount_0f7a4 41 = .ok (.iload_n 0, 1) := by decide +kernel
theorem dJ6_bitCount_0f7a4_42 : decode cJ6_bitCount_0f7a4 42 = .ok (.iload_n 0, 1) := by decide +kernel
theorem dJ6_bitCount_0f7a4_43 : decode cJ6_bitCount_0f7a4 43 = .ok (.bipush 16, 2) := by decide +kernel
theorem dJ6_bitCount_0f7a4_45 : decode cJ6_bitCount_0f7a4 45 = .ok (.iushr, 1) := by decide +kernel
theorem dJ6_bitCount_0f7a4_46 : decode cJ6_bitCount_0f7a4 46 = .ok (.iadd, 1) := by decide +kernel
theorem dJ6_bitCount_0f7a4_47 : decode cJ6_bitCount_0f7a4 47 = .ok (.istore_n 0, 1) := by decide +kernel
theorem dJ6_bitCount_0f7a4_48 : decode cJ6_bitCount_0f7a4 48 = .ok (.iload_n 0, 1) := by decide +kernel
theorem dJ6_bitCount_0f7a4_49 : decode cJ6_bitCount_0f7a4 49 = .ok (.bipush 63, 2) := by decide +kernel
theorem dJ6_bitCount_0f7a4_51 : decode cJ6_bitCount_0f7a4 51 = .ok (.iand, 1) := by decide +kernel
theorem dJ6_bitCount_0f7a4_52 : decode cJ6_bitCount_0f7a4 52 = .ok (.ireturn, 1) := by decide +kernel
theorem dX5_lowest_0 : decode cX5_lowest 0 = .ok (.iconst 0, 1) := by decide +kernel
theorem dX5_lowest_1 : decode cX5_lowest 1 = .ok (.istore_n 1, 1) := by decide +kernel
theorem dX5_lowest_2 : decode cX5_lowest 2 = .ok (.iload_n 1, 1) := by decide +kernel
theorem dX5_lowest_3 : decode cX5_lowest 3 = .ok (.bipush 10, 2) := by decide +kernel
theorem dX5_lowest_5 : decode cX5_lowest 5 = .ok (.if_icmp .ge 19, 3) := by decide +kernel
theorem dX5_lowest_8 : decode cX5_lowest 8 = .ok (.iload_n 0, 1) := by decide +kernel
theorem dX5_lowest_9 : decode cX5_lowest 9 = .ok (.iload_n 1, 1) := by decide +kernel
theorem dX5_lowest_10 : decode cX5_lowest 10 = .ok (.ishr, 1) := by decide +kernel
theorem dX5_lowest_11 : decode cX5_lowest 11 = .ok (.iconst 1, 1) := by decide +kernel
theorem dX5_lowest_12 : decode cX5_lowest 12 = .ok (.iand, 1) := by decide +kernel
theorem dX5_lowest_13 : decode cX5_lowest 13 = .ok (.ifCond .eq 5, 3) := by decide +kernel
theorem dX5_lowest_16 : decode cX5_lowest 16 = .ok (.iload_n 1, 1) := by decide +kernel
theorem dX5_lowest_17 : decode cX5_lowest 17 = .ok (.ireturn, 1) := by decide +kernel
theorem dX5_lowest_18 : decode cX5_lowest 18 = .ok (.iinc 1 1, 3) := by decide +kernel
theorem dX5_lowest_21 : decode cX5_lowest 21 = .ok (.goto (-19), 3) := by decide +kernel
theorem dX5_lowest_24 : decode cX5_lowest 24 = .ok (.iconst (-1), 1) := by decide +kernel
theorem dX5_lowest_25 : decode cX5_lowest 25 = .ok (.ireturn, 1) := by decide +kernel
theorem dX5_image_0 : decode cX5_image 0 = .ok (.iconst 0, 1) := by decide +kernel
theorem dX5_image_1 : decode cX5_image 1 = .ok (.istore_n 3, 1) := by decide +kernel
theorem dX5_image_2 : decode cX5_image 2 = .ok (.iconst 0, 1) := by decide +kernel
theorem dX5_image_3 : decode cX5_image 3 = .ok (.istore 4, 2) := by decide +kernel
theorem dX5_image_5 : decode cX5_image 5 = .ok (.iload 4, 2) := by decide +kernel
theorem dX5_image_7 : decode cX5_image 7 = .ok (.aload_n 0, 1) := by decide +kernel
theorem dX5_image_8 : decode cX5_image 8 = .ok (.getfield 81, 3) := by decide +kernel
theorem dX5_image_11 : decode cX5_image 11 = .ok (.if_icmp .ge 30, 3) := by decide +kernel
theorem dX5_image_14 : decode cX5_image 14 = .ok (.iload_n 1, 1) := by decide +kernel
theorem dX5_image_15 : decode cX5_image 15 = .ok (.iload 4, 2) := by decide +kernel
theorem dX5_image_17 : decode cX5_image 17 = .ok (.ishr, 1) := by decide +kernel
theorem dX5_image_18 : decode cX5_image 18 = .ok (.iconst 1, 1) := by decide +kernel
theorem dX5_image_19 : decode cX5_image 19 = .ok (.iand, 1) := by decide +kernel
theorem dX5_image_20 : decode cX5_image 20 = .ok (.ifCond .eq 15, 3) := by decide +kernel
theorem dX5_image_23 : decode cX5_image 23 = .ok (.iload_n 3, 1) := by decide +kernel
theorem dX5_image_24 : decode cX5_image 24 = .ok (.iconst 1, 1) := by decide +kernel
theorem dX5_image_25 : decode cX5_image 25 = .ok (.aload_n 0, 1) := by decide +kernel
theorem dX5_image_26 : decode cX5_image 26 = .ok (.iload_n 2, 1) := by decide +kernel
theorem dX5_image_27 : decode cX5_image 27 = .ok (.iload 4, 2) := by decide +kernel
theorem dX5_image_29 : decode cX5_image 29 = .ok (.invokevirtual 84, 3) := by decide +kernel
theorem dX5_image_32 : decode cX5_image 32 = .ok (.ishl, 1) := by decide +kernel
theorem dX5_image_33 : decode cX5_image 33 = .ok (.ior, 1) := by decide +kernel
theorem dX5_image_34 : decode cX5_image 34 = .ok (.istore_n 3, 1) := by decide +kernel
theorem dX5_image_35 : decode cX5_image 35 = .ok (.iinc 4 1, 3) := by decide +kernel
theorem dX5_image_38 : decode cX5_image 38 = .ok (.goto (-33), 3) := by decide +kernel
theorem dX5_image_41 : decode cX5_image 41 = .ok (.iload_n 3, 1) := by decide +kernel
theorem dX5_image_42 : decode cX5_image 42 = .ok (.ireturn, 1) := by decide +kernel
theorem dX11_plan_0 : decode cX11_plan 0 = .ok (.aload_n 0, 1) := by decide +kernel
theorem dX11_plan_1 : decode cX11_plan 1 = .ok (.getfield 42, 3) := by decide +kernel
theorem dX11_plan_4 : decode cX11_plan 4 = .ok (.iload_n 1, 1) := by decide +kernel
theorem dX11_plan_5 : decode cX11_plan 5 = .ok (.invokevirtual 239, 3) := by decide +kernel
theorem dX11_plan_8 : decode cX11_plan 8 = .ok (.ifCond .eq 10, 3) := by decide +kernel
theorem dX11_plan_11 : decode cX11_plan 11 = .ok (.iload_n 2, 1) := by decide +kernel
theorem dX11_plan_12 : decode cX11_plan 12 = .ok (.invokestatic 179, 3) := by decide +kernel
theorem dX11_plan_15 : decode cX11_plan 15 = .ok (.ifCond .ne 5, 3) := by decide +kernel
theorem dX11_plan_18 : decode cX11_plan 18 = .ok (.iconst (-1), 1) := by decide +kernel
theorem dX11_plan_19 : decode cX11_plan 19 = .ok (.ireturn, 1) := by decide +kernel
theorem dX11_plan_20 : decode cX11_plan 20 = .ok (.aload_n 0, 1) := by decide +kernel
theorem dX11_plan_21 : decode cX11_plan 21 = .ok (.getfield 83, 3) := by decide +kernel
theorem dX11_plan_24 : decode cX11_plan 24 = .ok (.aload_n 0, 1) := by decide +kernel
theorem dX11_plan_25 : decode cX11_plan 25 = .ok (.getfield 42, 3) := by decide +kernel
theorem dX11_plan_28 : decode cX11_plan 28 = .ok (.iload_n 1, 1) := by decide +kernel
theorem dX11_plan_29 : decode cX11_plan 29 = .ok (.invokevirtual 242, 3) := by decide +kernel
theorem dX11_plan_32 : decode cX11_plan 32 = .ok (.istore_n 3, 1) := by decide +kernel
theorem dX11_plan_33 : decode cX11_plan 33 = .ok (.iload_n 3, 1) := by decide +kernel
theorem dX11_plan_34 : decode cX11_plan 34 = .ok (.ifCond .lt 7, 3) := by decide +kernel
theorem dX11_plan_37 : decode cX11_plan 37 = .ok (.iload_n 2, 1) := by decide +kernel
theorem dX11_plan_38 : decode cX11_plan 38 = .ok (.ifCond .ne 5, 3) := by decide +kernel
theorem dX11_plan_41 : decode cX11_plan 41 = .ok (.iload_n 3, 1) := by decide +kernel
theorem dX11_plan_42 : decode cX11_plan 42 = .ok (.ireturn, 1) := by decide +kernel
theorem dX11_plan_43 : decode cX11_plan 43 = .ok (.iload_n 3, 1) := by decide +kernel
theorem dX11_plan_44 : decode cX11_plan 44 = .ok (.ifCond .ne 8, 3) := by decide +kernel
theorem dX11_plan_47 : decode cX11_plan 47 = .ok (.bipush (-4), 2) := by decide +kernel
theorem dX11_plan_49 : decode cX11_plan 49 = .ok (.goto 16, 3) := by decide +kernel
theorem dX11_plan_52 : decode cX11_plan 52 = .ok (.aload_n 0, 1) := by decide +kernel
theorem dX11_plan_53 : decode cX11_plan 53 = .ok (.getfield 83, 3) := by decide +kernel
theorem dX11_plan_56 : decode cX11_plan 56 = .ok (.aload_n 0, 1) := by decide +kernel
theorem dX11_plan_57 : decode cX11_plan 57 = .ok (.getfield 42, 3) := by decide +kernel
theorem dX11_plan_60 : decode cX11_plan 60 = .ok (.iload_n 1, 1) := by decide +kernel
theorem dX11_plan_61 : decode cX11_plan 61 = .ok (.iload_n 3, 1) := by decide +kernel
theorem dX11_plan_62 : decode cX11_plan 62 = .ok (.invokevirtual 245, 3) := by decide +kernel
theorem dX11_plan_65 : decode cX11_plan 65 = .ok (.ireturn, 1) := by decide +kernel
theorem dX8_hasAll_0 : decode cX8_hasAll 0 = .ok (.iload_n 1, 1) := by decide +kernel
theorem dX8_hasAll_1 : decode cX8_hasAll 1 = .ok (.ifCond .le 15, 3) := by decide +kernel
theorem dX8_hasAll_4 : decode cX8_hasAll 4 = .ok (.iload_n 1, 1) := by decide +kernel
theorem dX8_hasAll_5 : decode cX8_hasAll 5 = .ok (.aload_n 0, 1) := by decide +kernel
theorem dX8_hasAll_6 : decode cX8_hasAll 6 = .ok (.invokevirtual 22, 3) := by decide +kernel
theorem dX8_hasAll_9 : decode cX8_hasAll 9 = .ok (.if_icmp .gt 7, 3) := by decide +kernel
theorem dX8_hasAll_12 : decode cX8_hasAll 12 = .ok (.iconst 1, 1) := by decide +kernel
theorem dX8_hasAll_13 : decode cX8_hasAll 13 = .ok (.goto 4, 3) := by decide +kernel
theorem dX8_hasAll_16 : decode cX8_hasAll 16 = .ok (.iconst 0, 1) := by decide +kernel
theorem dX8_hasAll_17 : decode cX8_hasAll 17 = .ok (.ireturn, 1) := by decide +kernel
theorem dX5_makeSure_0 : decode cX5_makeSure 0 = .ok (.aload_n 0, 1) := by decide +kernel
theorem dX5_makeSure_1 : decode cX5_makeSure 1 = .ok (.aload_n 1, 1) := by decide +kernel
theorem dX5_makeSure_2 : decode cX5_makeSure 2 = .ok (.invokevirtual 87, 3) := by decide +kernel
theorem dX5_makeSure_5 : decode cX5_makeSure 5 = .ok (.putfield 90, 3) := by decide +kernel
theorem dX5_makeSure_8 : decode cX5_makeSure 8 = .ok (.aload_n 0, 1) := by decide +kernel
theorem dX5_makeSure_9 : decode cX5_makeSure 9 = .ok (.aload_n 1, 1) := by decide +kernel
theorem dX5_makeSure_10 : decode cX5_makeSure 10 = .ok (.iload_n 2, 1) := by decide +kernel
theorem dX5_makeSure_11 : decode cX5_makeSure 11 = .ok (.invokevirtual 92, 3) := by decide +kernel
theorem dX5_makeSure_14 : decode cX5_makeSure 14 = .ok (.iconst 1, 1) := by decide +kernel
theorem dX5_makeSure_15 : decode cX5_makeSure 15 = .ok (.istore_n 3, 1) := by decide +kernel
theorem dX5_makeSure_16 : decode cX5_makeSure 16 = .ok (.iconst 1, 1) := by decide +kernel
theorem dX5_makeSure_17 : decode cX5_makeSure 17 = .ok (.istore 4, 2) := by decide +kernel
theorem dX5_makeSure_19 : decode cX5_makeSure 19 = .ok (.iload 4, 2) := by decide +kernel
theorem dX5_makeSure_21 : decode cX5_makeSure 21 = .ok (.sipush 1024, 3) := by decide +kernel
theorem dX5_makeSure_24 : decode cX5_makeSure 24 = .ok (.if_icmp .gt 102, 3) := by decide +kernel
theorem dX5_makeSure_27 : decode cX5_makeSure 27 = .ok (.iload_n 3, 1) := by decide +kernel
theorem dX5_makeSure_28 : decode cX5_makeSure 28 = .ok (.ifCond .eq 98, 3) := by decide +kernel
theorem dX5_makeSure_31 : decode cX5_makeSure 31 = .ok (.aload_n 0, 1) := by decide +kernel
theorem dX5_makeSure_32 : decode cX5_makeSure 32 = .ok (.iload_n 2, 1) := by decide +kernel
theorem dX5_makeSure_33 : decode cX5_makeSure 33 = .ok (.invokevirtual 96, 3) := by decide +kernel
theorem dX5_makeSure_36 : decode cX5_makeSure 36 = .ok (.sipush 1024, 3) := by decide +kernel
theorem dX5_makeSure_39 : decode cX5_makeSure 39 = .ok (.if_icmp .ne 87, 3) := by decide +kernel
theorem dX5_makeSure_42 : decode cX5_makeSure 42 = .ok (.iconst 0, 1) := by decide +kernel
theorem dX5_makeSure_43 : decode cX5_makeSure 43 = .ok (.istore_n 3, 1) := by decide +kernel
theorem dX5_makeSure_44 : decode cX5_makeSure 44 = .ok (.iconst 0, 1) := by decide +kernel
theorem dX5_makeSure_45 : decode cX5_makeSure 45 = .ok (.istore 5, 2) := by decide +kernel
theorem dX5_makeSure_47 : decode cX5_makeSure 47 = .ok (.iload 5, 2) := by decide +kernel
theorem dX5_makeSure_49 : decode cX5_makeSure 49 = .ok (.aload_n 0, 1) := by decide +kernel
theorem dX5_makeSure_50 : decode cX5_makeSure 50 = .ok (.getfield 57, 3) := by decide +kernel
theorem dX5_makeSure_53 : decode cX5_makeSure 53 = .ok (.if_icmp .ge 67, 3) := by decide +kernel
theorem dX5_makeSure_56 : decode cX5_makeSure 56 = .ok (.iload 5, 2) := by decide +kernel
theorem dX5_makeSure_58 : decode cX5_makeSure 58 = .ok (.sipush 1024, 3) := by decide +kernel
theorem dX5_makeSure_61 : decode cX5_makeSure 61 = .ok (.if_icmp .ge 59, 3) := by decide +kernel
theorem dX5_makeSure_64 : decode cX5_makeSure 64 = .ok (.aload_n 0, 1) := by decide +kernel
theorem dX5_makeSure_65 : decode cX5_makeSure 65 = .ok (.getfield 9, 3) := by decide +kernel
theorem dX5_makeSure_68 : decode cX5_makeSure 68 = .ok (.iload 5, 2) := by decide +kernel
theorem dX5_makeSure_70 : decode cX5_makeSure 70 = .ok (.iaload, 1) := by decide +kernel
theorem dX5_makeSure_71 : decode cX5_makeSure 71 = .ok (.sipush 1023, 3) := by decide +kernel
theorem dX5_makeSure_74 : decode cX5_makeSure 74 = .ok (.iand, 1) := by decide +kernel
theorem dX5_makeSure_75 : decode cX5_makeSure 75 = .ok (.istore 6, 2) := by decide +kernel
theorem dX5_makeSure_77 : decode cX5_makeSure 77 = .ok (.aload_n 0, 1) := by decide +kernel
theorem dX5_makeSure_78 : decode cX5_makeSure 78 = .ok (.getfield 15, 3) := by decide +kernel
theorem dX5_makeSure_81 : decode cX5_makeSure 81 = .ok (.iload 6, 2) := by decide +kernel
theorem dX5_makeSure_83 : decode cX5_makeSure 83 = .ok (.iaload, 1) := by decide +kernel
theorem dX5_makeSure_84 : decode cX5_makeSure 84 = .ok (.sipush 1024, 3) := by decide +kernel
theorem dX5_makeSure_87 : decode cX5_makeSure 87 = .ok (.if_icmp .ne 27, 3) := by decide +kernel
theorem dX5_makeSure_90 : decode cX5_makeSure 90 = .ok (.aload_n 0, 1) := by decide +kernel
theorem dX5_makeSure_91 : decode cX5_makeSure 91 = .ok (.aload_n 1, 1) := by decide +kernel
theorem dX5_makeSure_92 : decode cX5_makeSure 92 = .ok (.iload 6, 2) := by decide +kernel
theorem dX5_makeSure_94 : decode cX5_makeSure 94 = .ok (.iload 4, 2) := by decide +kernel
theorem dX5_makeSure_96 : decode cX5_makeSure 96 = .ok (.invokevirtual 99, 3) := by decide +kernel
theorem dX5_makeSure_99 : decode cX5_makeSure 99 = .ok (.iconst (-1), 1) := by decide +kernel
theorem dX5_makeSure_100 : decode cX5_makeSure 100 = .ok (.if_icmp .eq 14, 3) := by decide +kernel
theorem dX5_makeSure_103 : decode cX5_makeSure 103 = .ok (.aload_n 0, 1) := by decide +kernel
theorem dX5_makeSure_104 : decode cX5_makeSure 104 = .ok (.getfield 15, 3) := by decide +kernel
theorem dX5_makeSure_107 : decode cX5_makeSure 107 = .ok (.iload 6, 2) := by decide +kernel
theorem dX5_makeSure_109 : decode cX5_makeSure 109 = .ok (.iload 4, 2) := by decide +kernel
theorem dX5_makeSure_111 : decode cX5_makeSure 111 = .ok (.iastore, 1) := by decide +kernel
theorem dX5_makeSure_112 : decode cX5_makeSure 112 = .ok (.iconst 1, 1) := by decide +kernel
theorem dX5_makeSure_113 : decode cX5_makeSure 113 = .ok (.istore_n 3, 1) := by decide +kernel
theorem dX5_makeSure_114 : decode cX5_makeSure 114 = .ok (.iinc 5 1, 3) := by decide +kernel
theorem dX5_makeSure_117 : decode cX5_makeSure 117 = .ok (.goto (-70), 3) := by decide +kernel
theorem dX5_makeSure_120 : decode cX5_makeSure 120 = .ok (.iinc 4 1, 3) := by decide +kernel
theorem dX5_makeSure_123 : decode cX5_makeSure 123 = .ok (.goto (-104), 3) := by decide +kernel
theorem dX5_makeSure_126 : decode cX5_makeSure 126 = .ok (.aload_n 0, 1) := by decide +kernel
theorem dX5_makeSure_127 : decode cX5_makeSure 127 = .ok (.iload_n 2, 1) := by decide +kernel
theorem dX5_makeSure_128 : decode cX5_makeSure 128 = .ok (.invokevirtual 96, 3) := by decide +kernel
theorem dX5_makeSure_131 : decode cX5_makeSure 131 = .ok (.sipush 1024, 3) := by decide +kernel
theorem dX5_makeSure_134 : decode cX5_makeSure 134 = .ok (.if_icmp .ne 8, 3) := by decide +kernel
theorem dX5_makeSure_137 : decode cX5_makeSure 137 = .ok (.bipush (-2), 2) := by decide +kernel
theorem dX5_makeSure_139 : decode cX5_makeSure 139 = .ok (.goto 8, 3) := by decide +kernel
theorem dX5_makeSure_142 : decode cX5_makeSure 142 = .ok (.aload_n 0, 1) := by decide +kernel
theorem dX5_makeSure_143 : decode cX5_makeSure 143 = .ok (.iload_n 2, 1) := by decide +kernel
theorem dX5_makeSure_144 : decode cX5_makeSure 144 = .ok (.invokevirtual 96, 3) := by decide +kernel
theorem dX5_makeSure_147 : decode cX5_makeSure 147 = .ok (.ireturn, 1) := by decide +kernel
theorem dX8_telling_0 : decode cX8_telling 0 = .ok (.iconst 0, 1) := by decide +kernel
theorem dX8_telling_1 : decode cX8_telling 1 = .ok (.istore_n 1, 1) := by decide +kernel
theorem dX8_telling_2 : decode cX8_telling 2 = .ok (.iconst 0, 1) := by decide +kernel
theorem dX8_telling_3 : decode cX8_telling 3 = .ok (.istore_n 2, 1) := by decide +kernel
theorem dX8_telling_4 : decode cX8_telling 4 = .ok (.iload_n 2, 1) := by decide +kernel
theorem dX8_telling_5 : decode cX8_telling 5 = .ok (.bipush 8, 2) := by decide +kernel
theorem dX8_telling_7 : decode cX8_telling 7 = .ok (.if_icmp .ge 56, 3) := by decide +kernel
theorem dX8_telling_10 : decode cX8_telling 10 = .ok (.iconst 0, 1) := by decide +kernel
theorem dX8_telling_11 : decode cX8_telling 11 = .ok (.istore_n 3, 1) := by decide +kernel
theorem dX8_telling_12 : decode cX8_telling 12 = .ok (.iload_n 3, 1) := by decide +kernel
theorem dX8_telling_13 : decode cX8_telling 13 = .ok (.aload_n 0, 1) := by decide +kernel
theorem dX8_telling_14 : decode cX8_telling 14 = .ok (.getfield 18, 3) := by decide +kernel
theorem dX8_telling_17 : decode cX8_telling 17 = .ok (.if_icmp .ge 40, 3) := by decide +kernel
theorem dX8_telling_20 : decode cX8_telling 20 = .ok (.aload_n 0, 1) := by decide +kernel
theorem dX8_telling_21 : decode cX8_telling 21 = .ok (.iload_n 2, 1) := by decide +kernel
theorem dX8_telling_22 : decode cX8_telling 22 = .ok (.iload_n 3, 1) := by decide +kernel
theorem dX8_telling_23 : decode cX8_telling 23 = .ok (.invokevirtual 26, 3) := by decide +kernel
theorem dX8_telling_26 : decode cX8_telling 26 = .ok (.iload_n 3, 1) := by decide +kernel
theorem dX8_telling_27 : decode cX8_telling 27 = .ok (.if_icmp .ne 18, 3) := by decide +kernel
theorem dX8_telling_30 : decode cX8_telling 30 = .ok (.aload_n 0, 1) := by decide +kernel
theorem dX8_telling_31 : decode cX8_telling 31 = .ok (.iload_n 2, 1) := by decide +kernel
theorem dX8_telling_32 : decode cX8_telling 32 = .ok (.iload_n 3, 1) := by decide +kernel
theorem dX8_telling_33 : decode cX8_telling 33 = .ok (.invokevirtual 30, 3) := by decide +kernel
theorem dX8_telling_36 : decode cX8_telling 36 = .ok (.aload_n 0, 1) := by decide +kernel
theorem dX8_telling_37 : decode cX8_telling 37 = .ok (.iload_n 2, 1) := by decide +kernel
theorem dX8_telling_38 : decode cX8_telling 38 = .ok (.iconst 0, 1) := by decide +kernel
theorem dX8_telling_39 : decode cX8_telling 39 = .ok (.invokevirtual 30, 3) := by decide +kernel
theorem dX8_telling_42 : decode cX8_telling 42 = .ok (.if_icmp .eq 9, 3) := by decide +kernel
theorem dX8_telling_45 : decode cX8_telling 45 = .ok (.iload_n 1, 1) := by decide +kernel
theorem dX8_telling_46 : decode cX8_telling 46 = .ok (.iconst 1, 1) := by decide +kernel
theorem dX8_telling_47 : decode cX8_telling 47 = .ok (.iload_n 2, 1) := by decide +kernel
theorem dX8_telling_48 : decode cX8_telling 48 = .ok (.ishl, 1) := by decide +kernel
theorem dX8_telling_49 : decode cX8_telling 49 = .ok (.ior, 1) := by decide +kernel
theorem dX8_telling_50 : decode cX8_telling 50 = .ok (.istore_n 1, 1) := by decide +kernel
theorem dX8_telling_51 : decode cX8_telling 51 = .ok (.iinc 3 1, 3) := by decide +kernel
theorem dX8_telling_54 : decode cX8_telling 54 = .ok (.goto (-42), 3) := by decide +kernel
theorem dX8_telling_57 : decode cX8_telling 57 = .ok (.iinc 2 1, 3) := by decide +kernel
theorem dX8_telling_60 : decode cX8_telling 60 = .ok (.goto (-56), 3) := by decide +kernel
theorem dX8_telling_63 : decode cX8_telling 63 = .ok (.iload_n 1, 1) := by decide +kernel
theorem dX8_telling_64 : decode cX8_telling 64 = .ok (.ireturn, 1) := by decide +kernel
theorem dX5_explore_0 : decode cX5_explore 0 = .ok (.aload_n 0, 1) := by decide +kernel
theorem dX5_explore_1 : decode cX5_explore 1 = .ok (.getfield 15, 3) := by decide +kernel
theorem dX5_explore_4 : decode cX5_explore 4 = .ok (.iconst (-1), 1) := by decide +kernel
theorem dX5_explore_5 : decode cX5_explore 5 = .ok (.invokestatic 51, 3) := by decide +kernel
theorem dX5_explore_8 : decode cX5_explore 8 = .ok (.aload_n 0, 1) := by decide +kernel
theorem dX5_explore_9 : decode cX5_explore 9 = .ok (.iconst 0, 1) := by decide +kernel
theorem dX5_explore_10 : decode cX5_explore 10 = .ok (.putfield 57, 3) := by decide +kernel
theorem dX5_explore_13 : decode cX5_explore 13 = .ok (.aload_n 0, 1) := by decide +kernel
theorem dX5_explore_14 : decode cX5_explore 14 = .ok (.iload_n 2, 1) := by decide +kernel
theorem dX5_explore_15 : decode cX5_explore 15 = .ok (.invokevirtual 102, 3) := by decide +kernel
theorem dX5_explore_18 : decode cX5_explore 18 = .ok (.iconst 0, 1) := by decide +kernel
theorem dX5_explore_19 : decode cX5_explore 19 = .ok (.istore_n 3, 1) := by decide +kernel
theorem dX5_explore_20 : decode cX5_explore 20 = .ok (.iload_n 3, 1) := by decide +kernel
theorem dX5_explore_21 : decode cX5_explore 21 = .ok (.aload_n 0, 1) := by decide +kernel
theorem dX5_explore_22 : decode cX5_explore 22 = .ok (.getfield 57, 3) := by decide +kernel
theorem dX5_explore_25 : decode cX5_explore 25 = .ok (.if_icmp .ge 75, 3) := by decide +kernel
theorem dX5_explore_28 : decode cX5_explore 28 = .ok (.iload_n 3, 1) := by decide +kernel
theorem dX5_explore_29 : decode cX5_explore 29 = .ok (.sipush 1024, 3) := by decide +kernel
theorem dX5_explore_32 : decode cX5_explore 32 = .ok (.if_icmp .ge 68, 3) := by decide +kernel
theorem dX5_explore_35 : decode cX5_explore 35 = .ok (.aload_n 0, 1) := by decide +kernel
theorem dX5_explore_36 : decode cX5_explore 36 = .ok (.getfield 9, 3) := by decide +kernel
theorem dX5_explore_39 : decode cX5_explore 39 = .ok (.iload_n 3, 1) := by decide +kernel
theorem dX5_explore_40 : decode cX5_explore 40 = .ok (.iaload, 1) := by decide +kernel
theorem dX5_explore_41 : decode cX5_explore 41 = .ok (.sipush 1023, 3) := by decide +kernel
theorem dX5_explore_44 : decode cX5_explore 44 = .ok (.iand, 1) := by decide +kernel
theorem dX5_explore_45 : decode cX5_explore 45 = .ok (.istore 4, 2) := by decide +kernel
theorem dX5_explore_47 : decode cX5_explore 47 = .ok (.iconst 0, 1) := by decide +kernel
theorem dX5_explore_48 : decode cX5_explore 48 = .ok (.istore 5, 2) := by decide +kernel
theorem dX5_explore_50 : decode cX5_explore 50 = .ok (.iload 5, 2) := by decide +kernel
theorem dX5_explore_52 : decode cX5_explore 52 = .ok (.bipush 8, 2) := by decide +kernel
theorem dX5_explore_54 : decode cX5_explore 54 = .ok (.if_icmp .ge 40, 3) := by decide +kernel
theorem dX5_explore_57 : decode cX5_explore 57 = .ok (.aload_n 0, 1) := by decide +kernel
theorem dX5_explore_58 : decode cX5_explore 58 = .ok (.getfield 15, 3) := by decide +kernel
theorem dX5_explore_61 : decode cX5_explore 61 = .ok (.iload 4, 2) := by decide +kernel
theorem dX5_explore_63 : decode cX5_explore 63 = .ok (.iaload, 1) := by decide +kernel
theorem dX5_explore_64 : decode cX5_explore 64 = .ok (.ifCond .eq 30, 3) := by decide +kernel
theorem dX5_explore_67 : decode cX5_explore 67 = .ok (.aload_n 0, 1) := by decide +kernel
theorem dX5_explore_68 : decode cX5_explore 68 = .ok (.getfield 90, 3) := by decide +kernel
theorem dX5_explore_71 : decode cX5_explore 71 = .ok (.iload 5, 2) := by decide +kernel
theorem dX5_explore_73 : decode cX5_explore 73 = .ok (.ishr, 1) := by decide +kernel
theorem dX5_explore_74 : decode cX5_explore 74 = .ok (.iconst 1, 1) := by decide +kernel
theorem dX5_explore_75 : decode cX5_explore 75 = .ok (.iand, 1) := by decide +kernel
theorem dX5_explore_76 : decode cX5_explore 76 = .ok (.ifCond .eq 12, 3) := by decide +kernel
theorem dX5_explore_79 : decode cX5_explore 79 = .ok (.aload_n 0, 1) := by decide +kernel
theorem dX5_explore_80 : decode cX5_explore 80 = .ok (.aload_n 1, 1) := by decide +kernel
theorem dX5_explore_81 : decode cX5_explore 81 = .ok (.iload 4, 2) := by decide +kernel
theorem dX5_explore_83 : decode cX5_explore 83 = .ok (.iload 5, 2) := by decide +kernel
theorem dX5_explore_85 : decode cX5_explore 85 = .ok (.invokevirtual 106, 3) := by decide +kernel
theorem dX5_explore_88 : decode cX5_explore 88 = .ok (.iinc 5 1, 3) := by decide +kernel
theorem dX5_explore_91 : decode cX5_explore 91 = .ok (.goto (-41), 3) := by decide +kernel
theorem dX5_explore_94 : decode cX5_explore 94 = .ok (.iinc 3 1, 3) := by decide +kernel
theorem dX5_explore_97 : decode cX5_explore 97 = .ok (.goto (-77), 3) := by decide +kernel
theorem dX5_explore_100 : decode cX5_explore 100 = .ok (.return_, 1) := by decide +kernel
theorem dX5_enterOpen_0 : decode cX5_enterOpen 0 = .ok (.aload_n 0, 1) := by decide +kernel
theorem dX5_enterOpen_1 : decode cX5_enterOpen 1 = .ok (.iload_n 1, 1) := by decide +kernel
theorem dX5_enterOpen_2 : decode cX5_enterOpen 2 = .ok (.iload_n 1, 1) := by decide +kernel
theorem dX5_enterOpen_3 : decode cX5_enterOpen 3 = .ok (.invokestatic 69, 3) := by decide +kernel
theorem dX5_enterOpen_6 : decode cX5_enterOpen 6 = .ok (.iconst 1, 1) := by decide +kernel
theorem dX5_enterOpen_7 : decode cX5_enterOpen 7 = .ok (.if_icmp .ne 7, 3) := by decide +kernel
theorem dX5_enterOpen_10 : decode cX5_enterOpen 10 = .ok (.iconst 0, 1) := by decide +kernel
theorem dX5_enterOpen_11 : decode cX5_enterOpen 11 = .ok (.goto 6, 3) := by decide +kernel
theorem dX5_enterOpen_14 : decode cX5_enterOpen 14 = .ok (.sipush 1024, 3) := by decide +kernel
theorem dX5_enterOpen_17 : decode cX5_enterOpen 17 = .ok (.iconst (-1), 1) := by decide +kernel
theorem dX5_enterOpen_18 : decode cX5_enterOpen 18 = .ok (.invokevirtual 65, 3) := by decide +kernel
theorem dX5_enterOpen_21 : decode cX5_enterOpen 21 = .ok (.return_, 1) := by decide +kernel
theorem dX5_enterGroups_0 : decode cX5_enterGroups 0 = .ok (.aload_n 0, 1) := by decide +kernel
theorem dX5_enterGroups_1 : decode cX5_enterGroups 1 = .ok (.aload_n 1, 1) := by decide +kernel
theorem dX5_enterGroups_2 : decode cX5_enterGroups 2 = .ok (.iload_n 2, 1) := by decide +kernel
theorem dX5_enterGroups_3 : decode cX5_enterGroups 3 = .ok (.iload_n 3, 1) := by decide +kernel
theorem dX5_enterGroups_4 : decode cX5_enterGroups 4 = .ok (.invokevirtual 110, 3) := by decide +kernel
theorem dX5_enterGroups_7 : decode cX5_enterGroups 7 = .ok (.iconst 0, 1) := by decide +kernel
theorem dX5_enterGroups_8 : decode cX5_enterGroups 8 = .ok (.istore 4, 2) := by decide +kernel
theorem dX5_enterGroups_10 : decode cX5_enterGroups 10 = .ok (.iload 4, 2) := by decide +kernel
theorem dX5_enterGroups_12 : decode cX5_enterGroups 12 = .ok (.bipush 9, 2) := by decide +kernel
theorem dX5_enterGroups_14 : decode cX5_enterGroups 14 = .ok (.if_icmp .gt 30, 3) := by decide +kernel
theorem dX5_enterGroups_17 : decode cX5_enterGroups 17 = .ok (.aload_n 0, 1) := by decide +kernel
theorem dX5_enterGroups_18 : decode cX5_enterGroups 18 = .ok (.getfield 21, 3) := by decide +kernel
theorem dX5_enterGroups_21 : decode cX5_enterGroups 21 = .ok (.iload 4, 2) := by decide +kernel
theorem dX5_enterGroups_23 : decode cX5_enterGroups 23 = .ok (.iaload, 1) := by decide +kernel
theorem dX5_enterGroups_24 : decode cX5_enterGroups 24 = .ok (.ifCond .eq 14, 3) := by decide +kernel
theorem dX5_enterGroups_27 : decode cX5_enterGroups 27 = .ok (.aload_n 0, 1) := by decide +kernel
theorem dX5_enterGroups_28 : decode cX5_enterGroups 28 = .ok (.aload_n 0, 1) := by decide +kernel
theorem dX5_enterGroups_29 : decode cX5_enterGroups 29 = .ok (.getfield 21, 3) := by decide +kernel
theorem dX5_enterGroups_32 : decode cX5_enterGroups 32 = .ok (.iload 4, 2) := by decide +kernel
theorem dX5_enterGroups_34 : decode cX5_enterGroups 34 = .ok (.iaload, 1) := by decide +kernel
theorem dX5_enterGroups_35 : decode cX5_enterGroups 35 = .ok (.invokevirtual 102, 3) := by decide +kernel
theorem dX5_enterGroups_38 : decode cX5_enterGroups 38 = .ok (.iinc 4 1, 3) := by decide +kernel
theorem dX5_enterGroups_41 : decode cX5_enterGroups 41 = .ok (.goto (-31), 3) := by decide +kernel
theorem dX5_enterGroups_44 : decode cX5_enterGroups 44 = .ok (.return_, 1) := by decide +kernel
theorem dX5_split_0 : decode cX5_split 0 = .ok (.aload_n 0, 1) := by decide +kernel
theorem dX5_split_1 : decode cX5_split 1 = .ok (.getfield 21, 3) := by decide +kernel
theorem dX5_split_4 : decode cX5_split 4 = .ok (.iconst 0, 1) := by decide +kernel
theorem dX5_split_5 : decode cX5_split 5 = .ok (.invokestatic 51, 3) := by decide +kernel
theorem dX5_split_8 : decode cX5_split 8 = .ok (.iconst 0, 1) := by decide +kernel
theorem dX5_split_9 : decode cX5_split 9 = .ok (.istore 4, 2) := by decide +kernel
theorem dX5_split_11 : decode cX5_split 11 = .ok (.iload 4, 2) := by decide +kernel
theorem dX5_split_13 : decode cX5_split 13 = .ok (.aload_n 1, 1) := by decide +kernel
theorem dX5_split_14 : decode cX5_split 14 = .ok (.getfield 81, 3) := by decide +kernel
theorem dX5_split_17 : decode cX5_split 17 = .ok (.if_icmp .ge 58, 3) := by decide +kernel
theorem dX5_split_20 : decode cX5_split 20 = .ok (.aload_n 1, 1) := by decide +kernel
theorem dX5_split_21 : decode cX5_split 21 = .ok (.iload_n 3, 1) := by decide +kernel
theorem dX5_split_22 : decode cX5_split 22 = .ok (.iload 4, 2) := by decide +kernel
theorem dX5_split_24 : decode cX5_split 24 = .ok (.invokevirtual 113, 3) := by decide +kernel
theorem dX5_split_27 : decode cX5_split 27 = .ok (.istore 5, 2) := by decide +kernel
theorem dX5_split_29 : decode cX5_split 29 = .ok (.iload_n 2, 1) := by decide +kernel
theorem dX5_split_30 : decode cX5_split 30 = .ok (.iload 4, 2) := by decide +kernel
theorem dX5_split_32 : decode cX5_split 32 = .ok (.ishr, 1) := by decide +kernel
theorem dX5_split_33 : decode cX5_split 33 = .ok (.iconst 1, 1) := by decide +kernel
theorem dX5_split_34 : decode cX5_split 34 = .ok (.iand, 1) := by decide +kernel
theorem dX5_split_35 : decode cX5_split 35 = .ok (.ifCond .eq 34, 3) := by decide +kernel
theorem dX5_split_38 : decode cX5_split 38 = .ok (.iload 5, 2) := by decide +kernel
theorem dX5_split_40 : decode cX5_split 40 = .ok (.ifCond .lt 29, 3) := by decide +kernel
theorem dX5_split_43 : decode cX5_split 43 = .ok (.iload 5, 2) := by decide +kernel
theorem dX5_split_45 : decode cX5_split 45 = .ok (.bipush 9, 2) := by decide +kernel
theorem dX5_split_47 : decode cX5_split 47 = .ok (.if_icmp .gt 22, 3) := by decide +kernel
theorem dX5_split_50 : decode cX5_split 50 = .ok (.aload_n 0, 1) := by decide +kernel
theorem dX5_split_51 : decode cX5_split 51 = .ok (.getfield 21, 3) := by decide +kernel
theorem dX5_split_54 : decode cX5_split 54 = .ok (.iload 5, 2) := by decide +kernel
theorem dX5_split_56 : decode cX5_split 56 = .ok (.dup2, 1) := by decide +kernel
theorem dX5_split_57 : decode cX5_split 57 = .ok (.iaload, 1) := by decide +kernel
theorem dX5_split_58 : decode cX5_split 58 = .ok (.iconst 1, 1) := by decide +kernel
theorem dX5_split_59 : decode cX5_split 59 = .ok (.aload_n 1, 1) := by decide +kernel
theorem dX5_split_60 : decode cX5_split 60 = .ok (.iload_n 3, 1) := by decide +kernel
theorem dX5_split_61 : decode cX5_split 61 = .ok (.iload 4, 2) := by decide +kernel
theorem dX5_split_63 : decode cX5_split 63 = .ok (.invokevirtual 84, 3) := by decide +kernel
theorem dX5_split_66 : decode cX5_split 66 = .ok (.ishl, 1) := by decide +kernel
theorem dX5_split_67 : decode cX5_split 67 = .ok (.ior, 1) := by decide +kernel
theorem dX5_split_68 : decode cX5_split 68 = .ok (.iastore, 1) := by decide +kernel
theorem dX5_split_69 : decode cX5_split 69 = .ok (.iinc 4 1, 3) := by decide +kernel
theorem dX5_split_72 : decode cX5_split 72 = .ok (.goto (-61), 3) := by decide +kernel
theorem dX5_split_75 : decode cX5_split 75 = .ok (.return_, 1) := by decide +kernel
theorem dX5_worthOf_0 : decode cX5_worthOf 0 = .ok (.iload_n 1, 1) := by decide +kernel
theorem dX5_worthOf_1 : decode cX5_worthOf 1 = .ok (.ifCond .lt 19, 3) := by decide +kernel
theorem dX5_worthOf_4 : decode cX5_worthOf 4 = .ok (.iload_n 1, 1) := by decide +kernel
theorem dX5_worthOf_5 : decode cX5_worthOf 5 = .ok (.sipush 1024, 3) := by decide +kernel
theorem dX5_worthOf_8 : decode cX5_worthOf 8 = .ok (.if_icmp .ge 12, 3) := by decide +kernel
theorem dX5_worthOf_11 : decode cX5_worthOf 11 = .ok (.aload_n 0, 1) := by decide +kernel
theorem dX5_worthOf_12 : decode cX5_worthOf 12 = .ok (.getfield 15, 3) := by decide +kernel
theorem dX5_worthOf_15 : decode cX5_worthOf 15 = .ok (.iload_n 1, 1) := by decide +kernel
theorem dX5_worthOf_16 : decode cX5_worthOf 16 = .ok (.iaload, 1) := by decide +kernel
theorem dX5_worthOf_17 : decode cX5_worthOf 17 = .ok (.goto 6, 3) := by decide +kernel
theorem dX5_worthOf_20 : decode cX5_worthOf 20 = .ok (.sipush 1024, 3) := by decide +kernel
theorem dX5_worthOf_23 : decode cX5_worthOf 23 = .ok (.ireturn, 1) := by decide +kernel
theorem dX5_firstSure_0 : decode cX5_firstSure 0 = .ok (.iconst 0, 1) := by decide +kernel
theorem dX5_firstSure_1 : decode cX5_firstSure 1 = .ok (.istore 4, 2) := by decide +kernel
theorem dX5_firstSure_3 : decode cX5_firstSure 3 = .ok (.iload 4, 2) := by decide +kernel
theorem dX5_firstSure_5 : decode cX5_firstSure 5 = .ok (.bipush 8, 2) := by decide +kernel
theorem dX5_firstSure_7 : decode cX5_firstSure 7 = .ok (.if_icmp .ge 36, 3) := by decide +kernel
theorem dX5_firstSure_10 : decode cX5_firstSure 10 = .ok (.aload_n 0, 1) := by decide +kernel
theorem dX5_firstSure_11 : decode cX5_firstSure 11 = .ok (.getfield 90, 3) := by decide +kernel
theorem dX5_firstSure_14 : decode cX5_firstSure 14 = .ok (.iload 4, 2) := by decide +kernel
theorem dX5_firstSure_16 : decode cX5_firstSure 16 = .ok (.ishr, 1) := by decide +kernel
theorem dX5_firstSure_17 : decode cX5_firstSure 17 = .ok (.iconst 1, 1) := by decide +kernel
theorem dX5_firstSure_18 : decode cX5_firstSure 18 = .ok (.iand, 1) := by decide +kernel
theorem dX5_firstSure_19 : decode cX5_firstSure 19 = .ok (.ifCond .eq 18, 3) := by decide +kernel
theorem dX5_firstSure_22 : decode cX5_firstSure 22 = .ok (.aload_n 0, 1) := by decide +kernel
theorem dX5_firstSure_23 : decode cX5_firstSure 23 = .ok (.aload_n 1, 1) := by decide +kernel
theorem dX5_firstSure_24 : decode cX5_firstSure 24 = .ok (.iload_n 2, 1) := by decide +kernel
theorem dX5_firstSure_25 : decode cX5_firstSure 25 = .ok (.iload 4, 2) := by decide +kernel
theorem dX5_firstSure_27 : decode cX5_firstSure 27 = .ok (.iload_n 3, 1) := by decide +kernel
theorem dX5_firstSure_28 : decode cX5_firstSure 28 = .ok (.invokevirtual 116, 3) := by decide +kernel
theorem dX5_firstSure_31 : decode cX5_firstSure 31 = .ok (.ifCond .eq 6, 3) := by decide +kernel
theorem dX5_firstSure_34 : decode cX5_firstSure 34 = .ok (.iload 4, 2) := by decide +kernel
theorem dX5_firstSure_36 : decode cX5_firstSure 36 = .ok (.ireturn, 1) := by decide +kernel
theorem dX5_firstSure_37 : decode cX5_firstSure 37 = .ok (.iinc 4 1, 3) := by decide +kernel
theorem dX5_firstSure_40 : decode cX5_firstSure 40 = .ok (.goto (-37), 3) := by decide +kernel
theorem dX5_firstSure_43 : decode cX5_firstSure 43 = .ok (.iconst (-1), 1) := by decide +kernel
theorem dX5_firstSure_44 : decode cX5_firstSure 44 = .ok (.ireturn, 1) := by decide +kernel
theorem dX5_needsFewer_0 : decode cX5_needsFewer 0 = .ok (.aload_n 0, 1) := by decide +kernel
theorem dX5_needsFewer_1 : decode cX5_needsFewer 1 = .ok (.aload_n 1, 1) := by decide +kernel
theorem dX5_needsFewer_2 : decode cX5_needsFewer 2 = .ok (.iload_n 2, 1) := by decide +kernel
theorem dX5_needsFewer_3 : decode cX5_needsFewer 3 = .ok (.iload_n 3, 1) := by decide +kernel
theorem dX5_needsFewer_4 : decode cX5_needsFewer 4 = .ok (.invokevirtual 110, 3) := by decide +kernel
theorem dX5_needsFewer_7 : decode cX5_needsFewer 7 = .ok (.iconst 0, 1) := by decide +kernel
theorem dX5_needsFewer_8 : decode cX5_needsFewer 8 = .ok (.istore 5, 2) := by decide +kernel
theorem dX5_needsFewer_10 : decode cX5_needsFewer 10 = .ok (.iload 5, 2) := by decide +kernel
theorem dX5_needsFewer_12 : decode cX5_needsFewer 12 = .ok (.bipush 9, 2) := by decide +kernel
theorem dX5_needsFewer_14 : decode cX5_needsFewer 14 = .ok (.if_icmp .gt 37, 3) := by decide +kernel
theorem dX5_needsFewer_17 : decode cX5_needsFewer 17 = .ok (.aload_n 0, 1) := by decide +kernel
theorem dX5_needsFewer_18 : decode cX5_needsFewer 18 = .ok (.getfield 21, 3) := by decide +kernel
theorem dX5_needsFewer_21 : decode cX5_needsFewer 21 = .ok (.iload 5, 2) := by decide +kernel
theorem dX5_needsFewer_23 : decode cX5_needsFewer 23 = .ok (.iaload, 1) := by decide +kernel
theorem dX5_needsFewer_24 : decode cX5_needsFewer 24 = .ok (.ifCond .eq 21, 3) := by decide +kernel
theorem dX5_needsFewer_27 : decode cX5_needsFewer 27 = .ok (.aload_n 0, 1) := by decide +kernel
theorem dX5_needsFewer_28 : decode cX5_needsFewer 28 = .ok (.aload_n 0, 1) := by decide +kernel
theorem dX5_needsFewer_29 : decode cX5_needsFewer 29 = .ok (.getfield 21, 3) := by decide +kernel
theorem dX5_needsFewer_32 : decode cX5_needsFewer 32 = .ok (.iload 5, 2) := by decide +kernel
theorem dX5_needsFewer_34 : decode cX5_needsFewer 34 = .ok (.iaload, 1) := by decide +kernel
theorem dX5_needsFewer_35 : decode cX5_needsFewer 35 = .ok (.invokevirtual 96, 3) := by decide +kernel
theorem dX5_needsFewer_38 : decode cX5_needsFewer 38 = .ok (.iload 4, 2) := by decide +kernel
theorem dX5_needsFewer_40 : decode cX5_needsFewer 40 = .ok (.if_icmp .lt 5, 3) := by decide +kernel
theorem dX5_needsFewer_43 : decode cX5_needsFewer 43 = .ok (.iconst 0, 1) := by decide +kernel
theorem dX5_needsFewer_44 : decode cX5_needsFewer 44 = .ok (.ireturn, 1) := by decide +kernel
theorem dX5_needsFewer_45 : decode cX5_needsFewer 45 = .ok (.iinc 5 1, 3) := by decide +kernel
theorem dX5_needsFewer_48 : decode cX5_needsFewer 48 = .ok (.goto (-38), 3) := by decide +kernel
theorem dX5_needsFewer_51 : decode cX5_needsFewer 51 = .ok (.iconst 1, 1) := by decide +kernel
theorem dX5_needsFewer_52 : decode cX5_needsFewer 52 = .ok (.ireturn, 1) := by decide +kernel
theorem dX11_logged_0 : decode cX11_logged 0 = .ok (.iload_n 2, 1) := by decide +kernel
theorem dX11_logged_1 : decode cX11_logged 1 = .ok (.ifCond .lt 12, 3) := by decide +kernel
theorem dX11_logged_4 : decode cX11_logged 4 = .ok (.iload_n 2, 1) := by decide +kernel
theorem dX11_logged_5 : decode cX11_logged 5 = .ok (.iconst 2, 1) := by decide +kernel
theorem dX11_logged_6 : decode cX11_logged 6 = .ok (.if_icmp .gt 7, 3) := by decide +kernel
theorem dX11_logged_9 : decode cX11_logged 9 = .ok (.iconst 1, 1) := by decide +kernel
theorem dX11_logged_10 : decode cX11_logged 10 = .ok (.goto 4, 3) := by decide +kernel
theorem dX11_logged_13 : decode cX11_logged 13 = .ok (.iconst 0, 1) := by decide +kernel
theorem dX11_logged_14 : decode cX11_logged 14 = .ok (.istore_n 3, 1) := by decide +kernel
theorem dX11_logged_15 : decode cX11_logged 15 = .ok (.iload_n 3, 1) := by decide +kernel
theorem dX11_logged_16 : decode cX11_logged 16 = .ok (.ifCond .eq 37, 3) := by decide +kernel
theorem dX11_logged_19 : decode cX11_logged 19 = .ok (.iload_n 1, 1) := by decide +kernel
theorem dX11_logged_20 : decode cX11_logged 20 = .ok (.iconst 1, 1) := by decide +kernel
theorem dX11_logged_21 : decode cX11_logged 21 = .ok (.if_icmp .lt 32, 3) := by decide +kernel
theorem dX11_logged_24 : decode cX11_logged 24 = .ok (.iload_n 1, 1) := by decide +kernel
theorem dX11_logged_25 : decode cX11_logged 25 = .ok (.bipush 20, 2) := by decide +kernel
theorem dX11_logged_27 : decode cX11_logged 27 = .ok (.if_icmp .gt 26, 3) := by decide +kernel
theorem dX11_logged_30 : decode cX11_logged 30 = .ok (.aload_n 0, 1) := by decide +kernel
theorem dX11_logged_31 : decode cX11_logged 31 = .ok (.getfield 12, 3) := by decide +kernel
theorem dX11_logged_34 : decode cX11_logged 34 = .ok (.getfield 101, 3) := by decide +kernel
theorem dX11_logged_37 : decode cX11_logged 37 = .ok (.iconst 2, 1) := by decide +kernel
theorem dX11_logged_38 : decode cX11_logged 38 = .ok (.iload_n 1, 1) := by decide +kernel
theorem dX11_logged_39 : decode cX11_logged 39 = .ok (.imul, 1) := by decide +kernel
theorem dX11_logged_40 : decode cX11_logged 40 = .ok (.if_icmp .lt 13, 3) := by decide +kernel
theorem dX11_logged_43 : decode cX11_logged 43 = .ok (.aload_n 0, 1) := by decide +kernel
theorem dX11_logged_44 : decode cX11_logged 44 = .ok (.getfield 42, 3) := by decide +kernel
theorem dX11_logged_47 : decode cX11_logged 47 = .ok (.invokevirtual 144, 3) := by decide +kernel
theorem dX11_logged_50 : decode cX11_logged 50 = .ok (.ifCond .ne 5, 3) := by decide +kernel
theorem dX11_logged_53 : decode cX11_logged 53 = .ok (.iconst (-1), 1) := by decide +kernel
theorem dX11_logged_54 : decode cX11_logged 54 = .ok (.ireturn, 1) := by decide +kernel
theorem dX11_logged_55 : decode cX11_logged 55 = .ok (.aload_n 0, 1) := by decide +kernel
theorem dX11_logged_56 : decode cX11_logged 56 = .ok (.getfield 12, 3) := by decide +kernel
theorem dX11_logged_59 : decode cX11_logged 59 = .ok (.iload_n 1, 1) := by decide +kernel
theorem dX11_logged_60 : decode cX11_logged 60 = .ok (.invokevirtual 248, 3) := by decide +kernel
theorem dX11_logged_63 : decode cX11_logged 63 = .ok (.ifCond .eq 23, 3) := by decide +kernel
theorem dX11_logged_66 : decode cX11_logged 66 = .ok (.aload_n 0, 1) := by decide +kernel
theorem dX11_logged_67 : decode cX11_logged 67 = .ok (.getfield 83, 3) := by decide +kernel
theorem dX11_logged_70 : decode cX11_logged 70 = .ok (.aload_n 0, 1) := by decide +kernel
theorem dX11_logged_71 : decode cX11_logged 71 = .ok (.getfield 42, 3) := by decide +kernel
theorem dX11_logged_74 : decode cX11_logged 74 = .ok (.aload_n 0, 1) := by decide +kernel
theorem dX11_logged_75 : decode cX11_logged 75 = .ok (.getfield 12, 3) := by decide +kernel
theorem dX11_logged_78 : decode cX11_logged 78 = .ok (.iload_n 1, 1) := by decide +kernel
theorem dX11_logged_79 : decode cX11_logged 79 = .ok (.iload_n 2, 1) := by decide +kernel
theorem dX11_logged_80 : decode cX11_logged 80 = .ok (.invokevirtual 251, 3) := by decide +kernel
theorem dX11_logged_83 : decode cX11_logged 83 = .ok (.goto 5, 3) := by decide +kernel
theorem dX11_logged_86 : decode cX11_logged 86 = .ok (.bipush (-3), 2) := by decide +kernel
theorem dX11_logged_88 : decode cX11_logged 88 = .ok (.istore 4, 2) := by decide +kernel
theorem dX11_logged_90 : decode cX11_logged 90 = .ok (.aload_n 0, 1) := by decide +kernel
theorem dX11_logged_91 : decode cX11_logged 91 = .ok (.getfield 12, 3) := by decide +kernel
theorem dX11_logged_94 : decode cX11_logged 94 = .ok (.invokevirtual 121, 3) := by decide +kernel
theorem dX11_logged_97 : decode cX11_logged 97 = .ok (.iload 4, 2) := by decide +kernel
theorem dX11_logged_99 : decode cX11_logged 99 = .ok (.ireturn, 1) := by decide +kernel
theorem dX7_isLog_0 : decode cX7_isLog 0 = .ok (.iconst 0, 1) := by decide +kernel
theorem dX7_isLog_1 : decode cX7_isLog 1 = .ok (.istore_n 2, 1) := by decide +kernel
theorem dX7_isLog_2 : decode cX7_isLog 2 = .ok (.iload_n 2, 1) := by decide +kernel
theorem dX7_isLog_3 : decode cX7_isLog 3 = .ok (.iload_n 1, 1) := by decide +kernel
theorem dX7_isLog_4 : decode cX7_isLog 4 = .ok (.if_icmp .ge 37, 3) := by decide +kernel
theorem dX7_isLog_7 : decode cX7_isLog 7 = .ok (.aload_n 0, 1) := by decide +kernel
theorem dX7_isLog_8 : decode cX7_isLog 8 = .ok (.iconst 2, 1) := by decide +kernel
theorem dX7_isLog_9 : decode cX7_isLog 9 = .ok (.iload_n 2, 1) := by decide +kernel
theorem dX7_isLog_10 : decode cX7_isLog 10 = .ok (.imul, 1) := by decide +kernel
theorem dX7_isLog_11 : decode cX7_isLog 11 = .ok (.invokevirtual 19, 3) := by decide +kernel
theorem dX7_isLog_14 : decode cX7_isLog 14 = .ok (.bipush 8, 2) := by decide +kernel
theorem dX7_isLog_16 : decode cX7_isLog 16 = .ok (.if_icmp .ge 17, 3) := by decide +kernel
theorem dX7_isLog_19 : decode cX7_isLog 19 = .ok (.aload_n 0, 1) := by decide +kernel
theorem dX7_isLog_20 : decode cX7_isLog 20 = .ok (.iconst 2, 1) := by decide +kernel
theorem dX7_isLog_21 : decode cX7_isLog 21 = .ok (.iload_n 2, 1) := by decide +kernel
theorem dX7_isLog_22 : decode cX7_isLog 22 = .ok (.imul, 1) := by decide +kernel
theorem dX7_isLog_23 : decode cX7_isLog 23 = .ok (.iconst 1, 1) := by decide +kernel
theorem dX7_isLog_24 : decode cX7_isLog 24 = .ok (.iadd, 1) := by decide +kernel
theorem dX7_isLog_25 : decode cX7_isLog 25 = .ok (.invokevirtual 19, 3) := by decide +kernel
theorem dX7_isLog_28 : decode cX7_isLog 28 = .ok (.bipush 9, 2) := by decide +kernel
theorem dX7_isLog_30 : decode cX7_isLog 30 = .ok (.if_icmp .le 5, 3) := by decide +kernel
theorem dX7_isLog_33 : decode cX7_isLog 33 = .ok (.iconst 0, 1) := by decide +kernel
theorem dX7_isLog_34 : decode cX7_isLog 34 = .ok (.ireturn, 1) := by decide +kernel
theorem dX7_isLog_35 : decode cX7_isLog 35 = .ok (.iinc 2 1, 3) := by decide +kernel
theorem dX7_isLog_38 : decode cX7_isLog 38 = .ok (.goto (-36), 3) := by decide +kernel
theorem dX7_isLog_41 : decode cX7_isLog 41 = .ok (.iconst 1, 1) := by decide +kernel
theorem dX7_isLog_42 : decode cX7_isLog 42 = .ok (.ireturn, 1) := by decide +kernel
theorem dX5_fitLog_0 : decode cX5_fitLog 0 = .ok (.iconst 0, 1) := by decide +kernel
theorem dX5_fitLog_1 : decode cX5_fitLog 1 = .ok (.istore 5, 2) := by decide +kernel
theorem dX5_fitLog_3 : decode cX5_fitLog 3 = .ok (.iconst 0, 1) := by decide +kernel
theorem dX5_fitLog_4 : decode cX5_fitLog 4 = .ok (.istore 6, 2) := by decide +kernel
theorem dX5_fitLog_6 : decode cX5_fitLog 6 = .ok (.iload_n 3, 1) := by decide +kernel
theorem dX5_fitLog_7 : decode cX5_fitLog 7 = .ok (.istore 7, 2) := by decide +kernel
theorem dX5_fitLog_9 : decode cX5_fitLog 9 = .ok (.iconst 0, 1) := by decide +kernel
theorem dX5_fitLog_10 : decode cX5_fitLog 10 = .ok (.istore 8, 2) := by decide +kernel
theorem dX5_fitLog_12 : decode cX5_fitLog 12 = .ok (.iload 8, 2) := by decide +kernel
theorem dX5_fitLog_14 : decode cX5_fitLog 14 = .ok (.aload_n 1, 1) := by decide +kernel
theorem dX5_fitLog_15 : decode cX5_fitLog 15 = .ok (.getfield 81, 3) := by decide +kernel
theorem dX5_fitLog_18 : decode cX5_fitLog 18 = .ok (.if_icmp .ge 107, 3) := by decide +kernel
theorem dX5_fitLog_21 : decode cX5_fitLog 21 = .ok (.iconst 0, 1) := by decide +kernel
theorem dX5_fitLog_22 : decode cX5_fitLog 22 = .ok (.istore 9, 2) := by decide +kernel
theorem dX5_fitLog_24 : decode cX5_fitLog 24 = .ok (.iload 8, 2) := by decide +kernel
theorem dX5_fitLog_26 : decode cX5_fitLog 26 = .ok (.istore 10, 2) := by decide +kernel
theorem dX5_fitLog_28 : decode cX5_fitLog 28 = .ok (.iconst 0, 1) := by decide +kernel
theorem dX5_fitLog_29 : decode cX5_fitLog 29 = .ok (.istore 11, 2) := by decide +kernel
theorem dX5_fitLog_31 : decode cX5_fitLog 31 = .ok (.iload 11, 2) := by decide +kernel
theorem dX5_fitLog_33 : decode cX5_fitLog 33 = .ok (.iload_n 3, 1) := by decide +kernel
theorem dX5_fitLog_34 : decode cX5_fitLog 34 = .ok (.if_icmp .ge 53, 3) := by decide +kernel
theorem dX5_fitLog_37 : decode cX5_fitLog 37 = .ok (.aload_n 2, 1) := by decide +kernel
theorem dX5_fitLog_38 : decode cX5_fitLog 38 = .ok (.iconst 2, 1) := by decide +kernel
theorem dX5_fitLog_39 : decode cX5_fitLog 39 = .ok (.iload 11, 2) := by decide +kernel
theorem dX5_fitLog_41 : decode cX5_fitLog 41 = .ok (.imul, 1) := by decide +kernel
theorem dX5_fitLog_42 : decode cX5_fitLog 42 = .ok (.invokevirtual 30, 3) := by decide +kernel
theorem dX5_fitLog_45 : decode cX5_fitLog 45 = .ok (.istore 12, 2) := by decide +kernel
theorem dX5_fitLog_47 : decode cX5_fitLog 47 = .ok (.aload_n 1, 1) := by decide +kernel
theorem dX5_fitLog_48 : decode cX5_fitLog 48 = .ok (.iload 12, 2) := by decide +kernel
theorem dX5_fitLog_50 : decode cX5_fitLog 50 = .ok (.iload 10, 2) := by decide +kernel
theorem dX5_fitLog_52 : decode cX5_fitLog 52 = .ok (.invokevirtual 113, 3) := by decide +kernel
theorem dX5_fitLog_55 : decode cX5_fitLog 55 = .ok (.aload_n 2, 1) := by decide +kernel
theorem dX5_fitLog_56 : decode cX5_fitLog 56 = .ok (.iconst 2, 1) := by decide +kernel
theorem dX5_fitLog_57 : decode cX5_fitLog 57 = .ok (.iload 11, 2) := by decide +kernel
theorem dX5_fitLog_59 : decode cX5_fitLog 59 = .ok (.imul, 1) := by decide +kernel
theorem dX5_fitLog_60 : decode cX5_fitLog 60 = .ok (.iconst 1, 1) := by decide +kernel
theorem dX5_fitLog_61 : decode cX5_fitLog 61 = .ok (.iadd, 1) := by decide +kernel
theorem dX5_fitLog_62 : decode cX5_fitLog 62 = .ok (.invokevirtual 30, 3) := by decide +kernel
theorem dX5_fitLog_65 : decode cX5_fitLog 65 = .ok (.if_icmp .eq 6, 3) := by decide +kernel
theorem dX5_fitLog_68 : decode cX5_fitLog 68 = .ok (.iinc 9 1, 3) := by decide +kernel
theorem dX5_fitLog_71 : decode cX5_fitLog 71 = .ok (.aload_n 1, 1) := by decide +kernel
theorem dX5_fitLog_72 : decode cX5_fitLog 72 = .ok (.iload 12, 2) := by decide +kernel
theorem dX5_fitLog_74 : decode cX5_fitLog 74 = .ok (.iload 10, 2) := by decide +kernel
theorem dX5_fitLog_76 : decode cX5_fitLog 76 = .ok (.invokevirtual 84, 3) := by decide +kernel
theorem dX5_fitLog_79 : decode cX5_fitLog 79 = .ok (.istore 10, 2) := by decide +kernel
theorem dX5_fitLog_81 : decode cX5_fitLog 81 = .ok (.iinc 11 1, 3) := by decide +kernel
theorem dX5_fitLog_84 : decode cX5_fitLog 84 = .ok (.goto (-53), 3) := by decide +kernel
theorem dX5_fitLog_87 : decode cX5_fitLog 87 = .ok (.iload 9, 2) := by decide +kernel
theorem dX5_fitLog_89 : decode cX5_fitLog 89 = .ok (.ifCond .ne 21, 3) := by decide +kernel
theorem dX5_fitLog_92 : decode cX5_fitLog 92 = .ok (.iload 5, 2) := by decide +kernel
theorem dX5_fitLog_94 : decode cX5_fitLog 94 = .ok (.iconst 1, 1) := by decide +kernel
theorem dX5_fitLog_95 : decode cX5_fitLog 95 = .ok (.iload 8, 2) := by decide +kernel
theorem dX5_fitLog_97 : decode cX5_fitLog 97 = .ok (.ishl, 1) := by decide +kernel
theorem dX5_fitLog_98 : decode cX5_fitLog 98 = .ok (.ior, 1) := by decide +kernel
theorem dX5_fitLog_99 : decode cX5_fitLog 99 = .ok (.istore 5, 2) := by decide +kernel
theorem dX5_fitLog_101 : decode cX5_fitLog 101 = .ok (.iload 6, 2) := by decide +kernel
theorem dX5_fitLog_103 : decode cX5_fitLog 103 = .ok (.iconst 1, 1) := by decide +kernel
theorem dX5_fitLog_104 : decode cX5_fitLog 104 = .ok (.iload 10, 2) := by decide +kernel
theorem dX5_fitLog_106 : decode cX5_fitLog 106 = .ok (.ishl, 1) := by decide +kernel
theorem dX5_fitLog_107 : decode cX5_fitLog 107 = .ok (.ior, 1) := by decide +kernel
theorem dX5_fitLog_108 : decode cX5_fitLog 108 = .ok (.istore 6, 2) := by decide +kernel
theorem dX5_fitLog_110 : decode cX5_fitLog 110 = .ok (.iload 7, 2) := by decide +kernel
theorem dX5_fitLog_112 : decode cX5_fitLog 112 = .ok (.iload 9, 2) := by decide +kernel
theorem dX5_fitLog_114 : decode cX5_fitLog 114 = .ok (.invokestatic 42, 3) := by decide +kernel
theorem dX5_fitLog_117 : decode cX5_fitLog 117 = .ok (.istore 7, 2) := by decide +kernel
theorem dX5_fitLog_119 : decode cX5_fitLog 119 = .ok (.iinc 8 1, 3) := by decide +kernel
theorem dX5_fitLog_122 : decode cX5_fitLog 122 = .ok (.goto (-110), 3) := by decide +kernel
theorem dX5_fitLog_125 : decode cX5_fitLog 125 = .ok (.iload 4, 2) := by decide +kernel
theorem dX5_fitLog_127 : decode cX5_fitLog 127 = .ok (.ifCond .ne 8, 3) := by decide +kernel
theorem dX5_fitLog_130 : decode cX5_fitLog 130 = .ok (.iload 5, 2) := by decide +kernel
theorem dX5_fitLog_132 : decode cX5_fitLog 132 = .ok (.goto 16, 3) := by decide +kernel
theorem dX5_fitLog_135 : decode cX5_fitLog 135 = .ok (.iload 4, 2) := by decide +kernel
theorem dX5_fitLog_137 : decode cX5_fitLog 137 = .ok (.iconst 1, 1) := by decide +kernel
theorem dX5_fitLog_138 : decode cX5_fitLog 138 = .ok (.if_icmp .ne 8, 3) := by decide +kernel
theorem dX5_fitLog_141 : decode cX5_fitLog 141 = .ok (.iload 6, 2) := by decide +kernel
theorem dX5_fitLog_143 : decode cX5_fitLog 143 = .ok (.goto 5, 3) := by decide +kernel
theorem dX5_fitLog_146 : decode cX5_fitLog 146 = .ok (.iload 7, 2) := by decide +kernel
theorem dX5_fitLog_148 : decode cX5_fitLog 148 = .ok (.ireturn, 1) := by decide +kernel
theorem dX11_next_0 : decode cX11_next 0 = .ok (.aload_n 0, 1) := by decide +kernel
theorem dX11_next_1 : decode cX11_next 1 = .ok (.getfield 42, 3) := by decide +kernel
theorem dX11_next_4 : decode cX11_next 4 = .ok (.iload_n 1, 1) := by decide +kernel
theorem dX11_next_5 : decode cX11_next 5 = .ok (.invokevirtual 239, 3) := by decide +kernel
theorem dX11_next_8 : decode cX11_next 8 = .ok (.ifCond .eq 10, 3) := by decide +kernel
theorem dX11_next_11 : decode cX11_next 11 = .ok (.iload_n 2, 1) := by decide +kernel
theorem dX11_next_12 : decode cX11_next 12 = .ok (.invokestatic 179, 3) := by decide +kernel
theorem dX11_next_15 : decode cX11_next 15 = .ok (.ifCond .ne 5, 3) := by decide +kernel
theorem dX11_next_18 : decode cX11_next 18 = .ok (.iconst (-1), 1) := by decide +kernel
theorem dX11_next_19 : decode cX11_next 19 = .ok (.ireturn, 1) := by decide +kernel
theorem dX11_next_20 : decode cX11_next 20 = .ok (.aload_n 0, 1) := by decide +kernel
theorem dX11_next_21 : decode cX11_next 21 = .ok (.getfield 83, 3) := by decide +kernel
theorem dX11_next_24 : decode cX11_next 24 = .ok (.aload_n 0, 1) := by decide +kernel
theorem dX11_next_25 : decode cX11_next 25 = .ok (.getfield 42, 3) := by decide +kernel
theorem dX11_next_28 : decode cX11_next 28 = .ok (.iload_n 1, 1) := by decide +kernel
theorem dX11_next_29 : decode cX11_next 29 = .ok (.iload_n 2, 1) := by decide +kernel
theorem dX11_next_30 : decode cX11_next 30 = .ok (.invokevirtual 255, 3) := by decide +kernel
theorem dX11_next_33 : decode cX11_next 33 = .ok (.ireturn, 1) := by decide +kernel
theorem dX5_bestSplit_0 : decode cX5_bestSplit 0 = .ok (.iconst (-1), 1) := by decide +kernel
theorem dX5_bestSplit_1 : decode cX5_bestSplit 1 = .ok (.istore 4, 2) := by decide +kernel
theorem dX5_bestSplit_3 : decode cX5_bestSplit 3 = .ok (.bipush 11, 2) := by decide +kernel
theorem dX5_bestSplit_5 : decode cX5_bestSplit 5 = .ok (.istore 5, 2) := by decide +kernel
theorem dX5_bestSplit_7 : decode cX5_bestSplit 7 = .ok (.iconst 0, 1) := by decide +kernel
theorem dX5_bestSplit_8 : decode cX5_bestSplit 8 = .ok (.istore 6, 2) := by decide +kernel
theorem dX5_bestSplit_10 : decode cX5_bestSplit 10 = .ok (.iload 6, 2) := by decide +kernel
theorem dX5_bestSplit_12 : decode cX5_bestSplit 12 = .ok (.bipush 8, 2) := by decide +kernel
theorem dX5_bestSplit_14 : decode cX5_bestSplit 14 = .ok (.if_icmp .ge 34, 3) := by decide +kernel
theorem dX5_bestSplit_17 : decode cX5_bestSplit 17 = .ok (.aload_n 0, 1) := by decide +kernel
theorem dX5_bestSplit_18 : decode cX5_bestSplit 18 = .ok (.aload_n 1, 1) := by decide +kernel
theorem dX5_bestSplit_19 : decode cX5_bestSplit 19 = .ok (.iload_n 2, 1) := by decide +kernel
theorem dX5_bestSplit_20 : decode cX5_bestSplit 20 = .ok (.iload 6, 2) := by decide +kernel
theorem dX5_bestSplit_22 : decode cX5_bestSplit 22 = .ok (.invokevirtual 120, 3) := by decide +kernel
theorem dX5_bestSplit_25 : decode cX5_bestSplit 25 = .ok (.istore 7, 2) := by decide +kernel
theorem dX5_bestSplit_27 : decode cX5_bestSplit 27 = .ok (.iload 7, 2) := by decide +kernel
theorem dX5_bestSplit_29 : decode cX5_bestSplit 29 = .ok (.iload 5, 2) := by decide +kernel
theorem dX5_bestSplit_31 : decode cX5_bestSplit 31 = .ok (.if_icmp .ge 11, 3) := by decide +kernel
theorem dX5_bestSplit_34 : decode cX5_bestSplit 34 = .ok (.iload 6, 2) := by decide +kernel
theorem dX5_bestSplit_36 : decode cX5_bestSplit 36 = .ok (.istore 4, 2) := by decide +kernel
theorem dX5_bestSplit_38 : decode cX5_bestSplit 38 = .ok (.iload 7, 2) := by decide +kernel
theorem dX5_bestSplit_40 : decode cX5_bestSplit 40 = .ok (.istore 5, 2) := by decide +kernel
theorem dX5_bestSplit_42 : decode cX5_bestSplit 42 = .ok (.iinc 6 1, 3) := by decide +kernel
theorem dX5_bestSplit_45 : decode cX5_bestSplit 45 = .ok (.goto (-35), 3) := by decide +kernel
theorem dX5_bestSplit_48 : decode cX5_bestSplit 48 = .ok (.iload_n 3, 1) := by decide +kernel
theorem dX5_bestSplit_49 : decode cX5_bestSplit 49 = .ok (.ifCond .ne 8, 3) := by decide +kernel
theorem dX5_bestSplit_52 : decode cX5_bestSplit 52 = .ok (.iload 4, 2) := by decide +kernel
theorem dX5_bestSplit_54 : decode cX5_bestSplit 54 = .ok (.goto 5, 3) := by decide +kernel
theorem dX5_bestSplit_57 : decode cX5_bestSplit 57 = .ok (.iload 5, 2) := by decide +kernel
theorem dX5_bestSplit_59 : decode cX5_bestSplit 59 = .ok (.ireturn, 1) := by decide +kernel
theorem dX5_greatestGroup_0 : decode cX5_greatestGroup 0 = .ok (.aload_n 0, 1) := by decide +kernel
theorem dX5_greatestGroup_1 : decode cX5_greatestGroup 1 = .ok (.getfield 21, 3) := by decide +kernel
theorem dX5_greatestGroup_4 : decode cX5_greatestGroup 4 = .ok (.iconst 0, 1) := by decide +kernel
theorem dX5_greatestGroup_5 : decode cX5_greatestGroup 5 = .ok (.invokestatic 51, 3) := by decide +kernel
theorem dX5_greatestGroup_8 : decode cX5_greatestGroup 8 = .ok (.iconst 0, 1) := by decide +kernel
theorem dX5_greatestGroup_9 : decode cX5_greatestGroup 9 = .ok (.istore 4, 2) := by decide +kernel
theorem dX5_greatestGroup_11 : decode cX5_greatestGroup 11 = .ok (.iconst 0, 1) := by decide +kernel
theorem dX5_greatestGroup_12 : decode cX5_greatestGroup 12 = .ok (.istore 5, 2) := by decide +kernel
theorem dX5_greatestGroup_14 : decode cX5_greatestGroup 14 = .ok (.iload 5, 2) := by decide +kernel
theorem dX5_greatestGroup_16 : decode cX5_greatestGroup 16 = .ok (.aload_n 1, 1) := by decide +kernel
theorem dX5_greatestGroup_17 : decode cX5_greatestGroup 17 = .ok (.getfield 81, 3) := by decide +kernel
theorem dX5_greatestGroup_20 : decode cX5_greatestGroup 20 = .ok (.if_icmp .ge 64, 3) := by decide +kernel
theorem dX5_greatestGroup_23 : decode cX5_greatestGroup 23 = .ok (.aload_n 1, 1) := by decide +kernel
theorem dX5_greatestGroup_24 : decode cX5_greatestGroup 24 = .ok (.iload_n 3, 1) := by decide +kernel
theorem dX5_greatestGroup_25 : decode cX5_greatestGroup 25 = .ok (.iload 5, 2) := by decide +kernel
theorem dX5_greatestGroup_27 : decode cX5_greatestGroup 27 = .ok (.invokevirtual 113, 3) := by decide +kernel
theorem dX5_greatestGroup_30 : decode cX5_greatestGroup 30 = .ok (.istore 6, 2) := by decide +kernel
theorem dX5_greatestGroup_32 : decode cX5_greatestGroup 32 = .ok (.iload_n 2, 1) := by decide +kernel
theorem dX5_greatestGroup_33 : decode cX5_greatestGroup 33 = .ok (.iload 5, 2) := by decide +kernel
theorem dX5_greatestGroup_35 : decode cX5_greatestGroup 35 = .ok (.ishr, 1) := by decide +kernel
theorem dX5_greatestGroup_36 : decode cX5_greatestGroup 36 = .ok (.iconst 1, 1) := by decide +kernel
theorem dX5_greatestGroup_37 : decode cX5_greatestGroup 37 = .ok (.iand, 1) := by decide +kernel
theorem dX5_greatestGroup_38 : decode cX5_greatestGroup 38 = .ok (.ifCond .eq 40, 3) := by decide +kernel
theorem dX5_greatestGroup_41 : decode cX5_greatestGroup 41 = .ok (.iload 6, 2) := by decide +kernel
theorem dX5_greatestGroup_43 : decode cX5_greatestGroup 43 = .ok (.ifCond .lt 35, 3) := by decide +kernel
theorem dX5_greatestGroup_46 : decode cX5_greatestGroup 46 = .ok (.iload 6, 2) := by decide +kernel
theorem dX5_greatestGroup_48 : decode cX5_greatestGroup 48 = .ok (.bipush 9, 2) := by decide +kernel
theorem dX5_greatestGroup_50 : decode cX5_greatestGroup 50 = .ok (.if_icmp .gt 28, 3) := by decide +kernel
theorem dX5_greatestGroup_53 : decode cX5_greatestGroup 53 = .ok (.aload_n 0, 1) := by decide +kernel
theorem dX5_greatestGroup_54 : decode cX5_greatestGroup 54 = .ok (.getfield 21, 3) := by decide +kernel
theorem dX5_greatestGroup_57 : decode cX5_greatestGroup 57 = .ok (.iload 6, 2) := by decide +kernel
theorem dX5_greatestGroup_59 : decode cX5_greatestGroup 59 = .ok (.dup2, 1) := by decide +kernel
theorem dX5_greatestGroup_60 : decode cX5_greatestGroup 60 = .ok (.iaload, 1) := by decide +kernel
theorem dX5_greatestGroup_61 : decode cX5_greatestGroup 61 = .ok (.iconst 1, 1) := by decide +kernel
theorem dX5_greatestGroup_62 : decode cX5_greatestGroup 62 = .ok (.iadd, 1) := by decide +kernel
theorem dX5_greatestGroup_63 : decode cX5_greatestGroup 63 = .ok (.iastore, 1) := by decide +kernel
theorem dX5_greatestGroup_64 : decode cX5_greatestGroup 64 = .ok (.iload 4, 2) := by decide +kernel
theorem dX5_greatestGroup_66 : decode cX5_greatestGroup 66 = .ok (.aload_n 0, 1) := by decide +kernel
theorem dX5_greatestGroup_67 : decode cX5_greatestGroup 67 = .ok (.getfield 21, 3) := by decide +kernel
theorem dX5_greatestGroup_70 : decode cX5_greatestGroup 70 = .ok (.iload 6, 2) := by decide +kernel
theorem dX5_greatestGroup_72 : decode cX5_greatestGroup 72 = .ok (.iaload, 1) := by decide +kernel
theorem dX5_greatestGroup_73 : decode cX5_greatestGroup 73 = .ok (.invokestatic 48, 3) := by decide +kernel
theorem dX5_greatestGroup_76 : decode cX5_greatestGroup 76 = .ok (.istore 4, 2) := by decide +kernel
theorem dX5_greatestGroup_78 : decode cX5_greatestGroup 78 = .ok (.iinc 5 1, 3) := by decide +kernel
theorem dX5_greatestGroup_81 : decode cX5_greatestGroup 81 = .ok (.goto (-67), 3) := by decide +kernel
theorem dX5_greatestGroup_84 : decode cX5_greatestGroup 84 = .ok (.iload 4, 2) := by decide +kernel
theorem dX5_greatestGroup_86 : decode cX5_greatestGroup 86 = .ok (.ireturn, 1) := by decide +kernel
theorem dX11_odds_0 : decode cX11_odds 0 = .ok (.iload_n 1, 1) := by decide +kernel
theorem dX11_odds_1 : decode cX11_odds 1 = .ok (.iconst 1, 1) := by decide +kernel
theorem dX11_odds_2 : decode cX11_odds 2 = .ok (.if_icmp .lt 30, 3) := by decide +kernel
theorem dX11_odds_5 : decode cX11_odds 5 = .ok (.iload_n 1, 1) := by decide +kernel
theorem dX11_odds_6 : decode cX11_odds 6 = .ok (.bipush 20, 2) := by decide +kernel
theorem dX11_odds_8 : decode cX11_odds 8 = .ok (.if_icmp .gt 24, 3) := by decide +kernel
theorem dX11_odds_11 : decode cX11_odds 11 = .ok (.iload_n 2, 1) := by decide +kernel
theorem dX11_odds_12 : decode cX11_odds 12 = .ok (.ifCond .lt 20, 3) := by decide +kernel
theorem dX11_odds_15 : decode cX11_odds 15 = .ok (.iload_n 2, 1) := by decide +kernel
theorem dX11_odds_16 : decode cX11_odds 16 = .ok (.bipush 9, 2) := by decide +kernel
theorem dX11_odds_18 : decode cX11_odds 18 = .ok (.if_icmp .gt 14, 3) := by decide +kernel
theorem dX11_odds_21 : decode cX11_odds 21 = .ok (.iload_n 3, 1) := by decide +kernel
theorem dX11_odds_22 : decode cX11_odds 22 = .ok (.invokestatic 179, 3) := by decide +kernel
theorem dX11_odds_25 : decode cX11_odds 25 = .ok (.ifCond .eq 7, 3) := by decide +kernel
theorem dX11_odds_28 : decode cX11_odds 28 = .ok (.iconst 1, 1) := by decide +kernel
theorem dX11_odds_29 : decode cX11_odds 29 = .ok (.goto 4, 3) := by decide +kernel
theorem dX11_odds_32 : decode cX11_odds 32 = .ok (.iconst 0, 1) := by decide +kernel
theorem dX11_odds_33 : decode cX11_odds 33 = .ok (.istore 4, 2) := by decide +kernel
theorem dX11_odds_35 : decode cX11_odds 35 = .ok (.iload 4, 2) := by decide +kernel
theorem dX11_odds_37 : decode cX11_odds 37 = .ok (.ifCond .eq 32, 3) := by decide +kernel
theorem dX11_odds_40 : decode cX11_odds 40 = .ok (.aload_n 0, 1) := by decide +kernel
theorem dX11_odds_41 : decode cX11_odds 41 = .ok (.getfield 42, 3) := by decide +kernel
theorem dX11_odds_44 : decode cX11_odds 44 = .ok (.invokevirtual 144, 3) := by decide +kernel
theorem dX11_odds_47 : decode cX11_odds 47 = .ok (.ifCond .eq 22, 3) := by decide +kernel
theorem dX11_odds_50 : decode cX11_odds 50 = .ok (.aload_n 0, 1) := by decide +kernel
theorem dX11_odds_51 : decode cX11_odds 51 = .ok (.getfield 12, 3) := by decide +kernel
theorem dX11_odds_54 : decode cX11_odds 54 = .ok (.getfield 101, 3) := by decide +kernel
theorem dX11_odds_57 : decode cX11_odds 57 = .ok (.iload_n 1, 1) := by decide +kernel
theorem dX11_odds_58 : decode cX11_odds 58 = .ok (.aload_n 0, 1) := by decide +kernel
theorem dX11_odds_59 : decode cX11_odds 59 = .ok (.getfield 42, 3) := by decide +kernel
theorem dX11_odds_62 : decode cX11_odds 62 = .ok (.getfield 141, 3) := by decide +kernel
theorem dX11_odds_65 : decode cX11_odds 65 = .ok (.iadd, 1) := by decide +kernel
theorem dX11_odds_66 : decode cX11_odds 66 = .ok (.if_icmp .ge 5, 3) := by decide +kernel
theorem dX11_odds_69 : decode cX11_odds 69 = .ok (.iconst (-1), 1) := by decide +kernel
theorem dX11_odds_70 : decode cX11_odds 70 = .ok (.ireturn, 1) := by decide +kernel
theorem dX11_odds_71 : decode cX11_odds 71 = .ok (.aload_n 0, 1) := by decide +kernel
theorem dX11_odds_72 : decode cX11_odds 72 = .ok (.getfield 12, 3) := by decide +kernel
theorem dX11_odds_75 : decode cX11_odds 75 = .ok (.iconst 0, 1) := by decide +kernel
theorem dX11_odds_76 : decode cX11_odds 76 = .ok (.iload_n 1, 1) := by decide +kernel
theorem dX11_odds_77 : decode cX11_odds 77 = .ok (.bipush 8, 2) := by decide +kernel
theorem dX11_odds_79 : decode cX11_odds 79 = .ok (.invokevirtual 192, 3) := by decide +kernel
theorem dX11_odds_82 : decode cX11_odds 82 = .ok (.ifCond .eq 29, 3) := by decide +kernel
theorem dX11_odds_85 : decode cX11_odds 85 = .ok (.aload_n 0, 1) := by decide +kernel
theorem dX11_odds_86 : decode cX11_odds 86 = .ok (.getfield 12, 3) := by decide +kernel
theorem dX11_odds_89 : decode cX11_odds 89 = .ok (.iload_n 1, 1) := by decide +kernel
theorem dX11_odds_90 : decode cX11_odds 90 = .ok (.iload_n 1, 1) := by decide +kernel
theorem dX11_odds_91 : decode cX11_odds 91 = .ok (.aload_n 0, 1) := by decide +kernel
theorem dX11_odds_92 : decode cX11_odds 92 = .ok (.getfield 42, 3) := by decide +kernel
theorem dX11_odds_95 : decode cX11_odds 95 = .ok (.getfield 141, 3) := by decide +kernel
theorem dX11_odds_98 : decode cX11_odds 98 = .ok (.iadd, 1) := by decide +kernel
theorem dX11_odds_99 : decode cX11_odds 99 = .ok (.bipush 26, 2) := by decide +kernel
theorem dX11_odds_101 : decode cX11_odds 101 = .ok (.invokevirtual 192, 3) := by decide +kernel
theorem dX11_odds_104 : decode cX11_odds 104 = .ok (.ifCond .eq 7, 3) := by decide +kernel
theorem dX11_odds_107 : decode cX11_odds 107 = .ok (.iconst 1, 1) := by decide +kernel
theorem dX11_odds_108 : decode cX11_odds 108 = .ok (.goto 4, 3) := by decide +kernel
theorem dX11_odds_111 : decode cX11_odds 111 = .ok (.iconst 0, 1) := by decide +kernel
theorem dX11_odds_112 : decode cX11_odds 112 = .ok (.istore 5, 2) := by decide +kernel
theorem dX11_odds_114 : decode cX11_odds 114 = .ok (.iload 5, 2) := by decide +kernel
theorem dX11_odds_116 : decode cX11_odds 116 = .ok (.ifCond .eq 24, 3) := by decide +kernel
theorem dX11_odds_119 : decode cX11_odds 119 = .ok (.aload_n 0, 1) := by decide +kernel
theorem dX11_odds_120 : decode cX11_odds 120 = .ok (.getfield 83, 3) := by decide +kernel
theorem dX11_odds_123 : decode cX11_odds 123 = .ok (.aload_n 0, 1) := by decide +kernel
theorem dX11_odds_124 : decode cX11_odds 124 = .ok (.getfield 42, 3) := by decide +kernel
theorem dX11_odds_127 : decode cX11_odds 127 = .ok (.aload_n 0, 1) := by decide +kernel
theorem dX11_odds_128 : decode cX11_odds 128 = .ok (.getfield 12, 3) := by decide +kernel
theorem dX11_odds_131 : decode cX11_odds 131 = .ok (.iload_n 1, 1) := by decide +kernel
theorem dX11_odds_132 : decode cX11_odds 132 = .ok (.iload_n 2, 1) := by decide +kernel
theorem dX11_odds_133 : decode cX11_odds 133 = .ok (.iload_n 3, 1) := by decide +kernel
theorem dX11_odds_134 : decode cX11_odds 134 = .ok (.invokevirtual 258, 3) := by decide +kernel
theorem dX11_odds_137 : decode cX11_odds 137 = .ok (.goto 5, 3) := by decide +kernel
theorem dX11_odds_140 : decode cX11_odds 140 = .ok (.bipush (-3), 2) := by decide +kernel
theorem dX11_odds_142 : decode cX11_odds 142 = .ok (.istore 6, 2) := by decide +kernel
theorem dX11_odds_144 : decode cX11_odds 144 = .ok (.aload_n 0, 1) := by decide +kernel
theorem dX11_odds_145 : decode cX11_odds 145 = .ok (.getfield 12, 3) := by decide +kernel
theorem dX11_odds_148 : decode cX11_odds 148 = .ok (.invokevirtual 121, 3) := by decide +kernel
theorem dX11_odds_151 : decode cX11_odds 151 = .ok (.iload 6, 2) := by decide +kernel
theorem dX11_odds_153 : decode cX11_odds 153 = .ok (.ireturn, 1) := by decide +kernel
theorem dX5_share_0 : decode cX5_share 0 = .ok (.iconst 0, 1) := by decide +kernel
theorem dX5_share_1 : decode cX5_share 1 = .ok (.istore 6, 2) := by decide +kernel
theorem dX5_share_3 : decode cX5_share 3 = .ok (.iconst 0, 1) := by decide +kernel
theorem dX5_share_4 : decode cX5_share 4 = .ok (.istore 7, 2) := by decide +kernel
theorem dX5_share_6 : decode cX5_share 6 = .ok (.iconst 0, 1) := by decide +kernel
theorem dX5_share_7 : decode cX5_share 7 = .ok (.istore 8, 2) := by decide +kernel
theorem dX5_share_9 : decode cX5_share 9 = .ok (.iload 8, 2) := by decide +kernel
theorem dX5_share_11 : decode cX5_share 11 = .ok (.aload_n 1, 1) := by decide +kernel
theorem dX5_share_12 : decode cX5_share 12 = .ok (.getfield 81, 3) := by decide +kernel
theorem dX5_share_15 : decode cX5_share 15 = .ok (.if_icmp .ge 94, 3) := by decide +kernel
theorem dX5_share_18 : decode cX5_share 18 = .ok (.aload_n 2, 1) := by decide +kernel
theorem dX5_share_19 : decode cX5_share 19 = .ok (.iload_n 3, 1) := by decide +kernel
theorem dX5_share_20 : decode cX5_share 20 = .ok (.iload 8, 2) := by decide +kernel
theorem dX5_share_22 : decode cX5_share 22 = .ok (.iadd, 1) := by decide +kernel
theorem dX5_share_23 : decode cX5_share 23 = .ok (.invokevirtual 30, 3) := by decide +kernel
theorem dX5_share_26 : decode cX5_share 26 = .ok (.istore 9, 2) := by decide +kernel
theorem dX5_share_28 : decode cX5_share 28 = .ok (.iload 8, 2) := by decide +kernel
theorem dX5_share_30 : decode cX5_share 30 = .ok (.istore 10, 2) := by decide +kernel
theorem dX5_share_32 : decode cX5_share 32 = .ok (.iconst 0, 1) := by decide +kernel
theorem dX5_share_33 : decode cX5_share 33 = .ok (.istore 11, 2) := by decide +kernel
theorem dX5_share_35 : decode cX5_share 35 = .ok (.iconst 0, 1) := by decide +kernel
theorem dX5_share_36 : decode cX5_share 36 = .ok (.istore 12, 2) := by decide +kernel
theorem dX5_share_38 : decode cX5_share 38 = .ok (.iload 12, 2) := by decide +kernel
theorem dX5_share_40 : decode cX5_share 40 = .ok (.iload_n 3, 1) := by decide +kernel
theorem dX5_share_41 : decode cX5_share 41 = .ok (.if_icmp .ge 37, 3) := by decide +kernel
theorem dX5_share_44 : decode cX5_share 44 = .ok (.aload_n 2, 1) := by decide +kernel
theorem dX5_share_45 : decode cX5_share 45 = .ok (.iload 12, 2) := by decide +kernel
theorem dX5_share_47 : decode cX5_share 47 = .ok (.invokevirtual 30, 3) := by decide +kernel
theorem dX5_share_50 : decode cX5_share 50 = .ok (.istore 13, 2) := by decide +kernel
theorem dX5_share_52 : decode cX5_share 52 = .ok (.aload_n 1, 1) := by decide +kernel
theorem dX5_share_53 : decode cX5_share 53 = .ok (.iload 13, 2) := by decide +kernel
theorem dX5_share_55 : decode cX5_share 55 = .ok (.iload 10, 2) := by decide +kernel
theorem dX5_share_57 : decode cX5_share 57 = .ok (.invokevirtual 113, 3) := by decide +kernel
theorem dX5_share_60 : decode cX5_share 60 = .ok (.istore 11, 2) := by decide +kernel
theorem dX5_share_62 : decode cX5_share 62 = .ok (.aload_n 1, 1) := by decide +kernel
theorem dX5_share_63 : decode cX5_share 63 = .ok (.iload 13, 2) := by decide +kernel
theorem dX5_share_65 : decode cX5_share 65 = .ok (.iload 10, 2) := by decide +kernel
theorem dX5_share_67 : decode cX5_share 67 = .ok (.invokevirtual 84, 3) := by decide +kernel
theorem dX5_share_70 : decode cX5_share 70 = .ok (.istore 10, 2) := by decide +kernel
theorem dX5_share_72 : decode cX5_share 72 = .ok (.iinc 12 1, 3) := by decide +kernel
theorem dX5_share_75 : decode cX5_share 75 = .ok (.goto (-37), 3) := by decide +kernel
theorem dX5_share_78 : decode cX5_share 78 = .ok (.iload 7, 2) := by decide +kernel
theorem dX5_share_80 : decode cX5_share 80 = .ok (.iload 9, 2) := by decide +kernel
theorem dX5_share_82 : decode cX5_share 82 = .ok (.iadd, 1) := by decide +kernel
theorem dX5_share_83 : decode cX5_share 83 = .ok (.istore 7, 2) := by decide +kernel
theorem dX5_share_85 : decode cX5_share 85 = .ok (.iload 6, 2) := by decide +kernel
theorem dX5_share_87 : decode cX5_share 87 = .ok (.iload 11, 2) := by decide +kernel
theorem dX5_share_89 : decode cX5_share 89 = .ok (.iload 4, 2) := by decide +kernel
theorem dX5_share_91 : decode cX5_share 91 = .ok (.if_icmp .ne 8, 3) := by decide +kernel
theorem dX5_share_94 : decode cX5_share 94 = .ok (.iload 9, 2) := by decide +kernel
theorem dX5_share_96 : decode cX5_share 96 = .ok (.goto 4, 3) := by decide +kernel
theorem dX5_share_99 : decode cX5_share 99 = .ok (.iconst 0, 1) := by decide +kernel
theorem dX5_share_100 : decode cX5_share 100 = .ok (.iadd, 1) := by decide +kernel
theorem dX5_share_101 : decode cX5_share 101 = .ok (.istore 6, 2) := by decide +kernel
theorem dX5_share_103 : decode cX5_share 103 = .ok (.iinc 8 1, 3) := by decide +kernel
theorem dX5_share_106 : decode cX5_share 106 = .ok (.goto (-97), 3) := by decide +kernel
theorem dX5_share_109 : decode cX5_share 109 = .ok (.iload 6, 2) := by decide +kernel
theorem dX5_share_111 : decode cX5_share 111 = .ok (.iload 7, 2) := by decide +kernel
theorem dX5_share_113 : decode cX5_share 113 = .ok (.invokestatic 123, 3) := by decide +kernel
theorem dX5_share_116 : decode cX5_share 116 = .ok (.istore 8, 2) := by decide +kernel
theorem dX5_share_118 : decode cX5_share 118 = .ok (.iload 7, 2) := by decide +kernel
theorem dX5_share_120 : decode cX5_share 120 = .ok (.ifCond .le 8, 3) := by decide +kernel
theorem dX5_share_123 : decode cX5_share 123 = .ok (.iload 8, 2) := by decide +kernel
theorem dX5_share_125 : decode cX5_share 125 = .ok (.ifCond .gt 6, 3) := by decide +kernel
theorem dX5_share_128 : decode cX5_share 128 = .ok (.bipush (-2), 2) := by decide +kernel
theorem dX5_share_130 : decode cX5_share 130 = .ok (.ireturn, 1) := by decide +kernel
theorem dX5_share_131 : decode cX5_share 131 = .ok (.iload 5, 2) := by decide +kernel
theorem dX5_share_133 : decode cX5_share 133 = .ok (.ifCond .ne 8, 3) := by decide +kernel
theorem dX5_share_136 : decode cX5_share 136 = .ok (.iload 6, 2) := by decide +kernel
theorem dX5_share_138 : decode cX5_share 138 = .ok (.goto 5, 3) := by decide +kernel
theorem dX5_share_141 : decode cX5_share 141 = .ok (.iload 7, 2) := by decide +kernel
theorem dX5_share_143 : decode cX5_share 143 = .ok (.iload 8, 2) := by decide +kernel
theorem dX5_share_145 : decode cX5_share 145 = .ok (.idiv, 1) := by decide +kernel
theorem dX5_share_146 : decode cX5_share 146 = .ok (.ireturn, 1) := by decide +kernel
theorem dX5_commonDivisor_0 : decode cX5_commonDivisor 0 = .ok (.iload_n 1, 1) := by decide +kernel
theorem dX5_commonDivisor_1 : decode cX5_commonDivisor 1 = .ok (.istore_n 2, 1) := by decide +kernel
theorem dX5_commonDivisor_2 : decode cX5_commonDivisor 2 = .ok (.iload_n 0, 1) := by decide +kernel
theorem dX5_commonDivisor_3 : decode cX5_commonDivisor 3 = .ok (.istore_n 3, 1) := by decide +kernel
theorem dX5_commonDivisor_4 : decode cX5_commonDivisor 4 = .ok (.iconst 0, 1) := by decide +kernel
theorem dX5_commonDivisor_5 : decode cX5_commonDivisor 5 = .ok (.istore 4, 2) := by decide +kernel
theorem dX5_commonDivisor_7 : decode cX5_commonDivisor 7 = .ok (.iload 4, 2) := by decide +kernel
theorem dX5_commonDivisor_9 : decode cX5_commonDivisor 9 = .ok (.sipush 250, 3) := by decide +kernel
theorem dX5_commonDivisor_12 : decode cX5_commonDivisor 12 = .ok (.if_icmp .ge 23, 3) := by decide +kernel
theorem dX5_commonDivisor_15 : decode cX5_commonDivisor 15 = .ok (.iload_n 3, 1) := by decide +kernel
theorem dX5_commonDivisor_16 : decode cX5_commonDivisor 16 = .ok (.ifCond .le 19, 3) := by decide +kernel
theorem dX5_commonDivisor_19 : decode cX5_commonDivisor 19 = .ok (.iload_n 2, 1) := by decide +kernel
theorem dX5_commonDivisor_20 : decode cX5_commonDivisor 20 = .ok (.iload_n 3, 1) := by decide +kernel
theorem dX5_commonDivisor_21 : decode cX5_commonDivisor 21 = .ok (.irem, 1) := by decide +kernel
theorem dX5_commonDivisor_22 : decode cX5_commonDivisor 22 = .ok (.istore 5, 2) := by decide +kernel
theorem dX5_commonDivisor_24 : decode cX5_commonDivisor 24 = .ok (.iload_n 3, 1) := by decide +kernel
theorem dX5_commonDivisor_25 : decode cX5_commonDivisor 25 = .ok (.istore_n 2, 1) := by decide +kernel
theorem dX5_commonDivisor_26 : decode cX5_commonDivisor 26 = .ok (.iload 5, 2) := by decide +kernel
theorem dX5_commonDivisor_28 : decode cX5_commonDivisor 28 = .ok (.istore_n 3, 1) := by decide +kernel
theorem dX5_commonDivisor_29 : decode cX5_commonDivisor 29 = .ok (.iinc 4 1, 3) := by decide +kernel
