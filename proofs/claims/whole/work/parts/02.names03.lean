theorem dX11_best_8 : decode cX11_best 8 = .ok (.ifCond .eq 18, 3) := by decide +kernel
theorem dX11_best_11 : decode cX11_best 11 = .ok (.aload_n 0, 1) := by decide +kernel
theorem dX11_best_12 : decode cX11_best 12 = .ok (.getfield 19, 3) := by decide +kernel
theorem dX11_best_15 : decode cX11_best 15 = .ok (.aload_n 0, 1) := by decide +kernel
theorem dX11_best_16 : decode cX11_best 16 = .ok (.getfield 10, 3) := by decide +kernel
theorem dX11_best_19 : decode cX11_best 19 = .ok (.iload_n 1, 1) := by decide +kernel
theorem dX11_best_20 : decode cX11_best 20 = .ok (.invokevirtual 215, 3) := by decide +kernel
theorem dX11_best_23 : decode cX11_best 23 = .ok (.goto 4, 3) := by decide +kernel
theorem dX11_best_26 : decode cX11_best 26 = .ok (.iconst (-1), 1) := by decide +kernel
theorem dX11_best_27 : decode cX11_best 27 = .ok (.ireturn, 1) := by decide +kernel
theorem dX11_many_0 : decode cX11_many 0 = .ok (.aload_n 0, 1) := by decide +kernel
theorem dX11_many_1 : decode cX11_many 1 = .ok (.getfield 19, 3) := by decide +kernel
theorem dX11_many_4 : decode cX11_many 4 = .ok (.aload_n 0, 1) := by decide +kernel
theorem dX11_many_5 : decode cX11_many 5 = .ok (.getfield 10, 3) := by decide +kernel
theorem dX11_many_8 : decode cX11_many 8 = .ok (.invokevirtual 218, 3) := by decide +kernel
theorem dX11_many_11 : decode cX11_many 11 = .ok (.ireturn, 1) := by decide +kernel
theorem dX11_fixed_0 : decode cX11_fixed 0 = .ok (.aload_n 0, 1) := by decide +kernel
theorem dX11_fixed_1 : decode cX11_fixed 1 = .ok (.getfield 10, 3) := by decide +kernel
theorem dX11_fixed_4 : decode cX11_fixed 4 = .ok (.iload_n 1, 1) := by decide +kernel
theorem dX11_fixed_5 : decode cX11_fixed 5 = .ok (.invokevirtual 93, 3) := by decide +kernel
theorem dX11_fixed_8 : decode cX11_fixed 8 = .ok (.ifCond .eq 19, 3) := by decide +kernel
theorem dX11_fixed_11 : decode cX11_fixed 11 = .ok (.aload_n 0, 1) := by decide +kernel
theorem dX11_fixed_12 : decode cX11_fixed 12 = .ok (.getfield 10, 3) := by decide +kernel
theorem dX11_fixed_15 : decode cX11_fixed 15 = .ok (.iload_n 2, 1) := by decide +kernel
theorem dX11_fixed_16 : decode cX11_fixed 16 = .ok (.invokevirtual 93, 3) := by decide +kernel
theorem dX11_fixed_19 : decode cX11_fixed 19 = .ok (.ifCond .eq 8, 3) := by decide +kernel
theorem dX11_fixed_22 : decode cX11_fixed 22 = .ok (.iload_n 1, 1) := by decide +kernel
theorem dX11_fixed_23 : decode cX11_fixed 23 = .ok (.iload_n 2, 1) := by decide +kernel
theorem dX11_fixed_24 : decode cX11_fixed 24 = .ok (.if_icmp .ne 5, 3) := by decide +kernel
theorem dX11_fixed_27 : decode cX11_fixed 27 = .ok (.iconst (-1), 1) := by decide +kernel
theorem dX11_fixed_28 : decode cX11_fixed 28 = .ok (.ireturn, 1) := by decide +kernel
theorem dX11_fixed_29 : decode cX11_fixed 29 = .ok (.aload_n 0, 1) := by decide +kernel
theorem dX11_fixed_30 : decode cX11_fixed 30 = .ok (.getfield 19, 3) := by decide +kernel
theorem dX11_fixed_33 : decode cX11_fixed 33 = .ok (.aload_n 0, 1) := by decide +kernel
theorem dX11_fixed_34 : decode cX11_fixed 34 = .ok (.getfield 10, 3) := by decide +kernel
theorem dX11_fixed_37 : decode cX11_fixed 37 = .ok (.iload_n 2, 1) := by decide +kernel
theorem dX11_fixed_38 : decode cX11_fixed 38 = .ok (.iload_n 1, 1) := by decide +kernel
theorem dX11_fixed_39 : decode cX11_fixed 39 = .ok (.invokevirtual 221, 3) := by decide +kernel
theorem dX11_fixed_42 : decode cX11_fixed 42 = .ok (.ifCond .ne 7, 3) := by decide +kernel
theorem dX11_fixed_45 : decode cX11_fixed 45 = .ok (.iconst 1, 1) := by decide +kernel
theorem dX11_fixed_46 : decode cX11_fixed 46 = .ok (.goto 4, 3) := by decide +kernel
theorem dX11_fixed_49 : decode cX11_fixed 49 = .ok (.iconst 0, 1) := by decide +kernel
theorem dX11_fixed_50 : decode cX11_fixed 50 = .ok (.invokestatic 153, 3) := by decide +kernel
theorem dX11_fixed_53 : decode cX11_fixed 53 = .ok (.ireturn, 1) := by decide +kernel
theorem dX11_series_0 : decode cX11_series 0 = .ok (.aload_n 0, 1) := by decide +kernel
theorem dX11_series_1 : decode cX11_series 1 = .ok (.getfield 10, 3) := by decide +kernel
theorem dX11_series_4 : decode cX11_series 4 = .ok (.invokevirtual 225, 3) := by decide +kernel
theorem dX11_series_7 : decode cX11_series 7 = .ok (.iconst (-1), 1) := by decide +kernel
theorem dX11_series_8 : decode cX11_series 8 = .ok (.if_icmp .ne 7, 3) := by decide +kernel
theorem dX11_series_11 : decode cX11_series 11 = .ok (.iconst 1, 1) := by decide +kernel
theorem dX11_series_12 : decode cX11_series 12 = .ok (.goto 4, 3) := by decide +kernel
theorem dX11_series_15 : decode cX11_series 15 = .ok (.iconst 0, 1) := by decide +kernel
theorem dX11_series_16 : decode cX11_series 16 = .ok (.invokestatic 153, 3) := by decide +kernel
theorem dX11_series_19 : decode cX11_series 19 = .ok (.ireturn, 1) := by decide +kernel
theorem dX11_shows_0 : decode cX11_shows 0 = .ok (.aload_n 0, 1) := by decide +kernel
theorem dX11_shows_1 : decode cX11_shows 1 = .ok (.getfield 10, 3) := by decide +kernel
theorem dX11_shows_4 : decode cX11_shows 4 = .ok (.invokevirtual 225, 3) := by decide +kernel
theorem dX11_shows_7 : decode cX11_shows 7 = .ok (.istore_n 2, 1) := by decide +kernel
theorem dX11_shows_8 : decode cX11_shows 8 = .ok (.iload_n 2, 1) := by decide +kernel
theorem dX11_shows_9 : decode cX11_shows 9 = .ok (.iconst (-1), 1) := by decide +kernel
theorem dX11_shows_10 : decode cX11_shows 10 = .ok (.if_icmp .eq 12, 3) := by decide +kernel
theorem dX11_shows_13 : decode cX11_shows 13 = .ok (.iload_n 1, 1) := by decide +kernel
theorem dX11_shows_14 : decode cX11_shows 14 = .ok (.ifCond .lt 8, 3) := by decide +kernel
theorem dX11_shows_17 : decode cX11_shows 17 = .ok (.iload_n 1, 1) := by decide +kernel
theorem dX11_shows_18 : decode cX11_shows 18 = .ok (.iconst 3, 1) := by decide +kernel
theorem dX11_shows_19 : decode cX11_shows 19 = .ok (.if_icmp .le 5, 3) := by decide +kernel
theorem dX11_shows_22 : decode cX11_shows 22 = .ok (.iconst (-1), 1) := by decide +kernel
theorem dX11_shows_23 : decode cX11_shows 23 = .ok (.ireturn, 1) := by decide +kernel
theorem dX11_shows_24 : decode cX11_shows 24 = .ok (.iload_n 2, 1) := by decide +kernel
theorem dX11_shows_25 : decode cX11_shows 25 = .ok (.iload_n 1, 1) := by decide +kernel
theorem dX11_shows_26 : decode cX11_shows 26 = .ok (.invokestatic 228, 3) := by decide +kernel
theorem dX11_shows_29 : decode cX11_shows 29 = .ok (.ireturn, 1) := by decide +kernel
theorem dX11_turned_0 : decode cX11_turned 0 = .ok (.iconst 0, 1) := by decide +kernel
theorem dX11_turned_1 : decode cX11_turned 1 = .ok (.istore_n 1, 1) := by decide +kernel
theorem dX11_turned_2 : decode cX11_turned 2 = .ok (.iload_n 1, 1) := by decide +kernel
theorem dX11_turned_3 : decode cX11_turned 3 = .ok (.aload_n 0, 1) := by decide +kernel
theorem dX11_turned_4 : decode cX11_turned 4 = .ok (.getfield 10, 3) := by decide +kernel
theorem dX11_turned_7 : decode cX11_turned 7 = .ok (.invokevirtual 157, 3) := by decide +kernel
theorem dX11_turned_10 : decode cX11_turned 10 = .ok (.if_icmp .ge 23, 3) := by decide +kernel
theorem dX11_turned_13 : decode cX11_turned 13 = .ok (.aload_n 0, 1) := by decide +kernel
theorem dX11_turned_14 : decode cX11_turned 14 = .ok (.getfield 10, 3) := by decide +kernel
theorem dX11_turned_17 : decode cX11_turned 17 = .ok (.iload_n 1, 1) := by decide +kernel
theorem dX11_turned_18 : decode cX11_turned 18 = .ok (.iconst 1, 1) := by decide +kernel
theorem dX11_turned_19 : decode cX11_turned 19 = .ok (.invokevirtual 97, 3) := by decide +kernel
theorem dX11_turned_22 : decode cX11_turned 22 = .ok (.ifCond .ne 5, 3) := by decide +kernel
theorem dX11_turned_25 : decode cX11_turned 25 = .ok (.iconst (-1), 1) := by decide +kernel
theorem dX11_turned_26 : decode cX11_turned 26 = .ok (.ireturn, 1) := by decide +kernel
theorem dX11_turned_27 : decode cX11_turned 27 = .ok (.iinc 1 1, 3) := by decide +kernel
theorem dX11_turned_30 : decode cX11_turned 30 = .ok (.goto (-28), 3) := by decide +kernel
theorem dX11_turned_33 : decode cX11_turned 33 = .ok (.aload_n 0, 1) := by decide +kernel
theorem dX11_turned_34 : decode cX11_turned 34 = .ok (.getfield 19, 3) := by decide +kernel
theorem dX11_turned_37 : decode cX11_turned 37 = .ok (.aload_n 0, 1) := by decide +kernel
theorem dX11_turned_38 : decode cX11_turned 38 = .ok (.getfield 10, 3) := by decide +kernel
theorem dX11_turned_41 : decode cX11_turned 41 = .ok (.invokevirtual 212, 3) := by decide +kernel
theorem dX11_turned_44 : decode cX11_turned 44 = .ok (.ireturn, 1) := by decide +kernel
theorem dX11_act_0 : decode cX11_act 0 = .ok (.aload_n 0, 1) := by decide +kernel
theorem dX11_act_1 : decode cX11_act 1 = .ok (.getfield 10, 3) := by decide +kernel
theorem dX11_act_4 : decode cX11_act 4 = .ok (.iload_n 1, 1) := by decide +kernel
theorem dX11_act_5 : decode cX11_act 5 = .ok (.invokevirtual 93, 3) := by decide +kernel
theorem dX11_act_8 : decode cX11_act 8 = .ok (.ifCond .eq 12, 3) := by decide +kernel
theorem dX11_act_11 : decode cX11_act 11 = .ok (.iload_n 2, 1) := by decide +kernel
theorem dX11_act_12 : decode cX11_act 12 = .ok (.ifCond .lt 8, 3) := by decide +kernel
theorem dX11_act_15 : decode cX11_act 15 = .ok (.iload_n 2, 1) := by decide +kernel
theorem dX11_act_16 : decode cX11_act 16 = .ok (.iconst 3, 1) := by decide +kernel
theorem dX11_act_17 : decode cX11_act 17 = .ok (.if_icmp .le 9, 3) := by decide +kernel
theorem dX11_act_20 : decode cX11_act 20 = .ok (.aload_n 0, 1) := by decide +kernel
theorem dX11_act_21 : decode cX11_act 21 = .ok (.iconst 1, 1) := by decide +kernel
theorem dX11_act_22 : decode cX11_act 22 = .ok (.invokevirtual 78, 3) := by decide +kernel
theorem dX11_act_25 : decode cX11_act 25 = .ok (.ireturn, 1) := by decide +kernel
theorem dX11_act_26 : decode cX11_act 26 = .ok (.aload_n 0, 1) := by decide +kernel
theorem dX11_act_27 : decode cX11_act 27 = .ok (.getfield 40, 3) := by decide +kernel
theorem dX11_act_30 : decode cX11_act 30 = .ok (.aload_n 0, 1) := by decide +kernel
theorem dX11_act_31 : decode cX11_act 31 = .ok (.getfield 10, 3) := by decide +kernel
theorem dX11_act_34 : decode cX11_act 34 = .ok (.iload_n 1, 1) := by decide +kernel
theorem dX11_act_35 : decode cX11_act 35 = .ok (.invokevirtual 231, 3) := by decide +kernel
theorem dX11_act_38 : decode cX11_act 38 = .ok (.aload_n 0, 1) := by decide +kernel
theorem dX11_act_39 : decode cX11_act 39 = .ok (.getfield 59, 3) := by decide +kernel
theorem dX11_act_42 : decode cX11_act 42 = .ok (.aload_n 0, 1) := by decide +kernel
theorem dX11_act_43 : decode cX11_act 43 = .ok (.getfield 10, 3) := by decide +kernel
theorem dX11_act_46 : decode cX11_act 46 = .ok (.iload_n 1, 1) := by decide +kernel
theorem dX11_act_47 : decode cX11_act 47 = .ok (.invokevirtual 135, 3) := by decide +kernel
theorem dX11_act_50 : decode cX11_act 50 = .ok (.aaload, 1) := by decide +kernel
theorem dX11_act_51 : decode cX11_act 51 = .ok (.astore 4, 2) := by decide +kernel
theorem dX11_act_53 : decode cX11_act 53 = .ok (.iload_n 2, 1) := by decide +kernel
theorem dX11_act_54 : decode cX11_act 54 = .ok (.tableswitch 71 0 2 #[26, 41, 56], 26) := by decide +kernel
theorem dX11_act_80 : decode cX11_act 80 = .ok (.aload_n 0, 1) := by decide +kernel
theorem dX11_act_81 : decode cX11_act 81 = .ok (.aload 4, 2) := by decide +kernel
theorem dX11_act_83 : decode cX11_act 83 = .ok (.aload_n 0, 1) := by decide +kernel
theorem dX11_act_84 : decode cX11_act 84 = .ok (.getfield 40, 3) := by decide +kernel
theorem dX11_act_87 : decode cX11_act 87 = .ok (.iload_n 3, 1) := by decide +kernel
theorem dX11_act_88 : decode cX11_act 88 = .ok (.invokevirtual 235, 3) := by decide +kernel
theorem dX11_act_91 : decode cX11_act 91 = .ok (.invokevirtual 90, 3) := by decide +kernel
theorem dX11_act_94 : decode cX11_act 94 = .ok (.ireturn, 1) := by decide +kernel
theorem dX11_act_95 : decode cX11_act 95 = .ok (.aload_n 0, 1) := by decide +kernel
theorem dX11_act_96 : decode cX11_act 96 = .ok (.aload 4, 2) := by decide +kernel
theorem dX11_act_98 : decode cX11_act 98 = .ok (.aload_n 0, 1) := by decide +kernel
theorem dX11_act_99 : decode cX11_act 99 = .ok (.getfield 40, 3) := by decide +kernel
theorem dX11_act_102 : decode cX11_act 102 = .ok (.iload_n 3, 1) := by decide +kernel
theorem dX11_act_103 : decode cX11_act 103 = .ok (.invokevirtual 239, 3) := by decide +kernel
theorem dX11_act_106 : decode cX11_act 106 = .ok (.invokevirtual 90, 3) := by decide +kernel
theorem dX11_act_109 : decode cX11_act 109 = .ok (.ireturn, 1) := by decide +kernel
theorem dX11_act_110 : decode cX11_act 110 = .ok (.aload_n 0, 1) := by decide +kernel
theorem dX11_act_111 : decode cX11_act 111 = .ok (.aload 4, 2) := by decide +kernel
theorem dX11_act_113 : decode cX11_act 113 = .ok (.aload_n 0, 1) := by decide +kernel
theorem dX11_act_114 : decode cX11_act 114 = .ok (.getfield 40, 3) := by decide +kernel
theorem dX11_act_117 : decode cX11_act 117 = .ok (.iload_n 3, 1) := by decide +kernel
theorem dX11_act_118 : decode cX11_act 118 = .ok (.invokevirtual 242, 3) := by decide +kernel
theorem dX11_act_121 : decode cX11_act 121 = .ok (.invokevirtual 90, 3) := by decide +kernel
theorem dX11_act_124 : decode cX11_act 124 = .ok (.ireturn, 1) := by decide +kernel
theorem dX11_act_125 : decode cX11_act 125 = .ok (.aload_n 0, 1) := by decide +kernel
theorem dX11_act_126 : decode cX11_act 126 = .ok (.aload 4, 2) := by decide +kernel
theorem dX11_act_128 : decode cX11_act 128 = .ok (.aload_n 0, 1) := by decide +kernel
theorem dX11_act_129 : decode cX11_act 129 = .ok (.getfield 40, 3) := by decide +kernel
theorem dX11_act_132 : decode cX11_act 132 = .ok (.iload_n 3, 1) := by decide +kernel
theorem dX11_act_133 : decode cX11_act 133 = .ok (.invokevirtual 245, 3) := by decide +kernel
theorem dX11_act_136 : decode cX11_act 136 = .ok (.invokevirtual 90, 3) := by decide +kernel
theorem dX11_act_139 : decode cX11_act 139 = .ok (.ireturn, 1) := by decide +kernel
theorem dX11_trace_0 : decode cX11_trace 0 = .ok (.aload_n 0, 1) := by decide +kernel
theorem dX11_trace_1 : decode cX11_trace 1 = .ok (.getfield 40, 3) := by decide +kernel
theorem dX11_trace_4 : decode cX11_trace 4 = .ok (.iload_n 1, 1) := by decide +kernel
theorem dX11_trace_5 : decode cX11_trace 5 = .ok (.invokevirtual 248, 3) := by decide +kernel
theorem dX11_trace_8 : decode cX11_trace 8 = .ok (.ireturn, 1) := by decide +kernel
theorem dX11_sheet_0 : decode cX11_sheet 0 = .ok (.iload_n 1, 1) := by decide +kernel
theorem dX11_sheet_1 : decode cX11_sheet 1 = .ok (.invokestatic 251, 3) := by decide +kernel
theorem dX11_sheet_4 : decode cX11_sheet 4 = .ok (.ifCond .eq 13, 3) := by decide +kernel
theorem dX11_sheet_7 : decode cX11_sheet 7 = .ok (.iload_n 2, 1) := by decide +kernel
theorem dX11_sheet_8 : decode cX11_sheet 8 = .ok (.iconst (-1), 1) := by decide +kernel
theorem dX11_sheet_9 : decode cX11_sheet 9 = .ok (.if_icmp .lt 8, 3) := by decide +kernel
theorem dX11_sheet_12 : decode cX11_sheet 12 = .ok (.iload_n 2, 1) := by decide +kernel
theorem dX11_sheet_13 : decode cX11_sheet 13 = .ok (.iconst 2, 1) := by decide +kernel
theorem dX11_sheet_14 : decode cX11_sheet 14 = .ok (.if_icmp .le 9, 3) := by decide +kernel
theorem dX11_sheet_17 : decode cX11_sheet 17 = .ok (.aload_n 0, 1) := by decide +kernel
theorem dX11_sheet_18 : decode cX11_sheet 18 = .ok (.iconst 1, 1) := by decide +kernel
theorem dX11_sheet_19 : decode cX11_sheet 19 = .ok (.invokevirtual 78, 3) := by decide +kernel
theorem dX11_sheet_22 : decode cX11_sheet 22 = .ok (.ireturn, 1) := by decide +kernel
theorem dX11_sheet_23 : decode cX11_sheet 23 = .ok (.iload_n 2, 1) := by decide +kernel
theorem dX11_sheet_24 : decode cX11_sheet 24 = .ok (.iconst (-1), 1) := by decide +kernel
theorem dX11_sheet_25 : decode cX11_sheet 25 = .ok (.if_icmp .ne 18, 3) := by decide +kernel
theorem dX11_sheet_28 : decode cX11_sheet 28 = .ok (.aload_n 0, 1) := by decide +kernel
theorem dX11_sheet_29 : decode cX11_sheet 29 = .ok (.getfield 65, 3) := by decide +kernel
theorem dX11_sheet_32 : decode cX11_sheet 32 = .ok (.iload_n 1, 1) := by decide +kernel
theorem dX11_sheet_33 : decode cX11_sheet 33 = .ok (.aaload, 1) := by decide +kernel
theorem dX11_sheet_34 : decode cX11_sheet 34 = .ok (.invokevirtual 254, 3) := by decide +kernel
theorem dX11_sheet_37 : decode cX11_sheet 37 = .ok (.aload_n 0, 1) := by decide +kernel
theorem dX11_sheet_38 : decode cX11_sheet 38 = .ok (.iconst 1, 1) := by decide +kernel
theorem dX11_sheet_39 : decode cX11_sheet 39 = .ok (.invokevirtual 90, 3) := by decide +kernel
theorem dX11_sheet_42 : decode cX11_sheet 42 = .ok (.ireturn, 1) := by decide +kernel
theorem dX11_sheet_43 : decode cX11_sheet 43 = .ok (.iload_n 3, 1) := by decide +kernel
theorem dX11_sheet_44 : decode cX11_sheet 44 = .ok (.ifCond .lt 9, 3) := by decide +kernel
theorem dX11_sheet_47 : decode cX11_sheet 47 = .ok (.iload_n 3, 1) := by decide +kernel
theorem dX11_sheet_48 : decode cX11_sheet 48 = .ok (.bipush 20, 2) := by decide +kernel
theorem dX11_sheet_50 : decode cX11_sheet 50 = .ok (.if_icmp .le 9, 3) := by decide +kernel
theorem dX11_sheet_53 : decode cX11_sheet 53 = .ok (.aload_n 0, 1) := by decide +kernel
theorem dX11_sheet_54 : decode cX11_sheet 54 = .ok (.iconst 1, 1) := by decide +kernel
theorem dX11_sheet_55 : decode cX11_sheet 55 = .ok (.invokevirtual 78, 3) := by decide +kernel
theorem dX11_sheet_58 : decode cX11_sheet 58 = .ok (.ireturn, 1) := by decide +kernel
theorem dX11_sheet_59 : decode cX11_sheet 59 = .ok (.aload_n 0, 1) := by decide +kernel
theorem dX11_sheet_60 : decode cX11_sheet 60 = .ok (.getfield 65, 3) := by decide +kernel
theorem dX11_sheet_63 : decode cX11_sheet 63 = .ok (.iload_n 1, 1) := by decide +kernel
theorem dX11_sheet_64 : decode cX11_sheet 64 = .ok (.aaload, 1) := by decide +kernel
theorem dX11_sheet_65 : decode cX11_sheet 65 = .ok (.iload_n 2, 1) := by decide +kernel
theorem dX11_sheet_66 : decode cX11_sheet 66 = .ok (.iload_n 3, 1) := by decide +kernel
theorem dX11_sheet_67 : decode cX11_sheet 67 = .ok (.invokevirtual 257, 3) := by decide +kernel
theorem dX11_sheet_70 : decode cX11_sheet 70 = .ok (.aload_n 0, 1) := by decide +kernel
theorem dX11_sheet_71 : decode cX11_sheet 71 = .ok (.iconst 1, 1) := by decide +kernel
theorem dX11_sheet_72 : decode cX11_sheet 72 = .ok (.invokevirtual 90, 3) := by decide +kernel
theorem dX11_sheet_75 : decode cX11_sheet 75 = .ok (.ireturn, 1) := by decide +kernel
theorem dX11_cell_0 : decode cX11_cell 0 = .ok (.iload_n 1, 1) := by decide +kernel
theorem dX11_cell_1 : decode cX11_cell 1 = .ok (.invokestatic 251, 3) := by decide +kernel
theorem dX11_cell_4 : decode cX11_cell 4 = .ok (.ifCond .ne 9, 3) := by decide +kernel
theorem dX11_cell_7 : decode cX11_cell 7 = .ok (.aload_n 0, 1) := by decide +kernel
theorem dX11_cell_8 : decode cX11_cell 8 = .ok (.iconst 1, 1) := by decide +kernel
theorem dX11_cell_9 : decode cX11_cell 9 = .ok (.invokevirtual 78, 3) := by decide +kernel
theorem dX11_cell_12 : decode cX11_cell 12 = .ok (.ireturn, 1) := by decide +kernel
theorem dX11_cell_13 : decode cX11_cell 13 = .ok (.aload_n 0, 1) := by decide +kernel
theorem dX11_cell_14 : decode cX11_cell 14 = .ok (.getfield 65, 3) := by decide +kernel
theorem dX11_cell_17 : decode cX11_cell 17 = .ok (.iload_n 1, 1) := by decide +kernel
theorem dX11_cell_18 : decode cX11_cell 18 = .ok (.aaload, 1) := by decide +kernel
theorem dX11_cell_19 : decode cX11_cell 19 = .ok (.astore 4, 2) := by decide +kernel
theorem dX11_cell_21 : decode cX11_cell 21 = .ok (.aload 4, 2) := by decide +kernel
theorem dX11_cell_23 : decode cX11_cell 23 = .ok (.invokevirtual 260, 3) := by decide +kernel
theorem dX11_cell_26 : decode cX11_cell 26 = .ok (.ifCond .eq 10, 3) := by decide +kernel
theorem dX11_cell_29 : decode cX11_cell 29 = .ok (.aload_n 0, 1) := by decide +kernel
theorem dX11_cell_30 : decode cX11_cell 30 = .ok (.bipush 10, 2) := by decide +kernel
theorem dX11_cell_32 : decode cX11_cell 32 = .ok (.invokevirtual 78, 3) := by decide +kernel
theorem dX11_cell_35 : decode cX11_cell 35 = .ok (.ireturn, 1) := by decide +kernel
theorem dX11_cell_36 : decode cX11_cell 36 = .ok (.iload_n 2, 1) := by decide +kernel
theorem dX11_cell_37 : decode cX11_cell 37 = .ok (.ifCond .lt 12, 3) := by decide +kernel
theorem dX11_cell_40 : decode cX11_cell 40 = .ok (.iload_n 2, 1) := by decide +kernel
theorem dX11_cell_41 : decode cX11_cell 41 = .ok (.aload 4, 2) := by decide +kernel
theorem dX11_cell_43 : decode cX11_cell 43 = .ok (.invokevirtual 263, 3) := by decide +kernel
theorem dX11_cell_46 : decode cX11_cell 46 = .ok (.if_icmp .lt 10, 3) := by decide +kernel
theorem dX11_cell_49 : decode cX11_cell 49 = .ok (.aload_n 0, 1) := by decide +kernel
theorem dX11_cell_50 : decode cX11_cell 50 = .ok (.bipush 12, 2) := by decide +kernel
theorem dX11_cell_52 : decode cX11_cell 52 = .ok (.invokevirtual 78, 3) := by decide +kernel
theorem dX11_cell_55 : decode cX11_cell 55 = .ok (.ireturn, 1) := by decide +kernel
theorem dX11_cell_56 : decode cX11_cell 56 = .ok (.aload 4, 2) := by decide +kernel
theorem dX11_cell_58 : decode cX11_cell 58 = .ok (.iload_n 2, 1) := by decide +kernel
theorem dX11_cell_59 : decode cX11_cell 59 = .ok (.iload_n 3, 1) := by decide +kernel
theorem dX11_cell_60 : decode cX11_cell 60 = .ok (.invokevirtual 264, 3) := by decide +kernel
theorem dX11_cell_63 : decode cX11_cell 63 = .ok (.aload_n 0, 1) := by decide +kernel
theorem dX11_cell_64 : decode cX11_cell 64 = .ok (.iconst 1, 1) := by decide +kernel
theorem dX11_cell_65 : decode cX11_cell 65 = .ok (.invokevirtual 90, 3) := by decide +kernel
theorem dX11_cell_68 : decode cX11_cell 68 = .ok (.ireturn, 1) := by decide +kernel
theorem dX11_fromSheet_0 : decode cX11_fromSheet 0 = .ok (.iload_n 1, 1) := by decide +kernel
theorem dX11_fromSheet_1 : decode cX11_fromSheet 1 = .ok (.invokestatic 251, 3) := by decide +kernel
theorem dX11_fromSheet_4 : decode cX11_fromSheet 4 = .ok (.ifCond .eq 12, 3) := by decide +kernel
theorem dX11_fromSheet_7 : decode cX11_fromSheet 7 = .ok (.iload_n 2, 1) := by decide +kernel
theorem dX11_fromSheet_8 : decode cX11_fromSheet 8 = .ok (.ifCond .lt 8, 3) := by decide +kernel
theorem dX11_fromSheet_11 : decode cX11_fromSheet 11 = .ok (.iload_n 2, 1) := by decide +kernel
theorem dX11_fromSheet_12 : decode cX11_fromSheet 12 = .ok (.iconst 2, 1) := by decide +kernel
theorem dX11_fromSheet_13 : decode cX11_fromSheet 13 = .ok (.if_icmp .le 9, 3) := by decide +kernel
theorem dX11_fromSheet_16 : decode cX11_fromSheet 16 = .ok (.aload_n 0, 1) := by decide +kernel
theorem dX11_fromSheet_17 : decode cX11_fromSheet 17 = .ok (.iconst 1, 1) := by decide +kernel
theorem dX11_fromSheet_18 : decode cX11_fromSheet 18 = .ok (.invokevirtual 78, 3) := by decide +kernel
theorem dX11_fromSheet_21 : decode cX11_fromSheet 21 = .ok (.ireturn, 1) := by decide +kernel
theorem dX11_fromSheet_22 : decode cX11_fromSheet 22 = .ok (.aload_n 0, 1) := by decide +kernel
theorem dX11_fromSheet_23 : decode cX11_fromSheet 23 = .ok (.getfield 10, 3) := by decide +kernel
theorem dX11_fromSheet_26 : decode cX11_fromSheet 26 = .ok (.invokevirtual 82, 3) := by decide +kernel
theorem dX11_fromSheet_29 : decode cX11_fromSheet 29 = .ok (.ifCond .eq 9, 3) := by decide +kernel
theorem dX11_fromSheet_32 : decode cX11_fromSheet 32 = .ok (.aload_n 0, 1) := by decide +kernel
theorem dX11_fromSheet_33 : decode cX11_fromSheet 33 = .ok (.iconst 2, 1) := by decide +kernel
theorem dX11_fromSheet_34 : decode cX11_fromSheet 34 = .ok (.invokevirtual 78, 3) := by decide +kernel
theorem dX11_fromSheet_37 : decode cX11_fromSheet 37 = .ok (.ireturn, 1) := by decide +kernel
theorem dX11_fromSheet_38 : decode cX11_fromSheet 38 = .ok (.aload_n 0, 1) := by decide +kernel
theorem dX11_fromSheet_39 : decode cX11_fromSheet 39 = .ok (.getfield 65, 3) := by decide +kernel
theorem dX11_fromSheet_42 : decode cX11_fromSheet 42 = .ok (.iload_n 1, 1) := by decide +kernel
theorem dX11_fromSheet_43 : decode cX11_fromSheet 43 = .ok (.aaload, 1) := by decide +kernel
theorem dX11_fromSheet_44 : decode cX11_fromSheet 44 = .ok (.astore 4, 2) := by decide +kernel
theorem dX11_fromSheet_46 : decode cX11_fromSheet 46 = .ok (.aload 4, 2) := by decide +kernel
theorem dX11_fromSheet_48 : decode cX11_fromSheet 48 = .ok (.iload_n 2, 1) := by decide +kernel
theorem dX11_fromSheet_49 : decode cX11_fromSheet 49 = .ok (.invokevirtual 267, 3) := by decide +kernel
theorem dX11_fromSheet_52 : decode cX11_fromSheet 52 = .ok (.istore 5, 2) := by decide +kernel
theorem dX11_fromSheet_54 : decode cX11_fromSheet 54 = .ok (.iload 5, 2) := by decide +kernel
theorem dX11_fromSheet_56 : decode cX11_fromSheet 56 = .ok (.ifCond .eq 10, 3) := by decide +kernel
theorem dX11_fromSheet_59 : decode cX11_fromSheet 59 = .ok (.aload_n 0, 1) := by decide +kernel
theorem dX11_fromSheet_60 : decode cX11_fromSheet 60 = .ok (.iload 5, 2) := by decide +kernel
theorem dX11_fromSheet_62 : decode cX11_fromSheet 62 = .ok (.invokevirtual 78, 3) := by decide +kernel
theorem dX11_fromSheet_65 : decode cX11_fromSheet 65 = .ok (.ireturn, 1) := by decide +kernel
theorem dX11_fromSheet_66 : decode cX11_fromSheet 66 = .ok (.iload_n 3, 1) := by decide +kernel
theorem dX11_fromSheet_67 : decode cX11_fromSheet 67 = .ok (.ifCond .lt 14, 3) := by decide +kernel
theorem dX11_fromSheet_70 : decode cX11_fromSheet 70 = .ok (.iload_n 3, 1) := by decide +kernel
theorem dX11_fromSheet_71 : decode cX11_fromSheet 71 = .ok (.aload 4, 2) := by decide +kernel
theorem dX11_fromSheet_73 : decode cX11_fromSheet 73 = .ok (.invokevirtual 263, 3) := by decide +kernel
theorem dX11_fromSheet_76 : decode cX11_fromSheet 76 = .ok (.iconst 1, 1) := by decide +kernel
theorem dX11_fromSheet_77 : decode cX11_fromSheet 77 = .ok (.isub, 1) := by decide +kernel
theorem dX11_fromSheet_78 : decode cX11_fromSheet 78 = .ok (.if_icmp .lt 10, 3) := by decide +kernel
theorem dX11_fromSheet_81 : decode cX11_fromSheet 81 = .ok (.aload_n 0, 1) := by decide +kernel
theorem dX11_fromSheet_82 : decode cX11_fromSheet 82 = .ok (.bipush 12, 2) := by decide +kernel
theorem dX11_fromSheet_84 : decode cX11_fromSheet 84 = .ok (.invokevirtual 78, 3) := by decide +kernel
theorem dX11_fromSheet_87 : decode cX11_fromSheet 87 = .ok (.ireturn, 1) := by decide +kernel
theorem dX11_fromSheet_88 : decode cX11_fromSheet 88 = .ok (.aload 4, 2) := by decide +kernel
theorem dX11_fromSheet_90 : decode cX11_fromSheet 90 = .ok (.iload_n 3, 1) := by decide +kernel
theorem dX11_fromSheet_91 : decode cX11_fromSheet 91 = .ok (.invokevirtual 270, 3) := by decide +kernel
theorem dX11_fromSheet_94 : decode cX11_fromSheet 94 = .ok (.istore 6, 2) := by decide +kernel
theorem dX11_fromSheet_96 : decode cX11_fromSheet 96 = .ok (.aload 4, 2) := by decide +kernel
theorem dX11_fromSheet_98 : decode cX11_fromSheet 98 = .ok (.iload_n 3, 1) := by decide +kernel
theorem dX11_fromSheet_99 : decode cX11_fromSheet 99 = .ok (.iconst 1, 1) := by decide +kernel
theorem dX11_fromSheet_100 : decode cX11_fromSheet 100 = .ok (.iadd, 1) := by decide +kernel
theorem dX11_fromSheet_101 : decode cX11_fromSheet 101 = .ok (.invokevirtual 270, 3) := by decide +kernel
theorem dX11_fromSheet_104 : decode cX11_fromSheet 104 = .ok (.istore 7, 2) := by decide +kernel
theorem dX11_fromSheet_106 : decode cX11_fromSheet 106 = .ok (.iconst 0, 1) := by decide +kernel
theorem dX11_fromSheet_107 : decode cX11_fromSheet 107 = .ok (.iload 6, 2) := by decide +kernel
theorem dX11_fromSheet_109 : decode cX11_fromSheet 109 = .ok (.invokestatic 74, 3) := by decide +kernel
theorem dX11_fromSheet_112 : decode cX11_fromSheet 112 = .ok (.ifCond .eq 12, 3) := by decide +kernel
theorem dX11_fromSheet_115 : decode cX11_fromSheet 115 = .ok (.iconst 1, 1) := by decide +kernel
theorem dX11_fromSheet_116 : decode cX11_fromSheet 116 = .ok (.iload 7, 2) := by decide +kernel
theorem dX11_fromSheet_118 : decode cX11_fromSheet 118 = .ok (.invokestatic 74, 3) := by decide +kernel
theorem dX11_fromSheet_121 : decode cX11_fromSheet 121 = .ok (.ifCond .ne 9, 3) := by decide +kernel
theorem dX11_fromSheet_124 : decode cX11_fromSheet 124 = .ok (.aload_n 0, 1) := by decide +kernel
theorem dX11_fromSheet_125 : decode cX11_fromSheet 125 = .ok (.iconst 3, 1) := by decide +kernel
theorem dX11_fromSheet_126 : decode cX11_fromSheet 126 = .ok (.invokevirtual 78, 3) := by decide +kernel
theorem dX11_fromSheet_129 : decode cX11_fromSheet 129 = .ok (.ireturn, 1) := by decide +kernel
theorem dX11_fromSheet_130 : decode cX11_fromSheet 130 = .ok (.aload_n 0, 1) := by decide +kernel
theorem dX11_fromSheet_131 : decode cX11_fromSheet 131 = .ok (.aload_n 0, 1) := by decide +kernel
theorem dX11_fromSheet_132 : decode cX11_fromSheet 132 = .ok (.iload 6, 2) := by decide +kernel
theorem dX11_fromSheet_134 : decode cX11_fromSheet 134 = .ok (.iload 7, 2) := by decide +kernel
theorem dX11_fromSheet_136 : decode cX11_fromSheet 136 = .ok (.invokevirtual 86, 3) := by decide +kernel
theorem dX11_fromSheet_139 : decode cX11_fromSheet 139 = .ok (.invokevirtual 90, 3) := by decide +kernel
theorem dX11_fromSheet_142 : decode cX11_fromSheet 142 = .ok (.ireturn, 1) := by decide +kernel
theorem dX11_forge_0 : decode cX11_forge 0 = .ok (.iload_n 1, 1) := by decide +kernel
theorem dX11_forge_1 : decode cX11_forge 1 = .ok (.invokestatic 251, 3) := by decide +kernel
theorem dX11_forge_4 : decode cX11_forge 4 = .ok (.ifCond .eq 25, 3) := by decide +kernel
theorem dX11_forge_7 : decode cX11_forge 7 = .ok (.iload_n 2, 1) := by decide +kernel
theorem dX11_forge_8 : decode cX11_forge 8 = .ok (.ifCond .lt 21, 3) := by decide +kernel
theorem dX11_forge_11 : decode cX11_forge 11 = .ok (.iload_n 2, 1) := by decide +kernel
theorem dX11_forge_12 : decode cX11_forge 12 = .ok (.bipush 6, 2) := by decide +kernel
theorem dX11_forge_14 : decode cX11_forge 14 = .ok (.if_icmp .gt 15, 3) := by decide +kernel
theorem dX11_forge_17 : decode cX11_forge 17 = .ok (.iload_n 3, 1) := by decide +kernel
theorem dX11_forge_18 : decode cX11_forge 18 = .ok (.bipush (-100), 2) := by decide +kernel
theorem dX11_forge_20 : decode cX11_forge 20 = .ok (.if_icmp .lt 9, 3) := by decide +kernel
theorem dX11_forge_23 : decode cX11_forge 23 = .ok (.iload_n 3, 1) := by decide +kernel
theorem dX11_forge_24 : decode cX11_forge 24 = .ok (.bipush 100, 2) := by decide +kernel
theorem dX11_forge_26 : decode cX11_forge 26 = .ok (.if_icmp .le 9, 3) := by decide +kernel
theorem dX11_forge_29 : decode cX11_forge 29 = .ok (.aload_n 0, 1) := by decide +kernel
theorem dX11_forge_30 : decode cX11_forge 30 = .ok (.iconst 1, 1) := by decide +kernel
theorem dX11_forge_31 : decode cX11_forge 31 = .ok (.invokevirtual 78, 3) := by decide +kernel
theorem dX11_forge_34 : decode cX11_forge 34 = .ok (.ireturn, 1) := by decide +kernel
theorem dX11_forge_35 : decode cX11_forge 35 = .ok (.aload_n 0, 1) := by decide +kernel
theorem dX11_forge_36 : decode cX11_forge 36 = .ok (.getfield 65, 3) := by decide +kernel
theorem dX11_forge_39 : decode cX11_forge 39 = .ok (.iload_n 1, 1) := by decide +kernel
theorem dX11_forge_40 : decode cX11_forge 40 = .ok (.aaload, 1) := by decide +kernel
theorem dX11_forge_41 : decode cX11_forge 41 = .ok (.astore 4, 2) := by decide +kernel
theorem dX11_forge_43 : decode cX11_forge 43 = .ok (.iload_n 2, 1) := by decide +kernel
theorem dX11_forge_44 : decode cX11_forge 44 = .ok (.tableswitch 132 0 5 #[40, 52, 71, 79, 86, 109], 40) := by decide +kernel
theorem dX11_forge_84 : decode cX11_forge 84 = .ok (.aload_n 0, 1) := by decide +kernel
theorem dX11_forge_85 : decode cX11_forge 85 = .ok (.aload 4, 2) := by decide +kernel
theorem dX11_forge_87 : decode cX11_forge 87 = .ok (.iload_n 3, 1) := by decide +kernel
theorem dX11_forge_88 : decode cX11_forge 88 = .ok (.iconst 3, 1) := by decide +kernel
theorem dX11_forge_89 : decode cX11_forge 89 = .ok (.invokestatic 273, 3) := by decide +kernel
theorem dX11_forge_92 : decode cX11_forge 92 = .ok (.invokevirtual 278, 3) := by decide +kernel
theorem dX11_forge_95 : decode cX11_forge 95 = .ok (.ireturn, 1) := by decide +kernel
theorem dX11_forge_96 : decode cX11_forge 96 = .ok (.iload_n 3, 1) := by decide +kernel
theorem dX11_forge_97 : decode cX11_forge 97 = .ok (.ifCond .ge 12, 3) := by decide +kernel
theorem dX11_forge_100 : decode cX11_forge 100 = .ok (.aload_n 0, 1) := by decide +kernel
theorem dX11_forge_101 : decode cX11_forge 101 = .ok (.bipush 13, 2) := by decide +kernel
theorem dX11_forge_103 : decode cX11_forge 103 = .ok (.invokevirtual 78, 3) := by decide +kernel
theorem dX11_forge_106 : decode cX11_forge 106 = .ok (.goto 8, 3) := by decide +kernel
theorem dX11_forge_109 : decode cX11_forge 109 = .ok (.aload_n 0, 1) := by decide +kernel
theorem dX11_forge_110 : decode cX11_forge 110 = .ok (.iload_n 3, 1) := by decide +kernel
theorem dX11_forge_111 : decode cX11_forge 111 = .ok (.invokevirtual 90, 3) := by decide +kernel
theorem dX11_forge_114 : decode cX11_forge 114 = .ok (.ireturn, 1) := by decide +kernel
theorem dX11_forge_115 : decode cX11_forge 115 = .ok (.aload_n 0, 1) := by decide +kernel
theorem dX11_forge_116 : decode cX11_forge 116 = .ok (.aload 4, 2) := by decide +kernel
theorem dX11_forge_118 : decode cX11_forge 118 = .ok (.iload_n 3, 1) := by decide +kernel
theorem dX11_forge_119 : decode cX11_forge 119 = .ok (.invokevirtual 282, 3) := by decide +kernel
theorem dX11_forge_122 : decode cX11_forge 122 = .ok (.ireturn, 1) := by decide +kernel
theorem dX11_forge_123 : decode cX11_forge 123 = .ok (.aload_n 0, 1) := by decide +kernel
theorem dX11_forge_124 : decode cX11_forge 124 = .ok (.aload 4, 2) := by decide +kernel
theorem dX11_forge_126 : decode cX11_forge 126 = .ok (.invokevirtual 285, 3) := by decide +kernel
theorem dX11_forge_129 : decode cX11_forge 129 = .ok (.ireturn, 1) := by decide +kernel
theorem dX11_forge_130 : decode cX11_forge 130 = .ok (.iload_n 3, 1) := by decide +kernel
theorem dX11_forge_131 : decode cX11_forge 131 = .ok (.ifCond .ne 12, 3) := by decide +kernel
theorem dX11_forge_134 : decode cX11_forge 134 = .ok (.aload_n 0, 1) := by decide +kernel
theorem dX11_forge_135 : decode cX11_forge 135 = .ok (.bipush 15, 2) := by decide +kernel
theorem dX11_forge_137 : decode cX11_forge 137 = .ok (.invokevirtual 78, 3) := by decide +kernel
theorem dX11_forge_140 : decode cX11_forge 140 = .ok (.goto 12, 3) := by decide +kernel
theorem dX11_forge_143 : decode cX11_forge 143 = .ok (.aload_n 0, 1) := by decide +kernel
theorem dX11_forge_144 : decode cX11_forge 144 = .ok (.sipush 1000, 3) := by decide +kernel
theorem dX11_forge_147 : decode cX11_forge 147 = .ok (.iload_n 3, 1) := by decide +kernel
theorem dX11_forge_148 : decode cX11_forge 148 = .ok (.idiv, 1) := by decide +kernel
theorem dX11_forge_149 : decode cX11_forge 149 = .ok (.invokevirtual 90, 3) := by decide +kernel
theorem dX11_forge_152 : decode cX11_forge 152 = .ok (.ireturn, 1) := by decide +kernel
theorem dX11_forge_153 : decode cX11_forge 153 = .ok (.iload_n 3, 1) := by decide +kernel
theorem dX11_forge_154 : decode cX11_forge 154 = .ok (.iconst 2, 1) := by decide +kernel
theorem dX11_forge_155 : decode cX11_forge 155 = .ok (.invokestatic 273, 3) := by decide +kernel
theorem dX11_forge_158 : decode cX11_forge 158 = .ok (.ifCond .ne 12, 3) := by decide +kernel
theorem dX11_forge_161 : decode cX11_forge 161 = .ok (.aload_n 0, 1) := by decide +kernel
theorem dX11_forge_162 : decode cX11_forge 162 = .ok (.bipush 10, 2) := by decide +kernel
theorem dX11_forge_164 : decode cX11_forge 164 = .ok (.invokevirtual 78, 3) := by decide +kernel
theorem dX11_forge_167 : decode cX11_forge 167 = .ok (.goto 8, 3) := by decide +kernel
theorem dX11_forge_170 : decode cX11_forge 170 = .ok (.aload_n 0, 1) := by decide +kernel
theorem dX11_forge_171 : decode cX11_forge 171 = .ok (.iconst 1, 1) := by decide +kernel
theorem dX11_forge_172 : decode cX11_forge 172 = .ok (.invokevirtual 90, 3) := by decide +kernel
theorem dX11_forge_175 : decode cX11_forge 175 = .ok (.ireturn, 1) := by decide +kernel
theorem dX11_forge_176 : decode cX11_forge 176 = .ok (.aload_n 0, 1) := by decide +kernel
theorem dX11_forge_177 : decode cX11_forge 177 = .ok (.iload_n 3, 1) := by decide +kernel
theorem dX11_forge_178 : decode cX11_forge 178 = .ok (.bipush 12, 2) := by decide +kernel
theorem dX11_forge_180 : decode cX11_forge 180 = .ok (.invokestatic 273, 3) := by decide +kernel
theorem dX11_forge_183 : decode cX11_forge 183 = .ok (.invokevirtual 289, 3) := by decide +kernel
theorem dX11_forge_186 : decode cX11_forge 186 = .ok (.ireturn, 1) := by decide +kernel
theorem dX11_undo_0 : decode cX11_undo 0 = .ok (.aload_n 0, 1) := by decide +kernel
theorem dX11_undo_1 : decode cX11_undo 1 = .ok (.getfield 33, 3) := by decide +kernel
theorem dX11_undo_4 : decode cX11_undo 4 = .ok (.invokevirtual 173, 3) := by decide +kernel
theorem dX11_undo_7 : decode cX11_undo 7 = .ok (.ifCond .ne 9, 3) := by decide +kernel
theorem dX11_undo_10 : decode cX11_undo 10 = .ok (.aload_n 0, 1) := by decide +kernel
theorem dX11_undo_11 : decode cX11_undo 11 = .ok (.iconst 3, 1) := by decide +kernel
theorem dX11_undo_12 : decode cX11_undo 12 = .ok (.invokevirtual 78, 3) := by decide +kernel
theorem dX11_undo_15 : decode cX11_undo 15 = .ok (.ireturn, 1) := by decide +kernel
theorem dX11_undo_16 : decode cX11_undo 16 = .ok (.aload_n 0, 1) := by decide +kernel
theorem dX11_undo_17 : decode cX11_undo 17 = .ok (.getfield 33, 3) := by decide +kernel
theorem dX11_undo_20 : decode cX11_undo 20 = .ok (.aload_n 0, 1) := by decide +kernel
theorem dX11_undo_21 : decode cX11_undo 21 = .ok (.getfield 10, 3) := by decide +kernel
theorem dX11_undo_24 : decode cX11_undo 24 = .ok (.invokevirtual 292, 3) := by decide +kernel
theorem dX11_undo_27 : decode cX11_undo 27 = .ok (.aload_n 0, 1) := by decide +kernel
theorem dX11_undo_28 : decode cX11_undo 28 = .ok (.getfield 26, 3) := by decide +kernel
theorem dX11_undo_31 : decode cX11_undo 31 = .ok (.invokevirtual 132, 3) := by decide +kernel
theorem dX11_undo_34 : decode cX11_undo 34 = .ok (.aload_n 0, 1) := by decide +kernel
theorem dX11_undo_35 : decode cX11_undo 35 = .ok (.iconst 1, 1) := by decide +kernel
theorem dX11_undo_36 : decode cX11_undo 36 = .ok (.invokevirtual 90, 3) := by decide +kernel
theorem dX11_undo_39 : decode cX11_undo 39 = .ok (.ireturn, 1) := by decide +kernel
theorem dX11_status_0 : decode cX11_status 0 = .ok (.aload_n 0, 1) := by decide +kernel
theorem dX11_status_1 : decode cX11_status 1 = .ok (.getfield 70, 3) := by decide +kernel
theorem dX11_status_4 : decode cX11_status 4 = .ok (.ireturn, 1) := by decide +kernel
theorem dX11_done_0 : decode cX11_done 0 = .ok (.aload_n 0, 1) := by decide +kernel
theorem dX11_done_1 : decode cX11_done 1 = .ok (.iconst 0, 1) := by decide +kernel
theorem dX11_done_2 : decode cX11_done 2 = .ok (.putfield 70, 3) := by decide +kernel
theorem dX11_done_5 : decode cX11_done 5 = .ok (.iload_n 1, 1) := by decide +kernel
theorem dX11_done_6 : decode cX11_done 6 = .ok (.ireturn, 1) := by decide +kernel
theorem dX11_refused_0 : decode cX11_refused 0 = .ok (.aload_n 0, 1) := by decide +kernel
theorem dX11_refused_1 : decode cX11_refused 1 = .ok (.iload_n 1, 1) := by decide +kernel
theorem dX11_refused_2 : decode cX11_refused 2 = .ok (.putfield 70, 3) := by decide +kernel
theorem dX11_refused_5 : decode cX11_refused 5 = .ok (.iconst (-1), 1) := by decide +kernel
theorem dX11_refused_6 : decode cX11_refused 6 = .ok (.ireturn, 1) := by decide +kernel
theorem dX11_bringJob_0 : decode cX11_bringJob 0 = .ok (.aload_n 0, 1) := by decide +kernel
theorem dX11_bringJob_1 : decode cX11_bringJob 1 = .ok (.getfield 10, 3) := by decide +kernel
theorem dX11_bringJob_4 : decode cX11_bringJob 4 = .ok (.iload_n 1, 1) := by decide +kernel
theorem dX11_bringJob_5 : decode cX11_bringJob 5 = .ok (.iload_n 2, 1) := by decide +kernel
theorem dX11_bringJob_6 : decode cX11_bringJob 6 = .ok (.invokevirtual 296, 3) := by decide +kernel
theorem dX11_bringJob_9 : decode cX11_bringJob 9 = .ok (.istore_n 3, 1) := by decide +kernel
theorem dX11_bringJob_10 : decode cX11_bringJob 10 = .ok (.aload_n 0, 1) := by decide +kernel
theorem dX11_bringJob_11 : decode cX11_bringJob 11 = .ok (.getfield 33, 3) := by decide +kernel
theorem dX11_bringJob_14 : decode cX11_bringJob 14 = .ok (.iconst 0, 1) := by decide +kernel
theorem dX11_bringJob_15 : decode cX11_bringJob 15 = .ok (.iload_n 3, 1) := by decide +kernel
theorem dX11_bringJob_16 : decode cX11_bringJob 16 = .ok (.iconst 0, 1) := by decide +kernel
theorem dX11_bringJob_17 : decode cX11_bringJob 17 = .ok (.iconst 0, 1) := by decide +kernel
theorem dX11_bringJob_18 : decode cX11_bringJob 18 = .ok (.invokevirtual 104, 3) := by decide +kernel
theorem dX11_bringJob_21 : decode cX11_bringJob 21 = .ok (.iload_n 3, 1) := by decide +kernel
theorem dX11_bringJob_22 : decode cX11_bringJob 22 = .ok (.ireturn, 1) := by decide +kernel
theorem dX11_forgeSize_0 : decode cX11_forgeSize 0 = .ok (.aload_n 1, 1) := by decide +kernel
theorem dX11_forgeSize_1 : decode cX11_forgeSize 1 = .ok (.iload_n 2, 1) := by decide +kernel
theorem dX11_forgeSize_2 : decode cX11_forgeSize 2 = .ok (.invokevirtual 267, 3) := by decide +kernel
theorem dX11_forgeSize_5 : decode cX11_forgeSize 5 = .ok (.istore_n 3, 1) := by decide +kernel
theorem dX11_forgeSize_6 : decode cX11_forgeSize 6 = .ok (.iload_n 3, 1) := by decide +kernel
theorem dX11_forgeSize_7 : decode cX11_forgeSize 7 = .ok (.ifCond .ne 14, 3) := by decide +kernel
theorem dX11_forgeSize_10 : decode cX11_forgeSize 10 = .ok (.aload_n 0, 1) := by decide +kernel
theorem dX11_forgeSize_11 : decode cX11_forgeSize 11 = .ok (.aload_n 1, 1) := by decide +kernel
theorem dX11_forgeSize_12 : decode cX11_forgeSize 12 = .ok (.invokevirtual 263, 3) := by decide +kernel
theorem dX11_forgeSize_15 : decode cX11_forgeSize 15 = .ok (.invokevirtual 90, 3) := by decide +kernel
theorem dX11_forgeSize_18 : decode cX11_forgeSize 18 = .ok (.goto 8, 3) := by decide +kernel
theorem dX11_forgeSize_21 : decode cX11_forgeSize 21 = .ok (.aload_n 0, 1) := by decide +kernel
theorem dX11_forgeSize_22 : decode cX11_forgeSize 22 = .ok (.iload_n 3, 1) := by decide +kernel
theorem dX11_forgeSize_23 : decode cX11_forgeSize 23 = .ok (.invokevirtual 78, 3) := by decide +kernel
theorem dX11_forgeSize_26 : decode cX11_forgeSize 26 = .ok (.ireturn, 1) := by decide +kernel
theorem dX11_forgeCopy_0 : decode cX11_forgeCopy 0 = .ok (.aload_n 1, 1) := by decide +kernel
theorem dX11_forgeCopy_1 : decode cX11_forgeCopy 1 = .ok (.iconst 1, 1) := by decide +kernel
theorem dX11_forgeCopy_2 : decode cX11_forgeCopy 2 = .ok (.invokevirtual 267, 3) := by decide +kernel
theorem dX11_forgeCopy_5 : decode cX11_forgeCopy 5 = .ok (.istore_n 3, 1) := by decide +kernel
theorem dX11_forgeCopy_6 : decode cX11_forgeCopy 6 = .ok (.iload_n 3, 1) := by decide +kernel
theorem dX11_forgeCopy_7 : decode cX11_forgeCopy 7 = .ok (.ifCond .eq 9, 3) := by decide +kernel
theorem dX11_forgeCopy_10 : decode cX11_forgeCopy 10 = .ok (.aload_n 0, 1) := by decide +kernel
theorem dX11_forgeCopy_11 : decode cX11_forgeCopy 11 = .ok (.iload_n 3, 1) := by decide +kernel
theorem dX11_forgeCopy_12 : decode cX11_forgeCopy 12 = .ok (.invokevirtual 78, 3) := by decide +kernel
theorem dX11_forgeCopy_15 : decode cX11_forgeCopy 15 = .ok (.ireturn, 1) := by decide +kernel
theorem dX11_forgeCopy_16 : decode cX11_forgeCopy 16 = .ok (.iload_n 2, 1) := by decide +kernel
theorem dX11_forgeCopy_17 : decode cX11_forgeCopy 17 = .ok (.ifCond .lt 21, 3) := by decide +kernel
theorem dX11_forgeCopy_20 : decode cX11_forgeCopy 20 = .ok (.iconst 1, 1) := by decide +kernel
theorem dX11_forgeCopy_21 : decode cX11_forgeCopy 21 = .ok (.iload_n 2, 1) := by decide +kernel
theorem dX11_forgeCopy_22 : decode cX11_forgeCopy 22 = .ok (.iadd, 1) := by decide +kernel
theorem dX11_forgeCopy_23 : decode cX11_forgeCopy 23 = .ok (.aload_n 1, 1) := by decide +kernel
theorem dX11_forgeCopy_24 : decode cX11_forgeCopy 24 = .ok (.invokevirtual 263, 3) := by decide +kernel
theorem dX11_forgeCopy_27 : decode cX11_forgeCopy 27 = .ok (.if_icmp .gt 11, 3) := by decide +kernel
theorem dX11_forgeCopy_30 : decode cX11_forgeCopy 30 = .ok (.iload_n 2, 1) := by decide +kernel
theorem dX11_forgeCopy_31 : decode cX11_forgeCopy 31 = .ok (.iload_n 2, 1) := by decide +kernel
theorem dX11_forgeCopy_32 : decode cX11_forgeCopy 32 = .ok (.iadd, 1) := by decide +kernel
theorem dX11_forgeCopy_33 : decode cX11_forgeCopy 33 = .ok (.bipush 7, 2) := by decide +kernel
theorem dX11_forgeCopy_35 : decode cX11_forgeCopy 35 = .ok (.if_icmp .le 10, 3) := by decide +kernel
theorem dX11_forgeCopy_38 : decode cX11_forgeCopy 38 = .ok (.aload_n 0, 1) := by decide +kernel
theorem dX11_forgeCopy_39 : decode cX11_forgeCopy 39 = .ok (.bipush 12, 2) := by decide +kernel
theorem dX11_forgeCopy_41 : decode cX11_forgeCopy 41 = .ok (.invokevirtual 78, 3) := by decide +kernel
theorem dX11_forgeCopy_44 : decode cX11_forgeCopy 44 = .ok (.ireturn, 1) := by decide +kernel
theorem dX11_forgeCopy_45 : decode cX11_forgeCopy 45 = .ok (.aload_n 0, 1) := by decide +kernel
theorem dX11_forgeCopy_46 : decode cX11_forgeCopy 46 = .ok (.aload_n 1, 1) := by decide +kernel
theorem dX11_forgeCopy_47 : decode cX11_forgeCopy 47 = .ok (.iconst 1, 1) := by decide +kernel
theorem dX11_forgeCopy_48 : decode cX11_forgeCopy 48 = .ok (.iload_n 2, 1) := by decide +kernel
theorem dX11_forgeCopy_49 : decode cX11_forgeCopy 49 = .ok (.invokevirtual 299, 3) := by decide +kernel
theorem dX11_forgeCopy_52 : decode cX11_forgeCopy 52 = .ok (.invokevirtual 90, 3) := by decide +kernel
theorem dX11_forgeCopy_55 : decode cX11_forgeCopy 55 = .ok (.ireturn, 1) := by decide +kernel
theorem dX11_forgeLaying_0 : decode cX11_forgeLaying 0 = .ok (.aload_n 1, 1) := by decide +kernel
theorem dX11_forgeLaying_1 : decode cX11_forgeLaying 1 = .ok (.invokevirtual 260, 3) := by decide +kernel
theorem dX11_forgeLaying_4 : decode cX11_forgeLaying 4 = .ok (.ifCond .eq 9, 3) := by decide +kernel
theorem dX11_forgeLaying_7 : decode cX11_forgeLaying 7 = .ok (.aload_n 0, 1) := by decide +kernel
theorem dX11_forgeLaying_8 : decode cX11_forgeLaying 8 = .ok (.iconst 0, 1) := by decide +kernel
theorem dX11_forgeLaying_9 : decode cX11_forgeLaying 9 = .ok (.invokevirtual 90, 3) := by decide +kernel
theorem dX11_forgeLaying_12 : decode cX11_forgeLaying 12 = .ok (.ireturn, 1) := by decide +kernel
theorem dX11_forgeLaying_13 : decode cX11_forgeLaying 13 = .ok (.aload_n 1, 1) := by decide +kernel
theorem dX11_forgeLaying_14 : decode cX11_forgeLaying 14 = .ok (.iconst 0, 1) := by decide +kernel
theorem dX11_forgeLaying_15 : decode cX11_forgeLaying 15 = .ok (.invokevirtual 302, 3) := by decide +kernel
theorem dX11_forgeLaying_18 : decode cX11_forgeLaying 18 = .ok (.ifCond .eq 14, 3) := by decide +kernel
theorem dX11_forgeLaying_21 : decode cX11_forgeLaying 21 = .ok (.aload_n 0, 1) := by decide +kernel
theorem dX11_forgeLaying_22 : decode cX11_forgeLaying 22 = .ok (.aload_n 1, 1) := by decide +kernel
theorem dX11_forgeLaying_23 : decode cX11_forgeLaying 23 = .ok (.invokevirtual 263, 3) := by decide +kernel
theorem dX11_forgeLaying_26 : decode cX11_forgeLaying 26 = .ok (.invokevirtual 90, 3) := by decide +kernel
theorem dX11_forgeLaying_29 : decode cX11_forgeLaying 29 = .ok (.goto 9, 3) := by decide +kernel
theorem dX11_forgeLaying_32 : decode cX11_forgeLaying 32 = .ok (.aload_n 0, 1) := by decide +kernel
theorem dX11_forgeLaying_33 : decode cX11_forgeLaying 33 = .ok (.bipush 14, 2) := by decide +kernel
theorem dX11_forgeLaying_35 : decode cX11_forgeLaying 35 = .ok (.invokevirtual 78, 3) := by decide +kernel
theorem dX11_forgeLaying_38 : decode cX11_forgeLaying 38 = .ok (.ireturn, 1) := by decide +kernel
theorem dX11_forgeUnit_0 : decode cX11_forgeUnit 0 = .ok (.aload_n 0, 1) := by decide +kernel
theorem dX11_forgeUnit_1 : decode cX11_forgeUnit 1 = .ok (.getfield 10, 3) := by decide +kernel
theorem dX11_forgeUnit_4 : decode cX11_forgeUnit 4 = .ok (.iload_n 1, 1) := by decide +kernel
theorem dX11_forgeUnit_5 : decode cX11_forgeUnit 5 = .ok (.invokevirtual 93, 3) := by decide +kernel
theorem dX11_forgeUnit_8 : decode cX11_forgeUnit 8 = .ok (.ifCond .ne 10, 3) := by decide +kernel
theorem dX11_forgeUnit_11 : decode cX11_forgeUnit 11 = .ok (.aload_n 0, 1) := by decide +kernel
theorem dX11_forgeUnit_12 : decode cX11_forgeUnit 12 = .ok (.bipush 10, 2) := by decide +kernel
theorem dX11_forgeUnit_14 : decode cX11_forgeUnit 14 = .ok (.invokevirtual 78, 3) := by decide +kernel
theorem dX11_forgeUnit_17 : decode cX11_forgeUnit 17 = .ok (.ireturn, 1) := by decide +kernel
theorem dX11_forgeUnit_18 : decode cX11_forgeUnit 18 = .ok (.aload_n 0, 1) := by decide +kernel
theorem dX11_forgeUnit_19 : decode cX11_forgeUnit 19 = .ok (.getfield 59, 3) := by decide +kernel
theorem dX11_forgeUnit_22 : decode cX11_forgeUnit 22 = .ok (.aload_n 0, 1) := by decide +kernel
theorem dX11_forgeUnit_23 : decode cX11_forgeUnit 23 = .ok (.getfield 10, 3) := by decide +kernel
theorem dX11_forgeUnit_26 : decode cX11_forgeUnit 26 = .ok (.iload_n 1, 1) := by decide +kernel
theorem dX11_forgeUnit_27 : decode cX11_forgeUnit 27 = .ok (.invokevirtual 135, 3) := by decide +kernel
theorem dX11_forgeUnit_30 : decode cX11_forgeUnit 30 = .ok (.aaload, 1) := by decide +kernel
theorem dX11_forgeUnit_31 : decode cX11_forgeUnit 31 = .ok (.instanceof 47, 3) := by decide +kernel
theorem dX11_forgeUnit_34 : decode cX11_forgeUnit 34 = .ok (.ifCond .eq 17, 3) := by decide +kernel
theorem dX11_forgeUnit_37 : decode cX11_forgeUnit 37 = .ok (.aload_n 0, 1) := by decide +kernel
theorem dX11_forgeUnit_38 : decode cX11_forgeUnit 38 = .ok (.aload_n 0, 1) := by decide +kernel
theorem dX11_forgeUnit_39 : decode cX11_forgeUnit 39 = .ok (.getfield 10, 3) := by decide +kernel
theorem dX11_forgeUnit_42 : decode cX11_forgeUnit 42 = .ok (.iload_n 1, 1) := by decide +kernel
theorem dX11_forgeUnit_43 : decode cX11_forgeUnit 43 = .ok (.iconst 0, 1) := by decide +kernel
theorem dX11_forgeUnit_44 : decode cX11_forgeUnit 44 = .ok (.invokevirtual 97, 3) := by decide +kernel
theorem dX11_forgeUnit_47 : decode cX11_forgeUnit 47 = .ok (.invokevirtual 90, 3) := by decide +kernel
theorem dX11_forgeUnit_50 : decode cX11_forgeUnit 50 = .ok (.ireturn, 1) := by decide +kernel
theorem dX11_forgeUnit_51 : decode cX11_forgeUnit 51 = .ok (.aload_n 0, 1) := by decide +kernel
theorem dX11_forgeUnit_52 : decode cX11_forgeUnit 52 = .ok (.bipush 11, 2) := by decide +kernel
theorem dX11_forgeUnit_54 : decode cX11_forgeUnit 54 = .ok (.invokevirtual 78, 3) := by decide +kernel
theorem dX11_forgeUnit_57 : decode cX11_forgeUnit 57 = .ok (.ireturn, 1) := by decide +kernel
theorem dX11_isSheet_0 : decode cX11_isSheet 0 = .ok (.iload_n 0, 1) := by decide +kernel
theorem dX11_isSheet_1 : decode cX11_isSheet 1 = .ok (.ifCond .lt 13, 3) := by decide +kernel
theorem dX11_isSheet_4 : decode cX11_isSheet 4 = .ok (.iload_n 0, 1) := by decide +kernel
theorem dX11_isSheet_5 : decode cX11_isSheet 5 = .ok (.bipush 6, 2) := by decide +kernel
theorem dX11_isSheet_7 : decode cX11_isSheet 7 = .ok (.if_icmp .ge 7, 3) := by decide +kernel
theorem dX11_isSheet_10 : decode cX11_isSheet 10 = .ok (.iconst 1, 1) := by decide +kernel
theorem dX11_isSheet_11 : decode cX11_isSheet 11 = .ok (.goto 4, 3) := by decide +kernel
theorem dX11_isSheet_14 : decode cX11_isSheet 14 = .ok (.iconst 0, 1) := by decide +kernel
theorem dX11_isSheet_15 : decode cX11_isSheet 15 = .ok (.ireturn, 1) := by decide +kernel
theorem dX11_asNumber_0 : decode cX11_asNumber 0 = .ok (.iload_n 0, 1) := by decide +kernel
theorem dX11_asNumber_1 : decode cX11_asNumber 1 = .ok (.ifCond .eq 7, 3) := by decide +kernel
theorem dX11_asNumber_4 : decode cX11_asNumber 4 = .ok (.iconst 1, 1) := by decide +kernel
theorem dX11_asNumber_5 : decode cX11_asNumber 5 = .ok (.goto 4, 3) := by decide +kernel
theorem dX11_asNumber_8 : decode cX11_asNumber 8 = .ok (.iconst 0, 1) := by decide +kernel
theorem dX11_asNumber_9 : decode cX11_asNumber 9 = .ok (.ireturn, 1) := by decide +kernel
theorem dX11_hasBit_0 : decode cX11_hasBit 0 = .ok (.iload_n 0, 1) := by decide +kernel
theorem dX11_hasBit_1 : decode cX11_hasBit 1 = .ok (.iload_n 1, 1) := by decide +kernel
theorem dX11_hasBit_2 : decode cX11_hasBit 2 = .ok (.ishr, 1) := by decide +kernel
theorem dX11_hasBit_3 : decode cX11_hasBit 3 = .ok (.iconst 1, 1) := by decide +kernel
theorem dX11_hasBit_4 : decode cX11_hasBit 4 = .ok (.iand, 1) := by decide +kernel
theorem dX11_hasBit_5 : decode cX11_hasBit 5 = .ok (.iconst 1, 1) := by decide +kernel
theorem dX11_hasBit_6 : decode cX11_hasBit 6 = .ok (.if_icmp .ne 7, 3) := by decide +kernel
theorem dX11_hasBit_9 : decode cX11_hasBit 9 = .ok (.iconst 1, 1) := by decide +kernel
theorem dX11_hasBit_10 : decode cX11_hasBit 10 = .ok (.goto 4, 3) := by decide +kernel
theorem dX11_hasBit_13 : decode cX11_hasBit 13 = .ok (.iconst 0, 1) := by decide +kernel
theorem dX11_hasBit_14 : decode cX11_hasBit 14 = .ok (.ireturn, 1) := by decide +kernel
theorem dX12_init_0 : decode cX12_init 0 = .ok (.aload_n 0, 1) := by decide +kernel
theorem dX12_init_1 : decode cX12_init 1 = .ok (.invokespecial 1, 3) := by decide +kernel
theorem dX12_init_4 : decode cX12_init 4 = .ok (.aload_n 0, 1) := by decide +kernel
theorem dX12_init_5 : decode cX12_init 5 = .ok (.bipush 12, 2) := by decide +kernel
theorem dX12_init_7 : decode cX12_init 7 = .ok (.newarray .int, 2) := by decide +kernel
theorem dX12_init_9 : decode cX12_init 9 = .ok (.putfield 7, 3) := by decide +kernel
theorem dX12_init_12 : decode cX12_init 12 = .ok (.aload_n 0, 1) := by decide +kernel
theorem dX12_init_13 : decode cX12_init 13 = .ok (.bipush 12, 2) := by decide +kernel
theorem dX12_init_15 : decode cX12_init 15 = .ok (.newarray .int, 2) := by decide +kernel
theorem dX12_init_17 : decode cX12_init 17 = .ok (.putfield 13, 3) := by decide +kernel
theorem dX12_init_20 : decode cX12_init 20 = .ok (.aload_n 0, 1) := by decide +kernel
theorem dX12_init_21 : decode cX12_init 21 = .ok (.bipush 12, 2) := by decide +kernel
theorem dX12_init_23 : decode cX12_init 23 = .ok (.newarray .int, 2) := by decide +kernel
theorem dX12_init_25 : decode cX12_init 25 = .ok (.putfield 16, 3) := by decide +kernel
theorem dX12_init_28 : decode cX12_init 28 = .ok (.aload_n 0, 1) := by decide +kernel
theorem dX12_init_29 : decode cX12_init 29 = .ok (.bipush 12, 2) := by decide +kernel
theorem dX12_init_31 : decode cX12_init 31 = .ok (.newarray .int, 2) := by decide +kernel
theorem dX12_init_33 : decode cX12_init 33 = .ok (.putfield 19, 3) := by decide +kernel
theorem dX12_init_36 : decode cX12_init 36 = .ok (.aload_n 0, 1) := by decide +kernel
theorem dX12_init_37 : decode cX12_init 37 = .ok (.bipush 12, 2) := by decide +kernel
theorem dX12_init_39 : decode cX12_init 39 = .ok (.newarray .int, 2) := by decide +kernel
theorem dX12_init_41 : decode cX12_init 41 = .ok (.putfield 22, 3) := by decide +kernel
theorem dX12_init_44 : decode cX12_init 44 = .ok (.aload_n 0, 1) := by decide +kernel
theorem dX12_init_45 : decode cX12_init 45 = .ok (.bipush 12, 2) := by decide +kernel
theorem dX12_init_47 : decode cX12_init 47 = .ok (.newarray .int, 2) := by decide +kernel
theorem dX12_init_49 : decode cX12_init 49 = .ok (.putfield 25, 3) := by decide +kernel
theorem dX12_init_52 : decode cX12_init 52 = .ok (.aload_n 0, 1) := by decide +kernel
theorem dX12_init_53 : decode cX12_init 53 = .ok (.bipush 12, 2) := by decide +kernel
theorem dX12_init_55 : decode cX12_init 55 = .ok (.newarray .int, 2) := by decide +kernel
theorem dX12_init_57 : decode cX12_init 57 = .ok (.putfield 28, 3) := by decide +kernel
theorem dX12_init_60 : decode cX12_init 60 = .ok (.aload_n 0, 1) := by decide +kernel
theorem dX12_init_61 : decode cX12_init 61 = .ok (.sipush 576, 3) := by decide +kernel
theorem dX12_init_64 : decode cX12_init 64 = .ok (.newarray .int, 2) := by decide +kernel
theorem dX12_init_66 : decode cX12_init 66 = .ok (.putfield 31, 3) := by decide +kernel
theorem dX12_init_69 : decode cX12_init 69 = .ok (.aload_n 0, 1) := by decide +kernel
theorem dX12_init_70 : decode cX12_init 70 = .ok (.bipush 6, 2) := by decide +kernel
theorem dX12_init_72 : decode cX12_init 72 = .ok (.newarray .int, 2) := by decide +kernel
theorem dX12_init_74 : decode cX12_init 74 = .ok (.putfield 34, 3) := by decide +kernel
theorem dX12_init_77 : decode cX12_init 77 = .ok (.aload_n 0, 1) := by decide +kernel
theorem dX12_init_78 : decode cX12_init 78 = .ok (.bipush 6, 2) := by decide +kernel
theorem dX12_init_80 : decode cX12_init 80 = .ok (.newarray .int, 2) := by decide +kernel
theorem dX12_init_82 : decode cX12_init 82 = .ok (.putfield 37, 3) := by decide +kernel
theorem dX12_init_85 : decode cX12_init 85 = .ok (.aload_n 0, 1) := by decide +kernel
theorem dX12_init_86 : decode cX12_init 86 = .ok (.bipush 120, 2) := by decide +kernel
theorem dX12_init_88 : decode cX12_init 88 = .ok (.newarray .long, 2) := by decide +kernel
theorem dX12_init_90 : decode cX12_init 90 = .ok (.putfield 40, 3) := by decide +kernel
theorem dX12_init_93 : decode cX12_init 93 = .ok (.aload_n 0, 1) := by decide +kernel
theorem dX12_init_94 : decode cX12_init 94 = .ok (.bipush 50, 2) := by decide +kernel
theorem dX12_init_96 : decode cX12_init 96 = .ok (.newarray .int, 2) := by decide +kernel
theorem dX12_init_98 : decode cX12_init 98 = .ok (.putfield 44, 3) := by decide +kernel
theorem dX12_init_101 : decode cX12_init 101 = .ok (.aload_n 0, 1) := by decide +kernel
theorem dX12_init_102 : decode cX12_init 102 = .ok (.sipush 4096, 3) := by decide +kernel
theorem dX12_init_105 : decode cX12_init 105 = .ok (.newarray .int, 2) := by decide +kernel
theorem dX12_init_107 : decode cX12_init 107 = .ok (.putfield 47, 3) := by decide +kernel
theorem dX12_init_110 : decode cX12_init 110 = .ok (.aload_n 0, 1) := by decide +kernel
theorem dX12_init_111 : decode cX12_init 111 = .ok (.sipush 4096, 3) := by decide +kernel
theorem dX12_init_114 : decode cX12_init 114 = .ok (.newarray .int, 2) := by decide +kernel
theorem dX12_init_116 : decode cX12_init 116 = .ok (.putfield 50, 3) := by decide +kernel
theorem dX12_init_119 : decode cX12_init 119 = .ok (.aload_n 0, 1) := by decide +kernel
theorem dX12_init_120 : decode cX12_init 120 = .ok (.sipush 4096, 3) := by decide +kernel
theorem dX12_init_123 : decode cX12_init 123 = .ok (.newarray .int, 2) := by decide +kernel
theorem dX12_init_125 : decode cX12_init 125 = .ok (.putfield 53, 3) := by decide +kernel
theorem dX12_init_128 : decode cX12_init 128 = .ok (.aload_n 0, 1) := by decide +kernel
theorem dX12_init_129 : decode cX12_init 129 = .ok (.sipush 4096, 3) := by decide +kernel
theorem dX12_init_132 : decode cX12_init 132 = .ok (.newarray .int, 2) := by decide +kernel
theorem dX12_init_134 : decode cX12_init 134 = .ok (.putfield 56, 3) := by decide +kernel
theorem dX12_init_137 : decode cX12_init 137 = .ok (.aload_n 0, 1) := by decide +kernel
theorem dX12_init_138 : decode cX12_init 138 = .ok (.bipush 12, 2) := by decide +kernel
theorem dX12_init_140 : decode cX12_init 140 = .ok (.newarray .int, 2) := by decide +kernel
theorem dX12_init_142 : decode cX12_init 142 = .ok (.putfield 59, 3) := by decide +kernel
theorem dX12_init_145 : decode cX12_init 145 = .ok (.aload_n 0, 1) := by decide +kernel
theorem dX12_init_146 : decode cX12_init 146 = .ok (.bipush 12, 2) := by decide +kernel
theorem dX12_init_148 : decode cX12_init 148 = .ok (.newarray .int, 2) := by decide +kernel
theorem dX12_init_150 : decode cX12_init 150 = .ok (.putfield 62, 3) := by decide +kernel
theorem dX12_init_153 : decode cX12_init 153 = .ok (.aload_n 0, 1) := by decide +kernel
theorem dX12_init_154 : decode cX12_init 154 = .ok (.bipush 12, 2) := by decide +kernel
theorem dX12_init_156 : decode cX12_init 156 = .ok (.newarray .int, 2) := by decide +kernel
theorem dX12_init_158 : decode cX12_init 158 = .ok (.putfield 65, 3) := by decide +kernel
theorem dX12_init_161 : decode cX12_init 161 = .ok (.aload_n 0, 1) := by decide +kernel
theorem dX12_init_162 : decode cX12_init 162 = .ok (.bipush 12, 2) := by decide +kernel
theorem dX12_init_164 : decode cX12_init 164 = .ok (.newarray .int, 2) := by decide +kernel
theorem dX12_init_166 : decode cX12_init 166 = .ok (.putfield 68, 3) := by decide +kernel
theorem dX12_init_169 : decode cX12_init 169 = .ok (.iconst 0, 1) := by decide +kernel
theorem dX12_init_170 : decode cX12_init 170 = .ok (.istore_n 1, 1) := by decide +kernel
theorem dX12_init_171 : decode cX12_init 171 = .ok (.iload_n 1, 1) := by decide +kernel
theorem dX12_init_172 : decode cX12_init 172 = .ok (.bipush 6, 2) := by decide +kernel
theorem dX12_init_174 : decode cX12_init 174 = .ok (.if_icmp .ge 16, 3) := by decide +kernel
theorem dX12_init_177 : decode cX12_init 177 = .ok (.aload_n 0, 1) := by decide +kernel
theorem dX12_init_178 : decode cX12_init 178 = .ok (.getfield 34, 3) := by decide +kernel
theorem dX12_init_181 : decode cX12_init 181 = .ok (.iload_n 1, 1) := by decide +kernel
theorem dX12_init_182 : decode cX12_init 182 = .ok (.iconst (-1), 1) := by decide +kernel
theorem dX12_init_183 : decode cX12_init 183 = .ok (.iastore, 1) := by decide +kernel
theorem dX12_init_184 : decode cX12_init 184 = .ok (.iinc 1 1, 3) := by decide +kernel
theorem dX12_init_187 : decode cX12_init 187 = .ok (.goto (-16), 3) := by decide +kernel
theorem dX12_init_190 : decode cX12_init 190 = .ok (.return_, 1) := by decide +kernel
theorem dX12_in_0 : decode cX12_in 0 = .ok (.iload_n 0, 1) := by decide +kernel
theorem dX12_in_1 : decode cX12_in 1 = .ok (.iload_n 1, 1) := by decide +kernel
theorem dX12_in_2 : decode cX12_in 2 = .ok (.if_icmp .lt 12, 3) := by decide +kernel
theorem dX12_in_5 : decode cX12_in 5 = .ok (.iload_n 0, 1) := by decide +kernel
theorem dX12_in_6 : decode cX12_in 6 = .ok (.iload_n 2, 1) := by decide +kernel
theorem dX12_in_7 : decode cX12_in 7 = .ok (.if_icmp .gt 7, 3) := by decide +kernel
theorem dX12_in_10 : decode cX12_in 10 = .ok (.iconst 1, 1) := by decide +kernel
theorem dX12_in_11 : decode cX12_in 11 = .ok (.goto 4, 3) := by decide +kernel
theorem dX12_in_14 : decode cX12_in 14 = .ok (.iconst 0, 1) := by decide +kernel
theorem dX12_in_15 : decode cX12_in 15 = .ok (.ireturn, 1) := by decide +kernel
theorem dX12_refused_0 : decode cX12_refused 0 = .ok (.aload_n 0, 1) := by decide +kernel
theorem dX12_refused_1 : decode cX12_refused 1 = .ok (.iload_n 1, 1) := by decide +kernel
theorem dX12_refused_2 : decode cX12_refused 2 = .ok (.putfield 71, 3) := by decide +kernel
theorem dX12_refused_5 : decode cX12_refused 5 = .ok (.iconst (-1), 1) := by decide +kernel
theorem dX12_refused_6 : decode cX12_refused 6 = .ok (.ireturn, 1) := by decide +kernel
theorem dX12_done_0 : decode cX12_done 0 = .ok (.aload_n 0, 1) := by decide +kernel
theorem dX12_done_1 : decode cX12_done 1 = .ok (.iconst 0, 1) := by decide +kernel
theorem dX12_done_2 : decode cX12_done 2 = .ok (.putfield 71, 3) := by decide +kernel
theorem dX12_done_5 : decode cX12_done 5 = .ok (.iload_n 1, 1) := by decide +kernel
theorem dX12_done_6 : decode cX12_done 6 = .ok (.ireturn, 1) := by decide +kernel
theorem dX12_isJob_0 : decode cX12_isJob 0 = .ok (.iload_n 1, 1) := by decide +kernel
theorem dX12_isJob_1 : decode cX12_isJob 1 = .ok (.iconst 0, 1) := by decide +kernel
theorem dX12_isJob_2 : decode cX12_isJob 2 = .ok (.aload_n 0, 1) := by decide +kernel
theorem dX12_isJob_3 : decode cX12_isJob 3 = .ok (.getfield 75, 3) := by decide +kernel
theorem dX12_isJob_6 : decode cX12_isJob 6 = .ok (.iconst 1, 1) := by decide +kernel
theorem dX12_isJob_7 : decode cX12_isJob 7 = .ok (.isub, 1) := by decide +kernel
theorem dX12_isJob_8 : decode cX12_isJob 8 = .ok (.invokestatic 78, 3) := by decide +kernel
theorem dX12_isJob_11 : decode cX12_isJob 11 = .ok (.ireturn, 1) := by decide +kernel
theorem dX12_has_0 : decode cX12_has 0 = .ok (.iload_n 0, 1) := by decide +kernel
theorem dX12_has_1 : decode cX12_has 1 = .ok (.iload_n 1, 1) := by decide +kernel
theorem dX12_has_2 : decode cX12_has 2 = .ok (.ishr, 1) := by decide +kernel
theorem dX12_has_3 : decode cX12_has 3 = .ok (.iconst 1, 1) := by decide +kernel
theorem dX12_has_4 : decode cX12_has 4 = .ok (.iand, 1) := by decide +kernel
theorem dX12_has_5 : decode cX12_has 5 = .ok (.iconst 1, 1) := by decide +kernel
theorem dX12_has_6 : decode cX12_has 6 = .ok (.if_icmp .ne 7, 3) := by decide +kernel
theorem dX12_has_9 : decode cX12_has 9 = .ok (.iconst 1, 1) := by decide +kernel
theorem dX12_has_10 : decode cX12_has 10 = .ok (.goto 4, 3) := by decide +kernel
theorem dX12_has_13 : decode cX12_has 13 = .ok (.iconst 0, 1) := by decide +kernel
theorem dX12_has_14 : decode cX12_has 14 = .ok (.ireturn, 1) := by decide +kernel
theorem dX12_bits_0 : decode cX12_bits 0 = .ok (.iconst 0, 1) := by decide +kernel
theorem dX12_bits_1 : decode cX12_bits 1 = .ok (.istore_n 1, 1) := by decide +kernel
theorem dX12_bits_2 : decode cX12_bits 2 = .ok (.iconst 0, 1) := by decide +kernel
theorem dX12_bits_3 : decode cX12_bits 3 = .ok (.istore_n 2, 1) := by decide +kernel
theorem dX12_bits_4 : decode cX12_bits 4 = .ok (.iload_n 2, 1) := by decide +kernel
theorem dX12_bits_5 : decode cX12_bits 5 = .ok (.bipush 12, 2) := by decide +kernel
theorem dX12_bits_7 : decode cX12_bits 7 = .ok (.if_icmp .ge 17, 3) := by decide +kernel
theorem dX12_bits_10 : decode cX12_bits 10 = .ok (.iload_n 1, 1) := by decide +kernel
theorem dX12_bits_11 : decode cX12_bits 11 = .ok (.iload_n 0, 1) := by decide +kernel
theorem dX12_bits_12 : decode cX12_bits 12 = .ok (.iload_n 2, 1) := by decide +kernel
theorem dX12_bits_13 : decode cX12_bits 13 = .ok (.ishr, 1) := by decide +kernel
theorem dX12_bits_14 : decode cX12_bits 14 = .ok (.iconst 1, 1) := by decide +kernel
theorem dX12_bits_15 : decode cX12_bits 15 = .ok (.iand, 1) := by decide +kernel
theorem dX12_bits_16 : decode cX12_bits 16 = .ok (.iadd, 1) := by decide +kernel
theorem dX12_bits_17 : decode cX12_bits 17 = .ok (.istore_n 1, 1) := by decide +kernel
theorem dX12_bits_18 : decode cX12_bits 18 = .ok (.iinc 2 1, 3) := by decide +kernel
theorem dX12_bits_21 : decode cX12_bits 21 = .ok (.goto (-17), 3) := by decide +kernel
theorem dX12_bits_24 : decode cX12_bits 24 = .ok (.iload_n 1, 1) := by decide +kernel
theorem dX12_bits_25 : decode cX12_bits 25 = .ok (.ireturn, 1) := by decide +kernel
theorem dX12_close_0 : decode cX12_close 0 = .ok (.iconst 0, 1) := by decide +kernel
theorem dX12_close_1 : decode cX12_close 1 = .ok (.istore_n 1, 1) := by decide +kernel
theorem dX12_close_2 : decode cX12_close 2 = .ok (.iload_n 1, 1) := by decide +kernel
theorem dX12_close_3 : decode cX12_close 3 = .ok (.aload_n 0, 1) := by decide +kernel
theorem dX12_close_4 : decode cX12_close 4 = .ok (.getfield 75, 3) := by decide +kernel
theorem dX12_close_7 : decode cX12_close 7 = .ok (.if_icmp .ge 21, 3) := by decide +kernel
theorem dX12_close_10 : decode cX12_close 10 = .ok (.aload_n 0, 1) := by decide +kernel
theorem dX12_close_11 : decode cX12_close 11 = .ok (.getfield 22, 3) := by decide +kernel
theorem dX12_close_14 : decode cX12_close 14 = .ok (.iload_n 1, 1) := by decide +kernel
theorem dX12_close_15 : decode cX12_close 15 = .ok (.aload_n 0, 1) := by decide +kernel
theorem dX12_close_16 : decode cX12_close 16 = .ok (.getfield 19, 3) := by decide +kernel
theorem dX12_close_19 : decode cX12_close 19 = .ok (.iload_n 1, 1) := by decide +kernel
theorem dX12_close_20 : decode cX12_close 20 = .ok (.iaload, 1) := by decide +kernel
theorem dX12_close_21 : decode cX12_close 21 = .ok (.iastore, 1) := by decide +kernel
theorem dX12_close_22 : decode cX12_close 22 = .ok (.iinc 1 1, 3) := by decide +kernel
theorem dX12_close_25 : decode cX12_close 25 = .ok (.goto (-23), 3) := by decide +kernel
theorem dX12_close_28 : decode cX12_close 28 = .ok (.iconst 0, 1) := by decide +kernel
theorem dX12_close_29 : decode cX12_close 29 = .ok (.istore_n 1, 1) := by decide +kernel
theorem dX12_close_30 : decode cX12_close 30 = .ok (.iload_n 1, 1) := by decide +kernel
theorem dX12_close_31 : decode cX12_close 31 = .ok (.aload_n 0, 1) := by decide +kernel
theorem dX12_close_32 : decode cX12_close 32 = .ok (.getfield 75, 3) := by decide +kernel
theorem dX12_close_35 : decode cX12_close 35 = .ok (.if_icmp .ge 57, 3) := by decide +kernel
theorem dX12_close_38 : decode cX12_close 38 = .ok (.iconst 0, 1) := by decide +kernel
theorem dX12_close_39 : decode cX12_close 39 = .ok (.istore_n 2, 1) := by decide +kernel
theorem dX12_close_40 : decode cX12_close 40 = .ok (.iload_n 2, 1) := by decide +kernel
theorem dX12_close_41 : decode cX12_close 41 = .ok (.aload_n 0, 1) := by decide +kernel
theorem dX12_close_42 : decode cX12_close 42 = .ok (.getfield 75, 3) := by decide +kernel
theorem dX12_close_45 : decode cX12_close 45 = .ok (.if_icmp .ge 41, 3) := by decide +kernel
theorem dX12_close_48 : decode cX12_close 48 = .ok (.aload_n 0, 1) := by decide +kernel
theorem dX12_close_49 : decode cX12_close 49 = .ok (.getfield 22, 3) := by decide +kernel
theorem dX12_close_52 : decode cX12_close 52 = .ok (.iload_n 2, 1) := by decide +kernel
theorem dX12_close_53 : decode cX12_close 53 = .ok (.dup2, 1) := by decide +kernel
theorem dX12_close_54 : decode cX12_close 54 = .ok (.iaload, 1) := by decide +kernel
theorem dX12_close_55 : decode cX12_close 55 = .ok (.aload_n 0, 1) := by decide +kernel
theorem dX12_close_56 : decode cX12_close 56 = .ok (.getfield 22, 3) := by decide +kernel
theorem dX12_close_59 : decode cX12_close 59 = .ok (.iload_n 2, 1) := by decide +kernel
theorem dX12_close_60 : decode cX12_close 60 = .ok (.iaload, 1) := by decide +kernel
theorem dX12_close_61 : decode cX12_close 61 = .ok (.iload_n 1, 1) := by decide +kernel
theorem dX12_close_62 : decode cX12_close 62 = .ok (.invokestatic 82, 3) := by decide +kernel
theorem dX12_close_65 : decode cX12_close 65 = .ok (.ifCond .eq 12, 3) := by decide +kernel
theorem dX12_close_68 : decode cX12_close 68 = .ok (.aload_n 0, 1) := by decide +kernel
theorem dX12_close_69 : decode cX12_close 69 = .ok (.getfield 22, 3) := by decide +kernel
theorem dX12_close_72 : decode cX12_close 72 = .ok (.iload_n 1, 1) := by decide +kernel
theorem dX12_close_73 : decode cX12_close 73 = .ok (.iaload, 1) := by decide +kernel
theorem dX12_close_74 : decode cX12_close 74 = .ok (.goto 4, 3) := by decide +kernel
theorem dX12_close_77 : decode cX12_close 77 = .ok (.iconst 0, 1) := by decide +kernel
theorem dX12_close_78 : decode cX12_close 78 = .ok (.ior, 1) := by decide +kernel
theorem dX12_close_79 : decode cX12_close 79 = .ok (.iastore, 1) := by decide +kernel
theorem dX12_close_80 : decode cX12_close 80 = .ok (.iinc 2 1, 3) := by decide +kernel
theorem dX12_close_83 : decode cX12_close 83 = .ok (.goto (-43), 3) := by decide +kernel
theorem dX12_close_86 : decode cX12_close 86 = .ok (.iinc 1 1, 3) := by decide +kernel
theorem dX12_close_89 : decode cX12_close 89 = .ok (.goto (-59), 3) := by decide +kernel
theorem dX12_close_92 : decode cX12_close 92 = .ok (.return_, 1) := by decide +kernel
theorem dX12_keep_0 : decode cX12_keep 0 = .ok (.aload_n 0, 1) := by decide +kernel
theorem dX12_keep_1 : decode cX12_keep 1 = .ok (.getfield 86, 3) := by decide +kernel
theorem dX12_keep_4 : decode cX12_keep 4 = .ok (.bipush 12, 2) := by decide +kernel
theorem dX12_keep_6 : decode cX12_keep 6 = .ok (.if_icmp .ne 81, 3) := by decide +kernel
theorem dX12_keep_9 : decode cX12_keep 9 = .ok (.aload_n 0, 1) := by decide +kernel
theorem dX12_keep_10 : decode cX12_keep 10 = .ok (.dup, 1) := by decide +kernel
theorem dX12_keep_11 : decode cX12_keep 11 = .ok (.getfield 86, 3) := by decide +kernel
theorem dX12_keep_14 : decode cX12_keep 14 = .ok (.iconst 1, 1) := by decide +kernel
theorem dX12_keep_15 : decode cX12_keep 15 = .ok (.isub, 1) := by decide +kernel
theorem dX12_keep_16 : decode cX12_keep 16 = .ok (.putfield 86, 3) := by decide +kernel
theorem dX12_keep_19 : decode cX12_keep 19 = .ok (.iconst 0, 1) := by decide +kernel
theorem dX12_keep_20 : decode cX12_keep 20 = .ok (.istore_n 1, 1) := by decide +kernel
theorem dX12_keep_21 : decode cX12_keep 21 = .ok (.iload_n 1, 1) := by decide +kernel
theorem dX12_keep_22 : decode cX12_keep 22 = .ok (.aload_n 0, 1) := by decide +kernel
theorem dX12_keep_23 : decode cX12_keep 23 = .ok (.getfield 86, 3) := by decide +kernel
theorem dX12_keep_26 : decode cX12_keep 26 = .ok (.if_icmp .ge 61, 3) := by decide +kernel
theorem dX12_keep_29 : decode cX12_keep 29 = .ok (.aload_n 0, 1) := by decide +kernel
theorem dX12_keep_30 : decode cX12_keep 30 = .ok (.getfield 28, 3) := by decide +kernel
theorem dX12_keep_33 : decode cX12_keep 33 = .ok (.iload_n 1, 1) := by decide +kernel
theorem dX12_keep_34 : decode cX12_keep 34 = .ok (.aload_n 0, 1) := by decide +kernel
theorem dX12_keep_35 : decode cX12_keep 35 = .ok (.getfield 28, 3) := by decide +kernel
theorem dX12_keep_38 : decode cX12_keep 38 = .ok (.iload_n 1, 1) := by decide +kernel
theorem dX12_keep_39 : decode cX12_keep 39 = .ok (.iconst 1, 1) := by decide +kernel
theorem dX12_keep_40 : decode cX12_keep 40 = .ok (.iadd, 1) := by decide +kernel
theorem dX12_keep_41 : decode cX12_keep 41 = .ok (.iaload, 1) := by decide +kernel
theorem dX12_keep_42 : decode cX12_keep 42 = .ok (.iastore, 1) := by decide +kernel
theorem dX12_keep_43 : decode cX12_keep 43 = .ok (.iconst 0, 1) := by decide +kernel
theorem dX12_keep_44 : decode cX12_keep 44 = .ok (.istore_n 2, 1) := by decide +kernel
theorem dX12_keep_45 : decode cX12_keep 45 = .ok (.iload_n 2, 1) := by decide +kernel
theorem dX12_keep_46 : decode cX12_keep 46 = .ok (.bipush 48, 2) := by decide +kernel
theorem dX12_keep_48 : decode cX12_keep 48 = .ok (.if_icmp .ge 33, 3) := by decide +kernel
theorem dX12_keep_51 : decode cX12_keep 51 = .ok (.aload_n 0, 1) := by decide +kernel
theorem dX12_keep_52 : decode cX12_keep 52 = .ok (.getfield 31, 3) := by decide +kernel
theorem dX12_keep_55 : decode cX12_keep 55 = .ok (.bipush 48, 2) := by decide +kernel
theorem dX12_keep_57 : decode cX12_keep 57 = .ok (.iload_n 1, 1) := by decide +kernel
theorem dX12_keep_58 : decode cX12_keep 58 = .ok (.imul, 1) := by decide +kernel
theorem dX12_keep_59 : decode cX12_keep 59 = .ok (.iload_n 2, 1) := by decide +kernel
theorem dX12_keep_60 : decode cX12_keep 60 = .ok (.iadd, 1) := by decide +kernel
theorem dX12_keep_61 : decode cX12_keep 61 = .ok (.aload_n 0, 1) := by decide +kernel
theorem dX12_keep_62 : decode cX12_keep 62 = .ok (.getfield 31, 3) := by decide +kernel
theorem dX12_keep_65 : decode cX12_keep 65 = .ok (.bipush 48, 2) := by decide +kernel
theorem dX12_keep_67 : decode cX12_keep 67 = .ok (.iload_n 1, 1) := by decide +kernel
theorem dX12_keep_68 : decode cX12_keep 68 = .ok (.iconst 1, 1) := by decide +kernel
theorem dX12_keep_69 : decode cX12_keep 69 = .ok (.iadd, 1) := by decide +kernel
theorem dX12_keep_70 : decode cX12_keep 70 = .ok (.imul, 1) := by decide +kernel
theorem dX12_keep_71 : decode cX12_keep 71 = .ok (.iload_n 2, 1) := by decide +kernel
theorem dX12_keep_72 : decode cX12_keep 72 = .ok (.iadd, 1) := by decide +kernel
theorem dX12_keep_73 : decode cX12_keep 73 = .ok (.iaload, 1) := by decide +kernel
theorem dX12_keep_74 : decode cX12_keep 74 = .ok (.iastore, 1) := by decide +kernel
theorem dX12_keep_75 : decode cX12_keep 75 = .ok (.iinc 2 1, 3) := by decide +kernel
theorem dX12_keep_78 : decode cX12_keep 78 = .ok (.goto (-33), 3) := by decide +kernel
theorem dX12_keep_81 : decode cX12_keep 81 = .ok (.iinc 1 1, 3) := by decide +kernel
theorem dX12_keep_84 : decode cX12_keep 84 = .ok (.goto (-63), 3) := by decide +kernel
theorem dX12_keep_87 : decode cX12_keep 87 = .ok (.aload_n 0, 1) := by decide +kernel
theorem dX12_keep_88 : decode cX12_keep 88 = .ok (.getfield 28, 3) := by decide +kernel
theorem dX12_keep_91 : decode cX12_keep 91 = .ok (.aload_n 0, 1) := by decide +kernel
theorem dX12_keep_92 : decode cX12_keep 92 = .ok (.getfield 86, 3) := by decide +kernel
theorem dX12_keep_95 : decode cX12_keep 95 = .ok (.aload_n 0, 1) := by decide +kernel
theorem dX12_keep_96 : decode cX12_keep 96 = .ok (.getfield 75, 3) := by decide +kernel
theorem dX12_keep_99 : decode cX12_keep 99 = .ok (.iastore, 1) := by decide +kernel
theorem dX12_keep_100 : decode cX12_keep 100 = .ok (.iconst 0, 1) := by decide +kernel
theorem dX12_keep_101 : decode cX12_keep 101 = .ok (.istore_n 1, 1) := by decide +kernel
theorem dX12_keep_102 : decode cX12_keep 102 = .ok (.iload_n 1, 1) := by decide +kernel
theorem dX12_keep_103 : decode cX12_keep 103 = .ok (.bipush 12, 2) := by decide +kernel
theorem dX12_keep_105 : decode cX12_keep 105 = .ok (.if_icmp .ge 75, 3) := by decide +kernel
theorem dX12_keep_108 : decode cX12_keep 108 = .ok (.bipush 48, 2) := by decide +kernel
theorem dX12_keep_110 : decode cX12_keep 110 = .ok (.aload_n 0, 1) := by decide +kernel
theorem dX12_keep_111 : decode cX12_keep 111 = .ok (.getfield 86, 3) := by decide +kernel
theorem dX12_keep_114 : decode cX12_keep 114 = .ok (.imul, 1) := by decide +kernel
theorem dX12_keep_115 : decode cX12_keep 115 = .ok (.iconst 4, 1) := by decide +kernel
theorem dX12_keep_116 : decode cX12_keep 116 = .ok (.iload_n 1, 1) := by decide +kernel
theorem dX12_keep_117 : decode cX12_keep 117 = .ok (.imul, 1) := by decide +kernel
theorem dX12_keep_118 : decode cX12_keep 118 = .ok (.iadd, 1) := by decide +kernel
theorem dX12_keep_119 : decode cX12_keep 119 = .ok (.istore_n 2, 1) := by decide +kernel
theorem dX12_keep_120 : decode cX12_keep 120 = .ok (.aload_n 0, 1) := by decide +kernel
theorem dX12_keep_121 : decode cX12_keep 121 = .ok (.getfield 31, 3) := by decide +kernel
theorem dX12_keep_124 : decode cX12_keep 124 = .ok (.iload_n 2, 1) := by decide +kernel
theorem dX12_keep_125 : decode cX12_keep 125 = .ok (.aload_n 0, 1) := by decide +kernel
theorem dX12_keep_126 : decode cX12_keep 126 = .ok (.getfield 7, 3) := by decide +kernel
theorem dX12_keep_129 : decode cX12_keep 129 = .ok (.iload_n 1, 1) := by decide +kernel
theorem dX12_keep_130 : decode cX12_keep 130 = .ok (.iaload, 1) := by decide +kernel
theorem dX12_keep_131 : decode cX12_keep 131 = .ok (.iastore, 1) := by decide +kernel
theorem dX12_keep_132 : decode cX12_keep 132 = .ok (.aload_n 0, 1) := by decide +kernel
theorem dX12_keep_133 : decode cX12_keep 133 = .ok (.getfield 31, 3) := by decide +kernel
theorem dX12_keep_136 : decode cX12_keep 136 = .ok (.iload_n 2, 1) := by decide +kernel
theorem dX12_keep_137 : decode cX12_keep 137 = .ok (.iconst 1, 1) := by decide +kernel
theorem dX12_keep_138 : decode cX12_keep 138 = .ok (.iadd, 1) := by decide +kernel
theorem dX12_keep_139 : decode cX12_keep 139 = .ok (.aload_n 0, 1) := by decide +kernel
theorem dX12_keep_140 : decode cX12_keep 140 = .ok (.getfield 13, 3) := by decide +kernel
theorem dX12_keep_143 : decode cX12_keep 143 = .ok (.iload_n 1, 1) := by decide +kernel
theorem dX12_keep_144 : decode cX12_keep 144 = .ok (.iaload, 1) := by decide +kernel
theorem dX12_keep_145 : decode cX12_keep 145 = .ok (.iastore, 1) := by decide +kernel
theorem dX12_keep_146 : decode cX12_keep 146 = .ok (.aload_n 0, 1) := by decide +kernel
theorem dX12_keep_147 : decode cX12_keep 147 = .ok (.getfield 31, 3) := by decide +kernel
theorem dX12_keep_150 : decode cX12_keep 150 = .ok (.iload_n 2, 1) := by decide +kernel
theorem dX12_keep_151 : decode cX12_keep 151 = .ok (.iconst 2, 1) := by decide +kernel
theorem dX12_keep_152 : decode cX12_keep 152 = .ok (.iadd, 1) := by decide +kernel
theorem dX12_keep_153 : decode cX12_keep 153 = .ok (.aload_n 0, 1) := by decide +kernel
theorem dX12_keep_154 : decode cX12_keep 154 = .ok (.getfield 16, 3) := by decide +kernel
theorem dX12_keep_157 : decode cX12_keep 157 = .ok (.iload_n 1, 1) := by decide +kernel
theorem dX12_keep_158 : decode cX12_keep 158 = .ok (.iaload, 1) := by decide +kernel
theorem dX12_keep_159 : decode cX12_keep 159 = .ok (.iastore, 1) := by decide +kernel
theorem dX12_keep_160 : decode cX12_keep 160 = .ok (.aload_n 0, 1) := by decide +kernel
theorem dX12_keep_161 : decode cX12_keep 161 = .ok (.getfield 31, 3) := by decide +kernel
theorem dX12_keep_164 : decode cX12_keep 164 = .ok (.iload_n 2, 1) := by decide +kernel
theorem dX12_keep_165 : decode cX12_keep 165 = .ok (.iconst 3, 1) := by decide +kernel
theorem dX12_keep_166 : decode cX12_keep 166 = .ok (.iadd, 1) := by decide +kernel
theorem dX12_keep_167 : decode cX12_keep 167 = .ok (.aload_n 0, 1) := by decide +kernel
theorem dX12_keep_168 : decode cX12_keep 168 = .ok (.getfield 19, 3) := by decide +kernel
theorem dX12_keep_171 : decode cX12_keep 171 = .ok (.iload_n 1, 1) := by decide +kernel
theorem dX12_keep_172 : decode cX12_keep 172 = .ok (.iaload, 1) := by decide +kernel
theorem dX12_keep_173 : decode cX12_keep 173 = .ok (.iastore, 1) := by decide +kernel
theorem dX12_keep_174 : decode cX12_keep 174 = .ok (.iinc 1 1, 3) := by decide +kernel
theorem dX12_keep_177 : decode cX12_keep 177 = .ok (.goto (-75), 3) := by decide +kernel
theorem dX12_keep_180 : decode cX12_keep 180 = .ok (.aload_n 0, 1) := by decide +kernel
theorem dX12_keep_181 : decode cX12_keep 181 = .ok (.dup, 1) := by decide +kernel
theorem dX12_keep_182 : decode cX12_keep 182 = .ok (.getfield 86, 3) := by decide +kernel
theorem dX12_keep_185 : decode cX12_keep 185 = .ok (.iconst 1, 1) := by decide +kernel
theorem dX12_keep_186 : decode cX12_keep 186 = .ok (.iadd, 1) := by decide +kernel
theorem dX12_keep_187 : decode cX12_keep 187 = .ok (.putfield 86, 3) := by decide +kernel
theorem dX12_keep_190 : decode cX12_keep 190 = .ok (.return_, 1) := by decide +kernel
theorem dX12_undo_0 : decode cX12_undo 0 = .ok (.aload_n 0, 1) := by decide +kernel
theorem dX12_undo_1 : decode cX12_undo 1 = .ok (.getfield 86, 3) := by decide +kernel
theorem dX12_undo_4 : decode cX12_undo 4 = .ok (.ifCond .ne 9, 3) := by decide +kernel
theorem dX12_undo_7 : decode cX12_undo 7 = .ok (.aload_n 0, 1) := by decide +kernel
theorem dX12_undo_8 : decode cX12_undo 8 = .ok (.iconst 3, 1) := by decide +kernel
theorem dX12_undo_9 : decode cX12_undo 9 = .ok (.invokevirtual 89, 3) := by decide +kernel
theorem dX12_undo_12 : decode cX12_undo 12 = .ok (.ireturn, 1) := by decide +kernel
theorem dX12_undo_13 : decode cX12_undo 13 = .ok (.aload_n 0, 1) := by decide +kernel
theorem dX12_undo_14 : decode cX12_undo 14 = .ok (.dup, 1) := by decide +kernel
theorem dX12_undo_15 : decode cX12_undo 15 = .ok (.getfield 86, 3) := by decide +kernel
theorem dX12_undo_18 : decode cX12_undo 18 = .ok (.iconst 1, 1) := by decide +kernel
theorem dX12_undo_19 : decode cX12_undo 19 = .ok (.isub, 1) := by decide +kernel
theorem dX12_undo_20 : decode cX12_undo 20 = .ok (.putfield 86, 3) := by decide +kernel
theorem dX12_undo_23 : decode cX12_undo 23 = .ok (.aload_n 0, 1) := by decide +kernel
theorem dX12_undo_24 : decode cX12_undo 24 = .ok (.aload_n 0, 1) := by decide +kernel
theorem dX12_undo_25 : decode cX12_undo 25 = .ok (.getfield 28, 3) := by decide +kernel
theorem dX12_undo_28 : decode cX12_undo 28 = .ok (.aload_n 0, 1) := by decide +kernel
theorem dX12_undo_29 : decode cX12_undo 29 = .ok (.getfield 86, 3) := by decide +kernel
theorem dX12_undo_32 : decode cX12_undo 32 = .ok (.iaload, 1) := by decide +kernel
theorem dX12_undo_33 : decode cX12_undo 33 = .ok (.putfield 75, 3) := by decide +kernel
theorem dX12_undo_36 : decode cX12_undo 36 = .ok (.iconst 0, 1) := by decide +kernel
theorem dX12_undo_37 : decode cX12_undo 37 = .ok (.istore_n 1, 1) := by decide +kernel
theorem dX12_undo_38 : decode cX12_undo 38 = .ok (.iload_n 1, 1) := by decide +kernel
theorem dX12_undo_39 : decode cX12_undo 39 = .ok (.bipush 12, 2) := by decide +kernel
theorem dX12_undo_41 : decode cX12_undo 41 = .ok (.if_icmp .ge 75, 3) := by decide +kernel
theorem dX12_undo_44 : decode cX12_undo 44 = .ok (.bipush 48, 2) := by decide +kernel
theorem dX12_undo_46 : decode cX12_undo 46 = .ok (.aload_n 0, 1) := by decide +kernel
theorem dX12_undo_47 : decode cX12_undo 47 = .ok (.getfield 86, 3) := by decide +kernel
theorem dX12_undo_50 : decode cX12_undo 50 = .ok (.imul, 1) := by decide +kernel
theorem dX12_undo_51 : decode cX12_undo 51 = .ok (.iconst 4, 1) := by decide +kernel
theorem dX12_undo_52 : decode cX12_undo 52 = .ok (.iload_n 1, 1) := by decide +kernel
theorem dX12_undo_53 : decode cX12_undo 53 = .ok (.imul, 1) := by decide +kernel
theorem dX12_undo_54 : decode cX12_undo 54 = .ok (.iadd, 1) := by decide +kernel
theorem dX12_undo_55 : decode cX12_undo 55 = .ok (.istore_n 2, 1) := by decide +kernel
theorem dX12_undo_56 : decode cX12_undo 56 = .ok (.aload_n 0, 1) := by decide +kernel
theorem dX12_undo_57 : decode cX12_undo 57 = .ok (.getfield 7, 3) := by decide +kernel
theorem dX12_undo_60 : decode cX12_undo 60 = .ok (.iload_n 1, 1) := by decide +kernel
theorem dX12_undo_61 : decode cX12_undo 61 = .ok (.aload_n 0, 1) := by decide +kernel
theorem dX12_undo_62 : decode cX12_undo 62 = .ok (.getfield 31, 3) := by decide +kernel
theorem dX12_undo_65 : decode cX12_undo 65 = .ok (.iload_n 2, 1) := by decide +kernel
theorem dX12_undo_66 : decode cX12_undo 66 = .ok (.iaload, 1) := by decide +kernel
theorem dX12_undo_67 : decode cX12_undo 67 = .ok (.iastore, 1) := by decide +kernel
theorem dX12_undo_68 : decode cX12_undo 68 = .ok (.aload_n 0, 1) := by decide +kernel
theorem dX12_undo_69 : decode cX12_undo 69 = .ok (.getfield 13, 3) := by decide +kernel
theorem dX12_undo_72 : decode cX12_undo 72 = .ok (.iload_n 1, 1) := by decide +kernel
theorem dX12_undo_73 : decode cX12_undo 73 = .ok (.aload_n 0, 1) := by decide +kernel
theorem dX12_undo_74 : decode cX12_undo 74 = .ok (.getfield 31, 3) := by decide +kernel
theorem dX12_undo_77 : decode cX12_undo 77 = .ok (.iload_n 2, 1) := by decide +kernel
theorem dX12_undo_78 : decode cX12_undo 78 = .ok (.iconst 1, 1) := by decide +kernel
theorem dX12_undo_79 : decode cX12_undo 79 = .ok (.iadd, 1) := by decide +kernel
theorem dX12_undo_80 : decode cX12_undo 80 = .ok (.iaload, 1) := by decide +kernel
theorem dX12_undo_81 : decode cX12_undo 81 = .ok (.iastore, 1) := by decide +kernel
theorem dX12_undo_82 : decode cX12_undo 82 = .ok (.aload_n 0, 1) := by decide +kernel
theorem dX12_undo_83 : decode cX12_undo 83 = .ok (.getfield 16, 3) := by decide +kernel
theorem dX12_undo_86 : decode cX12_undo 86 = .ok (.iload_n 1, 1) := by decide +kernel
theorem dX12_undo_87 : decode cX12_undo 87 = .ok (.aload_n 0, 1) := by decide +kernel
theorem dX12_undo_88 : decode cX12_undo 88 = .ok (.getfield 31, 3) := by decide +kernel
theorem dX12_undo_91 : decode cX12_undo 91 = .ok (.iload_n 2, 1) := by decide +kernel
theorem dX12_undo_92 : decode cX12_undo 92 = .ok (.iconst 2, 1) := by decide +kernel
theorem dX12_undo_93 : decode cX12_undo 93 = .ok (.iadd, 1) := by decide +kernel
theorem dX12_undo_94 : decode cX12_undo 94 = .ok (.iaload, 1) := by decide +kernel
theorem dX12_undo_95 : decode cX12_undo 95 = .ok (.iastore, 1) := by decide +kernel
theorem dX12_undo_96 : decode cX12_undo 96 = .ok (.aload_n 0, 1) := by decide +kernel
theorem dX12_undo_97 : decode cX12_undo 97 = .ok (.getfield 19, 3) := by decide +kernel
theorem dX12_undo_100 : decode cX12_undo 100 = .ok (.iload_n 1, 1) := by decide +kernel
theorem dX12_undo_101 : decode cX12_undo 101 = .ok (.aload_n 0, 1) := by decide +kernel
theorem dX12_undo_102 : decode cX12_undo 102 = .ok (.getfield 31, 3) := by decide +kernel
theorem dX12_undo_105 : decode cX12_undo 105 = .ok (.iload_n 2, 1) := by decide +kernel
theorem dX12_undo_106 : decode cX12_undo 106 = .ok (.iconst 3, 1) := by decide +kernel
theorem dX12_undo_107 : decode cX12_undo 107 = .ok (.iadd, 1) := by decide +kernel
theorem dX12_undo_108 : decode cX12_undo 108 = .ok (.iaload, 1) := by decide +kernel
theorem dX12_undo_109 : decode cX12_undo 109 = .ok (.iastore, 1) := by decide +kernel
theorem dX12_undo_110 : decode cX12_undo 110 = .ok (.iinc 1 1, 3) := by decide +kernel
theorem dX12_undo_113 : decode cX12_undo 113 = .ok (.goto (-75), 3) := by decide +kernel
theorem dX12_undo_116 : decode cX12_undo 116 = .ok (.aload_n 0, 1) := by decide +kernel
theorem dX12_undo_117 : decode cX12_undo 117 = .ok (.iconst 0, 1) := by decide +kernel
theorem dX12_undo_118 : decode cX12_undo 118 = .ok (.putfield 93, 3) := by decide +kernel
theorem dX12_undo_121 : decode cX12_undo 121 = .ok (.aload_n 0, 1) := by decide +kernel
theorem dX12_undo_122 : decode cX12_undo 122 = .ok (.iconst 1, 1) := by decide +kernel
theorem dX12_undo_123 : decode cX12_undo 123 = .ok (.invokevirtual 96, 3) := by decide +kernel
theorem dX12_undo_126 : decode cX12_undo 126 = .ok (.ireturn, 1) := by decide +kernel
theorem dX12_made_0 : decode cX12_made 0 = .ok (.aload_n 0, 1) := by decide +kernel
theorem dX12_made_1 : decode cX12_made 1 = .ok (.invokevirtual 99, 3) := by decide +kernel
theorem dX12_made_4 : decode cX12_made 4 = .ok (.aload_n 0, 1) := by decide +kernel
theorem dX12_made_5 : decode cX12_made 5 = .ok (.getfield 7, 3) := by decide +kernel
theorem dX12_made_8 : decode cX12_made 8 = .ok (.aload_n 0, 1) := by decide +kernel
theorem dX12_made_9 : decode cX12_made 9 = .ok (.getfield 75, 3) := by decide +kernel
theorem dX12_made_12 : decode cX12_made 12 = .ok (.iload_n 1, 1) := by decide +kernel
theorem dX12_made_13 : decode cX12_made 13 = .ok (.iastore, 1) := by decide +kernel
theorem dX12_made_14 : decode cX12_made 14 = .ok (.aload_n 0, 1) := by decide +kernel
theorem dX12_made_15 : decode cX12_made 15 = .ok (.getfield 13, 3) := by decide +kernel
theorem dX12_made_18 : decode cX12_made 18 = .ok (.aload_n 0, 1) := by decide +kernel
theorem dX12_made_19 : decode cX12_made 19 = .ok (.getfield 75, 3) := by decide +kernel
theorem dX12_made_22 : decode cX12_made 22 = .ok (.iload_n 2, 1) := by decide +kernel
theorem dX12_made_23 : decode cX12_made 23 = .ok (.iastore, 1) := by decide +kernel
theorem dX12_made_24 : decode cX12_made 24 = .ok (.aload_n 0, 1) := by decide +kernel
theorem dX12_made_25 : decode cX12_made 25 = .ok (.getfield 16, 3) := by decide +kernel
theorem dX12_made_28 : decode cX12_made 28 = .ok (.aload_n 0, 1) := by decide +kernel
theorem dX12_made_29 : decode cX12_made 29 = .ok (.getfield 75, 3) := by decide +kernel
theorem dX12_made_32 : decode cX12_made 32 = .ok (.iconst 0, 1) := by decide +kernel
theorem dX12_made_33 : decode cX12_made 33 = .ok (.iastore, 1) := by decide +kernel
theorem dX12_made_34 : decode cX12_made 34 = .ok (.aload_n 0, 1) := by decide +kernel
theorem dX12_made_35 : decode cX12_made 35 = .ok (.getfield 19, 3) := by decide +kernel
theorem dX12_made_38 : decode cX12_made 38 = .ok (.aload_n 0, 1) := by decide +kernel
theorem dX12_made_39 : decode cX12_made 39 = .ok (.getfield 75, 3) := by decide +kernel
theorem dX12_made_42 : decode cX12_made 42 = .ok (.iconst 0, 1) := by decide +kernel
theorem dX12_made_43 : decode cX12_made 43 = .ok (.iastore, 1) := by decide +kernel
theorem dX12_made_44 : decode cX12_made 44 = .ok (.aload_n 0, 1) := by decide +kernel
theorem dX12_made_45 : decode cX12_made 45 = .ok (.dup, 1) := by decide +kernel
theorem dX12_made_46 : decode cX12_made 46 = .ok (.getfield 75, 3) := by decide +kernel
theorem dX12_made_49 : decode cX12_made 49 = .ok (.iconst 1, 1) := by decide +kernel
theorem dX12_made_50 : decode cX12_made 50 = .ok (.iadd, 1) := by decide +kernel
theorem dX12_made_51 : decode cX12_made 51 = .ok (.putfield 75, 3) := by decide +kernel
theorem dX12_made_54 : decode cX12_made 54 = .ok (.aload_n 0, 1) := by decide +kernel
theorem dX12_made_55 : decode cX12_made 55 = .ok (.aload_n 0, 1) := by decide +kernel
theorem dX12_made_56 : decode cX12_made 56 = .ok (.getfield 75, 3) := by decide +kernel
theorem dX12_made_59 : decode cX12_made 59 = .ok (.iconst 1, 1) := by decide +kernel
theorem dX12_made_60 : decode cX12_made 60 = .ok (.isub, 1) := by decide +kernel
theorem dX12_made_61 : decode cX12_made 61 = .ok (.invokevirtual 96, 3) := by decide +kernel
theorem dX12_made_64 : decode cX12_made 64 = .ok (.ireturn, 1) := by decide +kernel
theorem dX12_job_0 : decode cX12_job 0 = .ok (.iload_n 1, 1) := by decide +kernel
theorem dX12_job_1 : decode cX12_job 1 = .ok (.iconst 1, 1) := by decide +kernel
theorem dX12_job_2 : decode cX12_job 2 = .ok (.bipush 100, 2) := by decide +kernel
theorem dX12_job_4 : decode cX12_job 4 = .ok (.invokestatic 78, 3) := by decide +kernel
theorem dX12_job_7 : decode cX12_job 7 = .ok (.ifCond .eq 13, 3) := by decide +kernel
theorem dX12_job_10 : decode cX12_job 10 = .ok (.iload_n 2, 1) := by decide +kernel
theorem dX12_job_11 : decode cX12_job 11 = .ok (.iconst 0, 1) := by decide +kernel
theorem dX12_job_12 : decode cX12_job 12 = .ok (.bipush 100, 2) := by decide +kernel
theorem dX12_job_14 : decode cX12_job 14 = .ok (.invokestatic 78, 3) := by decide +kernel
theorem dX12_job_17 : decode cX12_job 17 = .ok (.ifCond .ne 9, 3) := by decide +kernel
theorem dX12_job_20 : decode cX12_job 20 = .ok (.aload_n 0, 1) := by decide +kernel
theorem dX12_job_21 : decode cX12_job 21 = .ok (.iconst 1, 1) := by decide +kernel
theorem dX12_job_22 : decode cX12_job 22 = .ok (.invokevirtual 89, 3) := by decide +kernel
theorem dX12_job_25 : decode cX12_job 25 = .ok (.ireturn, 1) := by decide +kernel
theorem dX12_job_26 : decode cX12_job 26 = .ok (.aload_n 0, 1) := by decide +kernel
theorem dX12_job_27 : decode cX12_job 27 = .ok (.getfield 75, 3) := by decide +kernel
theorem dX12_job_30 : decode cX12_job 30 = .ok (.bipush 12, 2) := by decide +kernel
theorem dX12_job_32 : decode cX12_job 32 = .ok (.if_icmp .ne 11, 3) := by decide +kernel
theorem dX12_job_35 : decode cX12_job 35 = .ok (.aload_n 0, 1) := by decide +kernel
theorem dX12_job_36 : decode cX12_job 36 = .ok (.iconst 2, 1) := by decide +kernel
theorem dX12_job_37 : decode cX12_job 37 = .ok (.invokevirtual 89, 3) := by decide +kernel
theorem dX12_job_40 : decode cX12_job 40 = .ok (.goto 9, 3) := by decide +kernel
theorem dX12_job_43 : decode cX12_job 43 = .ok (.aload_n 0, 1) := by decide +kernel
theorem dX12_job_44 : decode cX12_job 44 = .ok (.iload_n 1, 1) := by decide +kernel
theorem dX12_job_45 : decode cX12_job 45 = .ok (.iload_n 2, 1) := by decide +kernel
theorem dX12_job_46 : decode cX12_job 46 = .ok (.invokevirtual 102, 3) := by decide +kernel
theorem dX12_job_49 : decode cX12_job 49 = .ok (.ireturn, 1) := by decide +kernel
theorem dX12_set_0 : decode cX12_set 0 = .ok (.iload_n 2, 1) := by decide +kernel
theorem dX12_set_1 : decode cX12_set 1 = .ok (.ifCond .ne 13, 3) := by decide +kernel
theorem dX12_set_4 : decode cX12_set 4 = .ok (.iload_n 3, 1) := by decide +kernel
theorem dX12_set_5 : decode cX12_set 5 = .ok (.iconst 1, 1) := by decide +kernel
theorem dX12_set_6 : decode cX12_set 6 = .ok (.bipush 100, 2) := by decide +kernel
theorem dX12_set_8 : decode cX12_set 8 = .ok (.invokestatic 78, 3) := by decide +kernel
theorem dX12_set_11 : decode cX12_set 11 = .ok (.goto 39, 3) := by decide +kernel
theorem dX12_set_14 : decode cX12_set 14 = .ok (.iload_n 2, 1) := by decide +kernel
theorem dX12_set_15 : decode cX12_set 15 = .ok (.iconst 1, 1) := by decide +kernel
theorem dX12_set_16 : decode cX12_set 16 = .ok (.if_icmp .ne 13, 3) := by decide +kernel
theorem dX12_set_19 : decode cX12_set 19 = .ok (.iload_n 3, 1) := by decide +kernel
theorem dX12_set_20 : decode cX12_set 20 = .ok (.iconst 0, 1) := by decide +kernel
theorem dX12_set_21 : decode cX12_set 21 = .ok (.bipush 100, 2) := by decide +kernel
theorem dX12_set_23 : decode cX12_set 23 = .ok (.invokestatic 78, 3) := by decide +kernel
theorem dX12_set_26 : decode cX12_set 26 = .ok (.goto 24, 3) := by decide +kernel
theorem dX12_set_29 : decode cX12_set 29 = .ok (.iload_n 2, 1) := by decide +kernel
theorem dX12_set_30 : decode cX12_set 30 = .ok (.iconst 2, 1) := by decide +kernel
theorem dX12_set_31 : decode cX12_set 31 = .ok (.if_icmp .ne 18, 3) := by decide +kernel
theorem dX12_set_34 : decode cX12_set 34 = .ok (.iload_n 3, 1) := by decide +kernel
theorem dX12_set_35 : decode cX12_set 35 = .ok (.iconst 0, 1) := by decide +kernel
theorem dX12_set_36 : decode cX12_set 36 = .ok (.sipush 500, 3) := by decide +kernel
theorem dX12_set_39 : decode cX12_set 39 = .ok (.invokestatic 78, 3) := by decide +kernel
theorem dX12_set_42 : decode cX12_set 42 = .ok (.ifCond .eq 7, 3) := by decide +kernel
theorem dX12_set_45 : decode cX12_set 45 = .ok (.iconst 1, 1) := by decide +kernel
theorem dX12_set_46 : decode cX12_set 46 = .ok (.goto 4, 3) := by decide +kernel
theorem dX12_set_49 : decode cX12_set 49 = .ok (.iconst 0, 1) := by decide +kernel
theorem dX12_set_50 : decode cX12_set 50 = .ok (.istore 4, 2) := by decide +kernel
theorem dX12_set_52 : decode cX12_set 52 = .ok (.aload_n 0, 1) := by decide +kernel
theorem dX12_set_53 : decode cX12_set 53 = .ok (.iload_n 1, 1) := by decide +kernel
theorem dX12_set_54 : decode cX12_set 54 = .ok (.invokevirtual 106, 3) := by decide +kernel
theorem dX12_set_57 : decode cX12_set 57 = .ok (.ifCond .eq 8, 3) := by decide +kernel
theorem dX12_set_60 : decode cX12_set 60 = .ok (.iload 4, 2) := by decide +kernel
theorem dX12_set_62 : decode cX12_set 62 = .ok (.ifCond .ne 9, 3) := by decide +kernel
theorem dX12_set_65 : decode cX12_set 65 = .ok (.aload_n 0, 1) := by decide +kernel
theorem dX12_set_66 : decode cX12_set 66 = .ok (.iconst 1, 1) := by decide +kernel
theorem dX12_set_67 : decode cX12_set 67 = .ok (.invokevirtual 89, 3) := by decide +kernel
theorem dX12_set_70 : decode cX12_set 70 = .ok (.ireturn, 1) := by decide +kernel
theorem dX12_set_71 : decode cX12_set 71 = .ok (.aload_n 0, 1) := by decide +kernel
theorem dX12_set_72 : decode cX12_set 72 = .ok (.invokevirtual 99, 3) := by decide +kernel
theorem dX12_set_75 : decode cX12_set 75 = .ok (.iload_n 2, 1) := by decide +kernel
theorem dX12_set_76 : decode cX12_set 76 = .ok (.ifCond .ne 12, 3) := by decide +kernel
theorem dX12_set_79 : decode cX12_set 79 = .ok (.aload_n 0, 1) := by decide +kernel
theorem dX12_set_80 : decode cX12_set 80 = .ok (.getfield 7, 3) := by decide +kernel
theorem dX12_set_83 : decode cX12_set 83 = .ok (.iload_n 1, 1) := by decide +kernel
theorem dX12_set_84 : decode cX12_set 84 = .ok (.iaload, 1) := by decide +kernel
theorem dX12_set_85 : decode cX12_set 85 = .ok (.goto 23, 3) := by decide +kernel
theorem dX12_set_88 : decode cX12_set 88 = .ok (.iload_n 2, 1) := by decide +kernel
theorem dX12_set_89 : decode cX12_set 89 = .ok (.iconst 1, 1) := by decide +kernel
theorem dX12_set_90 : decode cX12_set 90 = .ok (.if_icmp .ne 12, 3) := by decide +kernel
theorem dX12_set_93 : decode cX12_set 93 = .ok (.aload_n 0, 1) := by decide +kernel
theorem dX12_set_94 : decode cX12_set 94 = .ok (.getfield 13, 3) := by decide +kernel
theorem dX12_set_97 : decode cX12_set 97 = .ok (.iload_n 1, 1) := by decide +kernel
theorem dX12_set_98 : decode cX12_set 98 = .ok (.iaload, 1) := by decide +kernel
theorem dX12_set_99 : decode cX12_set 99 = .ok (.goto 9, 3) := by decide +kernel
theorem dX12_set_102 : decode cX12_set 102 = .ok (.aload_n 0, 1) := by decide +kernel
theorem dX12_set_103 : decode cX12_set 103 = .ok (.getfield 16, 3) := by decide +kernel
theorem dX12_set_106 : decode cX12_set 106 = .ok (.iload_n 1, 1) := by decide +kernel
theorem dX12_set_107 : decode cX12_set 107 = .ok (.iaload, 1) := by decide +kernel
theorem dX12_set_108 : decode cX12_set 108 = .ok (.istore 5, 2) := by decide +kernel
theorem dX12_set_110 : decode cX12_set 110 = .ok (.iload_n 2, 1) := by decide +kernel
theorem dX12_set_111 : decode cX12_set 111 = .ok (.ifCond .ne 13, 3) := by decide +kernel
theorem dX12_set_114 : decode cX12_set 114 = .ok (.aload_n 0, 1) := by decide +kernel
theorem dX12_set_115 : decode cX12_set 115 = .ok (.getfield 7, 3) := by decide +kernel
theorem dX12_set_118 : decode cX12_set 118 = .ok (.iload_n 1, 1) := by decide +kernel
theorem dX12_set_119 : decode cX12_set 119 = .ok (.iload_n 3, 1) := by decide +kernel
theorem dX12_set_120 : decode cX12_set 120 = .ok (.iastore, 1) := by decide +kernel
theorem dX12_set_121 : decode cX12_set 121 = .ok (.goto 25, 3) := by decide +kernel
theorem dX12_set_124 : decode cX12_set 124 = .ok (.iload_n 2, 1) := by decide +kernel
theorem dX12_set_125 : decode cX12_set 125 = .ok (.iconst 1, 1) := by decide +kernel
theorem dX12_set_126 : decode cX12_set 126 = .ok (.if_icmp .ne 13, 3) := by decide +kernel
theorem dX12_set_129 : decode cX12_set 129 = .ok (.aload_n 0, 1) := by decide +kernel
theorem dX12_set_130 : decode cX12_set 130 = .ok (.getfield 13, 3) := by decide +kernel
theorem dX12_set_133 : decode cX12_set 133 = .ok (.iload_n 1, 1) := by decide +kernel
theorem dX12_set_134 : decode cX12_set 134 = .ok (.iload_n 3, 1) := by decide +kernel
theorem dX12_set_135 : decode cX12_set 135 = .ok (.iastore, 1) := by decide +kernel
theorem dX12_set_136 : decode cX12_set 136 = .ok (.goto 10, 3) := by decide +kernel
theorem dX12_set_139 : decode cX12_set 139 = .ok (.aload_n 0, 1) := by decide +kernel
theorem dX12_set_140 : decode cX12_set 140 = .ok (.getfield 16, 3) := by decide +kernel
theorem dX12_set_143 : decode cX12_set 143 = .ok (.iload_n 1, 1) := by decide +kernel
theorem dX12_set_144 : decode cX12_set 144 = .ok (.iload_n 3, 1) := by decide +kernel
theorem dX12_set_145 : decode cX12_set 145 = .ok (.iastore, 1) := by decide +kernel
theorem dX12_set_146 : decode cX12_set 146 = .ok (.aload_n 0, 1) := by decide +kernel
theorem dX12_set_147 : decode cX12_set 147 = .ok (.iload 5, 2) := by decide +kernel
theorem dX12_set_149 : decode cX12_set 149 = .ok (.invokevirtual 96, 3) := by decide +kernel
theorem dX12_set_152 : decode cX12_set 152 = .ok (.ireturn, 1) := by decide +kernel
theorem dX12_lay_0 : decode cX12_lay 0 = .ok (.aload_n 0, 1) := by decide +kernel
theorem dX12_lay_1 : decode cX12_lay 1 = .ok (.iload_n 1, 1) := by decide +kernel
theorem dX12_lay_2 : decode cX12_lay 2 = .ok (.invokevirtual 106, 3) := by decide +kernel
theorem dX12_lay_5 : decode cX12_lay 5 = .ok (.ifCond .eq 11, 3) := by decide +kernel
theorem dX12_lay_8 : decode cX12_lay 8 = .ok (.aload_n 0, 1) := by decide +kernel
theorem dX12_lay_9 : decode cX12_lay 9 = .ok (.iload_n 2, 1) := by decide +kernel
theorem dX12_lay_10 : decode cX12_lay 10 = .ok (.invokevirtual 106, 3) := by decide +kernel
theorem dX12_lay_13 : decode cX12_lay 13 = .ok (.ifCond .ne 9, 3) := by decide +kernel
theorem dX12_lay_16 : decode cX12_lay 16 = .ok (.aload_n 0, 1) := by decide +kernel
theorem dX12_lay_17 : decode cX12_lay 17 = .ok (.iconst 1, 1) := by decide +kernel
theorem dX12_lay_18 : decode cX12_lay 18 = .ok (.invokevirtual 89, 3) := by decide +kernel
theorem dX12_lay_21 : decode cX12_lay 21 = .ok (.ireturn, 1) := by decide +kernel
theorem dX12_lay_22 : decode cX12_lay 22 = .ok (.aload_n 0, 1) := by decide +kernel
theorem dX12_lay_23 : decode cX12_lay 23 = .ok (.invokevirtual 110, 3) := by decide +kernel
theorem dX12_lay_26 : decode cX12_lay 26 = .ok (.iload_n 1, 1) := by decide +kernel
theorem dX12_lay_27 : decode cX12_lay 27 = .ok (.iload_n 2, 1) := by decide +kernel
theorem dX12_lay_28 : decode cX12_lay 28 = .ok (.if_icmp .eq 29, 3) := by decide +kernel
theorem dX12_lay_31 : decode cX12_lay 31 = .ok (.aload_n 0, 1) := by decide +kernel
theorem dX12_lay_32 : decode cX12_lay 32 = .ok (.getfield 19, 3) := by decide +kernel
theorem dX12_lay_35 : decode cX12_lay 35 = .ok (.iload_n 2, 1) := by decide +kernel
theorem dX12_lay_36 : decode cX12_lay 36 = .ok (.iaload, 1) := by decide +kernel
theorem dX12_lay_37 : decode cX12_lay 37 = .ok (.iload_n 1, 1) := by decide +kernel
theorem dX12_lay_38 : decode cX12_lay 38 = .ok (.invokestatic 82, 3) := by decide +kernel
theorem dX12_lay_41 : decode cX12_lay 41 = .ok (.ifCond .ne 16, 3) := by decide +kernel
theorem dX12_lay_44 : decode cX12_lay 44 = .ok (.aload_n 0, 1) := by decide +kernel
theorem dX12_lay_45 : decode cX12_lay 45 = .ok (.getfield 22, 3) := by decide +kernel
theorem dX12_lay_48 : decode cX12_lay 48 = .ok (.iload_n 1, 1) := by decide +kernel
theorem dX12_lay_49 : decode cX12_lay 49 = .ok (.iaload, 1) := by decide +kernel
theorem dX12_lay_50 : decode cX12_lay 50 = .ok (.iload_n 2, 1) := by decide +kernel
theorem dX12_lay_51 : decode cX12_lay 51 = .ok (.invokestatic 82, 3) := by decide +kernel
theorem dX12_lay_54 : decode cX12_lay 54 = .ok (.ifCond .eq 9, 3) := by decide +kernel
theorem dX12_lay_57 : decode cX12_lay 57 = .ok (.aload_n 0, 1) := by decide +kernel
theorem dX12_lay_58 : decode cX12_lay 58 = .ok (.iconst 3, 1) := by decide +kernel
theorem dX12_lay_59 : decode cX12_lay 59 = .ok (.invokevirtual 89, 3) := by decide +kernel
theorem dX12_lay_62 : decode cX12_lay 62 = .ok (.ireturn, 1) := by decide +kernel
theorem dX12_lay_63 : decode cX12_lay 63 = .ok (.aload_n 0, 1) := by decide +kernel
theorem dX12_lay_64 : decode cX12_lay 64 = .ok (.invokevirtual 99, 3) := by decide +kernel
theorem dX12_lay_67 : decode cX12_lay 67 = .ok (.aload_n 0, 1) := by decide +kernel
theorem dX12_lay_68 : decode cX12_lay 68 = .ok (.getfield 19, 3) := by decide +kernel
theorem dX12_lay_71 : decode cX12_lay 71 = .ok (.iload_n 2, 1) := by decide +kernel
theorem dX12_lay_72 : decode cX12_lay 72 = .ok (.dup2, 1) := by decide +kernel
theorem dX12_lay_73 : decode cX12_lay 73 = .ok (.iaload, 1) := by decide +kernel
theorem dX12_lay_74 : decode cX12_lay 74 = .ok (.iconst 1, 1) := by decide +kernel
theorem dX12_lay_75 : decode cX12_lay 75 = .ok (.iload_n 1, 1) := by decide +kernel
theorem dX12_lay_76 : decode cX12_lay 76 = .ok (.ishl, 1) := by decide +kernel
theorem dX12_lay_77 : decode cX12_lay 77 = .ok (.ior, 1) := by decide +kernel
theorem dX12_lay_78 : decode cX12_lay 78 = .ok (.iastore, 1) := by decide +kernel
theorem dX12_lay_79 : decode cX12_lay 79 = .ok (.aload_n 0, 1) := by decide +kernel
theorem dX12_lay_80 : decode cX12_lay 80 = .ok (.iconst 1, 1) := by decide +kernel
theorem dX12_lay_81 : decode cX12_lay 81 = .ok (.invokevirtual 96, 3) := by decide +kernel
theorem dX12_lay_84 : decode cX12_lay 84 = .ok (.ireturn, 1) := by decide +kernel
theorem dX12_free_0 : decode cX12_free 0 = .ok (.aload_n 0, 1) := by decide +kernel
theorem dX12_free_1 : decode cX12_free 1 = .ok (.iload_n 1, 1) := by decide +kernel
theorem dX12_free_2 : decode cX12_free 2 = .ok (.invokevirtual 106, 3) := by decide +kernel
theorem dX12_free_5 : decode cX12_free 5 = .ok (.ifCond .eq 11, 3) := by decide +kernel
theorem dX12_free_8 : decode cX12_free 8 = .ok (.aload_n 0, 1) := by decide +kernel
theorem dX12_free_9 : decode cX12_free 9 = .ok (.iload_n 2, 1) := by decide +kernel
theorem dX12_free_10 : decode cX12_free 10 = .ok (.invokevirtual 106, 3) := by decide +kernel
theorem dX12_free_13 : decode cX12_free 13 = .ok (.ifCond .ne 9, 3) := by decide +kernel
theorem dX12_free_16 : decode cX12_free 16 = .ok (.aload_n 0, 1) := by decide +kernel
theorem dX12_free_17 : decode cX12_free 17 = .ok (.iconst 1, 1) := by decide +kernel
theorem dX12_free_18 : decode cX12_free 18 = .ok (.invokevirtual 89, 3) := by decide +kernel
theorem dX12_free_21 : decode cX12_free 21 = .ok (.ireturn, 1) := by decide +kernel
theorem dX12_free_22 : decode cX12_free 22 = .ok (.aload_n 0, 1) := by decide +kernel
theorem dX12_free_23 : decode cX12_free 23 = .ok (.getfield 19, 3) := by decide +kernel
theorem dX12_free_26 : decode cX12_free 26 = .ok (.iload_n 2, 1) := by decide +kernel
theorem dX12_free_27 : decode cX12_free 27 = .ok (.iaload, 1) := by decide +kernel
theorem dX12_free_28 : decode cX12_free 28 = .ok (.iload_n 1, 1) := by decide +kernel
theorem dX12_free_29 : decode cX12_free 29 = .ok (.invokestatic 82, 3) := by decide +kernel
theorem dX12_free_32 : decode cX12_free 32 = .ok (.ifCond .ne 9, 3) := by decide +kernel
theorem dX12_free_35 : decode cX12_free 35 = .ok (.aload_n 0, 1) := by decide +kernel
theorem dX12_free_36 : decode cX12_free 36 = .ok (.iconst 3, 1) := by decide +kernel
theorem dX12_free_37 : decode cX12_free 37 = .ok (.invokevirtual 89, 3) := by decide +kernel
theorem dX12_free_40 : decode cX12_free 40 = .ok (.ireturn, 1) := by decide +kernel
theorem dX12_free_41 : decode cX12_free 41 = .ok (.aload_n 0, 1) := by decide +kernel
theorem dX12_free_42 : decode cX12_free 42 = .ok (.invokevirtual 99, 3) := by decide +kernel
theorem dX12_free_45 : decode cX12_free 45 = .ok (.aload_n 0, 1) := by decide +kernel
theorem dX12_free_46 : decode cX12_free 46 = .ok (.getfield 19, 3) := by decide +kernel
theorem dX12_free_49 : decode cX12_free 49 = .ok (.iload_n 2, 1) := by decide +kernel
theorem dX12_free_50 : decode cX12_free 50 = .ok (.dup2, 1) := by decide +kernel
theorem dX12_free_51 : decode cX12_free 51 = .ok (.iaload, 1) := by decide +kernel
theorem dX12_free_52 : decode cX12_free 52 = .ok (.iconst 1, 1) := by decide +kernel
theorem dX12_free_53 : decode cX12_free 53 = .ok (.iload_n 1, 1) := by decide +kernel
theorem dX12_free_54 : decode cX12_free 54 = .ok (.ishl, 1) := by decide +kernel
theorem dX12_free_55 : decode cX12_free 55 = .ok (.iconst (-1), 1) := by decide +kernel
theorem dX12_free_56 : decode cX12_free 56 = .ok (.ixor, 1) := by decide +kernel
theorem dX12_free_57 : decode cX12_free 57 = .ok (.iand, 1) := by decide +kernel
theorem dX12_free_58 : decode cX12_free 58 = .ok (.iastore, 1) := by decide +kernel
theorem dX12_free_59 : decode cX12_free 59 = .ok (.aload_n 0, 1) := by decide +kernel
theorem dX12_free_60 : decode cX12_free 60 = .ok (.iconst 1, 1) := by decide +kernel
theorem dX12_free_61 : decode cX12_free 61 = .ok (.invokevirtual 96, 3) := by decide +kernel
theorem dX12_free_64 : decode cX12_free 64 = .ok (.ireturn, 1) := by decide +kernel
theorem dX12_placeOf_0 : decode cX12_placeOf 0 = .ok (.iconst 0, 1) := by decide +kernel
theorem dX12_placeOf_1 : decode cX12_placeOf 1 = .ok (.istore_n 2, 1) := by decide +kernel
theorem dX12_placeOf_2 : decode cX12_placeOf 2 = .ok (.iload_n 2, 1) := by decide +kernel
theorem dX12_placeOf_3 : decode cX12_placeOf 3 = .ok (.aload_n 0, 1) := by decide +kernel
theorem dX12_placeOf_4 : decode cX12_placeOf 4 = .ok (.getfield 93, 3) := by decide +kernel
theorem dX12_placeOf_7 : decode cX12_placeOf 7 = .ok (.if_icmp .ge 21, 3) := by decide +kernel
theorem dX12_placeOf_10 : decode cX12_placeOf 10 = .ok (.aload_n 0, 1) := by decide +kernel
theorem dX12_placeOf_11 : decode cX12_placeOf 11 = .ok (.getfield 25, 3) := by decide +kernel
theorem dX12_placeOf_14 : decode cX12_placeOf 14 = .ok (.iload_n 2, 1) := by decide +kernel
theorem dX12_placeOf_15 : decode cX12_placeOf 15 = .ok (.iaload, 1) := by decide +kernel
theorem dX12_placeOf_16 : decode cX12_placeOf 16 = .ok (.iload_n 1, 1) := by decide +kernel
theorem dX12_placeOf_17 : decode cX12_placeOf 17 = .ok (.if_icmp .ne 5, 3) := by decide +kernel
theorem dX12_placeOf_20 : decode cX12_placeOf 20 = .ok (.iload_n 2, 1) := by decide +kernel
theorem dX12_placeOf_21 : decode cX12_placeOf 21 = .ok (.ireturn, 1) := by decide +kernel
theorem dX12_placeOf_22 : decode cX12_placeOf 22 = .ok (.iinc 2 1, 3) := by decide +kernel
theorem dX12_placeOf_25 : decode cX12_placeOf 25 = .ok (.goto (-23), 3) := by decide +kernel
theorem dX12_placeOf_28 : decode cX12_placeOf 28 = .ok (.iconst (-1), 1) := by decide +kernel
theorem dX12_placeOf_29 : decode cX12_placeOf 29 = .ok (.ireturn, 1) := by decide +kernel
theorem dX12_put_0 : decode cX12_put 0 = .ok (.aload_n 0, 1) := by decide +kernel
theorem dX12_put_1 : decode cX12_put 1 = .ok (.iload_n 1, 1) := by decide +kernel
theorem dX12_put_2 : decode cX12_put 2 = .ok (.invokevirtual 106, 3) := by decide +kernel
theorem dX12_put_5 : decode cX12_put 5 = .ok (.ifCond .ne 9, 3) := by decide +kernel
theorem dX12_put_8 : decode cX12_put 8 = .ok (.aload_n 0, 1) := by decide +kernel
theorem dX12_put_9 : decode cX12_put 9 = .ok (.iconst 1, 1) := by decide +kernel
theorem dX12_put_10 : decode cX12_put 10 = .ok (.invokevirtual 89, 3) := by decide +kernel
theorem dX12_put_13 : decode cX12_put 13 = .ok (.ireturn, 1) := by decide +kernel
theorem dX12_put_14 : decode cX12_put 14 = .ok (.aload_n 0, 1) := by decide +kernel
theorem dX12_put_15 : decode cX12_put 15 = .ok (.iload_n 1, 1) := by decide +kernel
theorem dX12_put_16 : decode cX12_put 16 = .ok (.invokevirtual 113, 3) := by decide +kernel
theorem dX12_put_19 : decode cX12_put 19 = .ok (.iconst (-1), 1) := by decide +kernel
theorem dX12_put_20 : decode cX12_put 20 = .ok (.if_icmp .eq 9, 3) := by decide +kernel
theorem dX12_put_23 : decode cX12_put 23 = .ok (.aload_n 0, 1) := by decide +kernel
theorem dX12_put_24 : decode cX12_put 24 = .ok (.iconst 3, 1) := by decide +kernel
theorem dX12_put_25 : decode cX12_put 25 = .ok (.invokevirtual 89, 3) := by decide +kernel
theorem dX12_put_28 : decode cX12_put 28 = .ok (.ireturn, 1) := by decide +kernel
theorem dX12_put_29 : decode cX12_put 29 = .ok (.aload_n 0, 1) := by decide +kernel
theorem dX12_put_30 : decode cX12_put 30 = .ok (.getfield 25, 3) := by decide +kernel
theorem dX12_put_33 : decode cX12_put 33 = .ok (.aload_n 0, 1) := by decide +kernel
theorem dX12_put_34 : decode cX12_put 34 = .ok (.getfield 93, 3) := by decide +kernel
theorem dX12_put_37 : decode cX12_put 37 = .ok (.iload_n 1, 1) := by decide +kernel
theorem dX12_put_38 : decode cX12_put 38 = .ok (.iastore, 1) := by decide +kernel
theorem dX12_put_39 : decode cX12_put 39 = .ok (.aload_n 0, 1) := by decide +kernel
theorem dX12_put_40 : decode cX12_put 40 = .ok (.dup, 1) := by decide +kernel
theorem dX12_put_41 : decode cX12_put 41 = .ok (.getfield 93, 3) := by decide +kernel
theorem dX12_put_44 : decode cX12_put 44 = .ok (.iconst 1, 1) := by decide +kernel
theorem dX12_put_45 : decode cX12_put 45 = .ok (.iadd, 1) := by decide +kernel
theorem dX12_put_46 : decode cX12_put 46 = .ok (.putfield 93, 3) := by decide +kernel
theorem dX12_put_49 : decode cX12_put 49 = .ok (.aload_n 0, 1) := by decide +kernel
theorem dX12_put_50 : decode cX12_put 50 = .ok (.aload_n 0, 1) := by decide +kernel
theorem dX12_put_51 : decode cX12_put 51 = .ok (.getfield 93, 3) := by decide +kernel
theorem dX12_put_54 : decode cX12_put 54 = .ok (.invokevirtual 96, 3) := by decide +kernel
theorem dX12_put_57 : decode cX12_put 57 = .ok (.ireturn, 1) := by decide +kernel
theorem dX12_clear_0 : decode cX12_clear 0 = .ok (.aload_n 0, 1) := by decide +kernel
theorem dX12_clear_1 : decode cX12_clear 1 = .ok (.getfield 93, 3) := by decide +kernel
theorem dX12_clear_4 : decode cX12_clear 4 = .ok (.istore_n 1, 1) := by decide +kernel
theorem dX12_clear_5 : decode cX12_clear 5 = .ok (.aload_n 0, 1) := by decide +kernel
theorem dX12_clear_6 : decode cX12_clear 6 = .ok (.iconst 0, 1) := by decide +kernel
theorem dX12_clear_7 : decode cX12_clear 7 = .ok (.putfield 93, 3) := by decide +kernel
theorem dX12_clear_10 : decode cX12_clear 10 = .ok (.aload_n 0, 1) := by decide +kernel
theorem dX12_clear_11 : decode cX12_clear 11 = .ok (.iload_n 1, 1) := by decide +kernel
theorem dX12_clear_12 : decode cX12_clear 12 = .ok (.invokevirtual 96, 3) := by decide +kernel
theorem dX12_clear_15 : decode cX12_clear 15 = .ok (.ireturn, 1) := by decide +kernel
theorem dX12_lacking_0 : decode cX12_lacking 0 = .ok (.aload_n 0, 1) := by decide +kernel
theorem dX12_lacking_1 : decode cX12_lacking 1 = .ok (.invokevirtual 110, 3) := by decide +kernel
theorem dX12_lacking_4 : decode cX12_lacking 4 = .ok (.iconst 0, 1) := by decide +kernel
theorem dX12_lacking_5 : decode cX12_lacking 5 = .ok (.istore_n 1, 1) := by decide +kernel
theorem dX12_lacking_6 : decode cX12_lacking 6 = .ok (.iconst 0, 1) := by decide +kernel
theorem dX12_lacking_7 : decode cX12_lacking 7 = .ok (.istore_n 2, 1) := by decide +kernel
theorem dX12_lacking_8 : decode cX12_lacking 8 = .ok (.iload_n 2, 1) := by decide +kernel
theorem dX12_lacking_9 : decode cX12_lacking 9 = .ok (.aload_n 0, 1) := by decide +kernel
theorem dX12_lacking_10 : decode cX12_lacking 10 = .ok (.getfield 93, 3) := by decide +kernel
theorem dX12_lacking_13 : decode cX12_lacking 13 = .ok (.if_icmp .ge 47, 3) := by decide +kernel
theorem dX12_lacking_16 : decode cX12_lacking 16 = .ok (.aload_n 0, 1) := by decide +kernel
theorem dX12_lacking_17 : decode cX12_lacking 17 = .ok (.getfield 22, 3) := by decide +kernel
theorem dX12_lacking_20 : decode cX12_lacking 20 = .ok (.aload_n 0, 1) := by decide +kernel
theorem dX12_lacking_21 : decode cX12_lacking 21 = .ok (.getfield 25, 3) := by decide +kernel
theorem dX12_lacking_24 : decode cX12_lacking 24 = .ok (.iload_n 2, 1) := by decide +kernel
theorem dX12_lacking_25 : decode cX12_lacking 25 = .ok (.iaload, 1) := by decide +kernel
theorem dX12_lacking_26 : decode cX12_lacking 26 = .ok (.iaload, 1) := by decide +kernel
theorem dX12_lacking_27 : decode cX12_lacking 27 = .ok (.iload_n 1, 1) := by decide +kernel
theorem dX12_lacking_28 : decode cX12_lacking 28 = .ok (.iconst (-1), 1) := by decide +kernel
theorem dX12_lacking_29 : decode cX12_lacking 29 = .ok (.ixor, 1) := by decide +kernel
theorem dX12_lacking_30 : decode cX12_lacking 30 = .ok (.iand, 1) := by decide +kernel
theorem dX12_lacking_31 : decode cX12_lacking 31 = .ok (.istore_n 3, 1) := by decide +kernel
theorem dX12_lacking_32 : decode cX12_lacking 32 = .ok (.iload_n 3, 1) := by decide +kernel
theorem dX12_lacking_33 : decode cX12_lacking 33 = .ok (.ifCond .eq 10, 3) := by decide +kernel
theorem dX12_lacking_36 : decode cX12_lacking 36 = .ok (.aload_n 0, 1) := by decide +kernel
theorem dX12_lacking_37 : decode cX12_lacking 37 = .ok (.iload_n 3, 1) := by decide +kernel
theorem dX12_lacking_38 : decode cX12_lacking 38 = .ok (.putfield 116, 3) := by decide +kernel
theorem dX12_lacking_41 : decode cX12_lacking 41 = .ok (.iload_n 2, 1) := by decide +kernel
theorem dX12_lacking_42 : decode cX12_lacking 42 = .ok (.ireturn, 1) := by decide +kernel
theorem dX12_lacking_43 : decode cX12_lacking 43 = .ok (.iload_n 1, 1) := by decide +kernel
theorem dX12_lacking_44 : decode cX12_lacking 44 = .ok (.iconst 1, 1) := by decide +kernel
theorem dX12_lacking_45 : decode cX12_lacking 45 = .ok (.aload_n 0, 1) := by decide +kernel
theorem dX12_lacking_46 : decode cX12_lacking 46 = .ok (.getfield 25, 3) := by decide +kernel
theorem dX12_lacking_49 : decode cX12_lacking 49 = .ok (.iload_n 2, 1) := by decide +kernel
theorem dX12_lacking_50 : decode cX12_lacking 50 = .ok (.iaload, 1) := by decide +kernel
theorem dX12_lacking_51 : decode cX12_lacking 51 = .ok (.ishl, 1) := by decide +kernel
theorem dX12_lacking_52 : decode cX12_lacking 52 = .ok (.ior, 1) := by decide +kernel
theorem dX12_lacking_53 : decode cX12_lacking 53 = .ok (.istore_n 1, 1) := by decide +kernel
theorem dX12_lacking_54 : decode cX12_lacking 54 = .ok (.iinc 2 1, 3) := by decide +kernel
theorem dX12_lacking_57 : decode cX12_lacking 57 = .ok (.goto (-49), 3) := by decide +kernel
theorem dX12_lacking_60 : decode cX12_lacking 60 = .ok (.aload_n 0, 1) := by decide +kernel
theorem dX12_lacking_61 : decode cX12_lacking 61 = .ok (.iconst 1, 1) := by decide +kernel
theorem dX12_lacking_62 : decode cX12_lacking 62 = .ok (.aload_n 0, 1) := by decide +kernel
theorem dX12_lacking_63 : decode cX12_lacking 63 = .ok (.getfield 75, 3) := by decide +kernel
theorem dX12_lacking_66 : decode cX12_lacking 66 = .ok (.ishl, 1) := by decide +kernel
theorem dX12_lacking_67 : decode cX12_lacking 67 = .ok (.iconst 1, 1) := by decide +kernel
theorem dX12_lacking_68 : decode cX12_lacking 68 = .ok (.isub, 1) := by decide +kernel
theorem dX12_lacking_69 : decode cX12_lacking 69 = .ok (.iload_n 1, 1) := by decide +kernel
theorem dX12_lacking_70 : decode cX12_lacking 70 = .ok (.iconst (-1), 1) := by decide +kernel
theorem dX12_lacking_71 : decode cX12_lacking 71 = .ok (.ixor, 1) := by decide +kernel
theorem dX12_lacking_72 : decode cX12_lacking 72 = .ok (.iand, 1) := by decide +kernel
theorem dX12_lacking_73 : decode cX12_lacking 73 = .ok (.putfield 116, 3) := by decide +kernel
theorem dX12_lacking_76 : decode cX12_lacking 76 = .ok (.iconst (-1), 1) := by decide +kernel
theorem dX12_lacking_77 : decode cX12_lacking 77 = .ok (.ireturn, 1) := by decide +kernel
theorem dX12_lowest_0 : decode cX12_lowest 0 = .ok (.iconst 0, 1) := by decide +kernel
theorem dX12_lowest_1 : decode cX12_lowest 1 = .ok (.istore_n 1, 1) := by decide +kernel
theorem dX12_lowest_2 : decode cX12_lowest 2 = .ok (.iload_n 0, 1) := by decide +kernel
theorem dX12_lowest_3 : decode cX12_lowest 3 = .ok (.iload_n 1, 1) := by decide +kernel
theorem dX12_lowest_4 : decode cX12_lowest 4 = .ok (.invokestatic 82, 3) := by decide +kernel
theorem dX12_lowest_7 : decode cX12_lowest 7 = .ok (.ifCond .ne 9, 3) := by decide +kernel
theorem dX12_lowest_10 : decode cX12_lowest 10 = .ok (.iinc 1 1, 3) := by decide +kernel
theorem dX12_lowest_13 : decode cX12_lowest 13 = .ok (.goto (-11), 3) := by decide +kernel
theorem dX12_lowest_16 : decode cX12_lowest 16 = .ok (.iload_n 1, 1) := by decide +kernel
theorem dX12_lowest_17 : decode cX12_lowest 17 = .ok (.ireturn, 1) := by decide +kernel
theorem dX12_keeps_0 : decode cX12_keeps 0 = .ok (.aload_n 0, 1) := by decide +kernel
theorem dX12_keeps_1 : decode cX12_keeps 1 = .ok (.invokevirtual 119, 3) := by decide +kernel
theorem dX12_keeps_4 : decode cX12_keeps 4 = .ok (.iconst (-1), 1) := by decide +kernel
theorem dX12_keeps_5 : decode cX12_keeps 5 = .ok (.if_icmp .ne 14, 3) := by decide +kernel
theorem dX12_keeps_8 : decode cX12_keeps 8 = .ok (.aload_n 0, 1) := by decide +kernel
theorem dX12_keeps_9 : decode cX12_keeps 9 = .ok (.getfield 116, 3) := by decide +kernel
theorem dX12_keeps_12 : decode cX12_keeps 12 = .ok (.ifCond .ne 7, 3) := by decide +kernel
theorem dX12_keeps_15 : decode cX12_keeps 15 = .ok (.iconst 1, 1) := by decide +kernel
theorem dX12_keeps_16 : decode cX12_keeps 16 = .ok (.goto 4, 3) := by decide +kernel
theorem dX12_keeps_19 : decode cX12_keeps 19 = .ok (.iconst 0, 1) := by decide +kernel
theorem dX12_keeps_20 : decode cX12_keeps 20 = .ok (.ireturn, 1) := by decide +kernel
theorem dX12_why_0 : decode cX12_why 0 = .ok (.aload_n 0, 1) := by decide +kernel
theorem dX12_why_1 : decode cX12_why 1 = .ok (.invokevirtual 119, 3) := by decide +kernel
theorem dX12_why_4 : decode cX12_why 4 = .ok (.istore_n 2, 1) := by decide +kernel
theorem dX12_why_5 : decode cX12_why 5 = .ok (.iload_n 1, 1) := by decide +kernel
theorem dX12_why_6 : decode cX12_why 6 = .ok (.iconst 0, 1) := by decide +kernel
theorem dX12_why_7 : decode cX12_why 7 = .ok (.iconst 1, 1) := by decide +kernel
theorem dX12_why_8 : decode cX12_why 8 = .ok (.invokestatic 78, 3) := by decide +kernel
theorem dX12_why_11 : decode cX12_why 11 = .ok (.ifCond .eq 15, 3) := by decide +kernel
theorem dX12_why_14 : decode cX12_why 14 = .ok (.iload_n 2, 1) := by decide +kernel
theorem dX12_why_15 : decode cX12_why 15 = .ok (.iconst (-1), 1) := by decide +kernel
theorem dX12_why_16 : decode cX12_why 16 = .ok (.if_icmp .ne 12, 3) := by decide +kernel
theorem dX12_why_19 : decode cX12_why 19 = .ok (.aload_n 0, 1) := by decide +kernel
theorem dX12_why_20 : decode cX12_why 20 = .ok (.getfield 116, 3) := by decide +kernel
theorem dX12_why_23 : decode cX12_why 23 = .ok (.ifCond .ne 5, 3) := by decide +kernel
theorem dX12_why_26 : decode cX12_why 26 = .ok (.iconst (-1), 1) := by decide +kernel
theorem dX12_why_27 : decode cX12_why 27 = .ok (.ireturn, 1) := by decide +kernel
theorem dX12_why_28 : decode cX12_why 28 = .ok (.iload_n 1, 1) := by decide +kernel
theorem dX12_why_29 : decode cX12_why 29 = .ok (.iconst 1, 1) := by decide +kernel
theorem dX12_why_30 : decode cX12_why 30 = .ok (.if_icmp .ne 13, 3) := by decide +kernel
theorem dX12_why_33 : decode cX12_why 33 = .ok (.aload_n 0, 1) := by decide +kernel
theorem dX12_why_34 : decode cX12_why 34 = .ok (.getfield 116, 3) := by decide +kernel
theorem dX12_why_37 : decode cX12_why 37 = .ok (.invokestatic 123, 3) := by decide +kernel
theorem dX12_why_40 : decode cX12_why 40 = .ok (.goto 19, 3) := by decide +kernel
theorem dX12_why_43 : decode cX12_why 43 = .ok (.iload_n 2, 1) := by decide +kernel
theorem dX12_why_44 : decode cX12_why 44 = .ok (.iconst (-1), 1) := by decide +kernel
theorem dX12_why_45 : decode cX12_why 45 = .ok (.if_icmp .ne 8, 3) := by decide +kernel
theorem dX12_why_48 : decode cX12_why 48 = .ok (.bipush (-2), 2) := by decide +kernel
theorem dX12_why_50 : decode cX12_why 50 = .ok (.goto 9, 3) := by decide +kernel
theorem dX12_why_53 : decode cX12_why 53 = .ok (.aload_n 0, 1) := by decide +kernel
theorem dX12_why_54 : decode cX12_why 54 = .ok (.getfield 25, 3) := by decide +kernel
theorem dX12_why_57 : decode cX12_why 57 = .ok (.iload_n 2, 1) := by decide +kernel
theorem dX12_why_58 : decode cX12_why 58 = .ok (.iaload, 1) := by decide +kernel
theorem dX12_why_59 : decode cX12_why 59 = .ok (.ireturn, 1) := by decide +kernel
theorem dX12_cost_0 : decode cX12_cost 0 = .ok (.iconst 0, 1) := by decide +kernel
theorem dX12_cost_1 : decode cX12_cost 1 = .ok (.istore_n 1, 1) := by decide +kernel
theorem dX12_cost_2 : decode cX12_cost 2 = .ok (.iconst 0, 1) := by decide +kernel
theorem dX12_cost_3 : decode cX12_cost 3 = .ok (.istore_n 2, 1) := by decide +kernel
theorem dX12_cost_4 : decode cX12_cost 4 = .ok (.iconst 0, 1) := by decide +kernel
theorem dX12_cost_5 : decode cX12_cost 5 = .ok (.istore_n 3, 1) := by decide +kernel
theorem dX12_cost_6 : decode cX12_cost 6 = .ok (.iload_n 3, 1) := by decide +kernel
theorem dX12_cost_7 : decode cX12_cost 7 = .ok (.aload_n 0, 1) := by decide +kernel
theorem dX12_cost_8 : decode cX12_cost 8 = .ok (.getfield 93, 3) := by decide +kernel
theorem dX12_cost_11 : decode cX12_cost 11 = .ok (.if_icmp .ge 60, 3) := by decide +kernel
theorem dX12_cost_14 : decode cX12_cost 14 = .ok (.aload_n 0, 1) := by decide +kernel
theorem dX12_cost_15 : decode cX12_cost 15 = .ok (.getfield 25, 3) := by decide +kernel
theorem dX12_cost_18 : decode cX12_cost 18 = .ok (.iload_n 3, 1) := by decide +kernel
theorem dX12_cost_19 : decode cX12_cost 19 = .ok (.iaload, 1) := by decide +kernel
theorem dX12_cost_20 : decode cX12_cost 20 = .ok (.istore 4, 2) := by decide +kernel
theorem dX12_cost_22 : decode cX12_cost 22 = .ok (.iload_n 1, 1) := by decide +kernel
theorem dX12_cost_23 : decode cX12_cost 23 = .ok (.aload_n 0, 1) := by decide +kernel
theorem dX12_cost_24 : decode cX12_cost 24 = .ok (.getfield 16, 3) := by decide +kernel
theorem dX12_cost_27 : decode cX12_cost 27 = .ok (.iload 4, 2) := by decide +kernel
theorem dX12_cost_29 : decode cX12_cost 29 = .ok (.iaload, 1) := by decide +kernel
theorem dX12_cost_30 : decode cX12_cost 30 = .ok (.if_icmp .le 7, 3) := by decide +kernel
theorem dX12_cost_33 : decode cX12_cost 33 = .ok (.iload_n 1, 1) := by decide +kernel
theorem dX12_cost_34 : decode cX12_cost 34 = .ok (.goto 10, 3) := by decide +kernel
theorem dX12_cost_37 : decode cX12_cost 37 = .ok (.aload_n 0, 1) := by decide +kernel
theorem dX12_cost_38 : decode cX12_cost 38 = .ok (.getfield 16, 3) := by decide +kernel
theorem dX12_cost_41 : decode cX12_cost 41 = .ok (.iload 4, 2) := by decide +kernel
theorem dX12_cost_43 : decode cX12_cost 43 = .ok (.iaload, 1) := by decide +kernel
theorem dX12_cost_44 : decode cX12_cost 44 = .ok (.aload_n 0, 1) := by decide +kernel
theorem dX12_cost_45 : decode cX12_cost 45 = .ok (.getfield 7, 3) := by decide +kernel
theorem dX12_cost_48 : decode cX12_cost 48 = .ok (.iload 4, 2) := by decide +kernel
theorem dX12_cost_50 : decode cX12_cost 50 = .ok (.iaload, 1) := by decide +kernel
theorem dX12_cost_51 : decode cX12_cost 51 = .ok (.iadd, 1) := by decide +kernel
theorem dX12_cost_52 : decode cX12_cost 52 = .ok (.istore_n 1, 1) := by decide +kernel
theorem dX12_cost_53 : decode cX12_cost 53 = .ok (.iload_n 2, 1) := by decide +kernel
theorem dX12_cost_54 : decode cX12_cost 54 = .ok (.aload_n 0, 1) := by decide +kernel
theorem dX12_cost_55 : decode cX12_cost 55 = .ok (.getfield 13, 3) := by decide +kernel
theorem dX12_cost_58 : decode cX12_cost 58 = .ok (.iload 4, 2) := by decide +kernel
theorem dX12_cost_60 : decode cX12_cost 60 = .ok (.iaload, 1) := by decide +kernel
theorem dX12_cost_61 : decode cX12_cost 61 = .ok (.iload_n 1, 1) := by decide +kernel
theorem dX12_cost_62 : decode cX12_cost 62 = .ok (.imul, 1) := by decide +kernel
theorem dX12_cost_63 : decode cX12_cost 63 = .ok (.iadd, 1) := by decide +kernel
theorem dX12_cost_64 : decode cX12_cost 64 = .ok (.istore_n 2, 1) := by decide +kernel
theorem dX12_cost_65 : decode cX12_cost 65 = .ok (.iinc 3 1, 3) := by decide +kernel
theorem dX12_cost_68 : decode cX12_cost 68 = .ok (.goto (-62), 3) := by decide +kernel
theorem dX12_cost_71 : decode cX12_cost 71 = .ok (.iload_n 2, 1) := by decide +kernel
theorem dX12_cost_72 : decode cX12_cost 72 = .ok (.ireturn, 1) := by decide +kernel
theorem dX12_change_0 : decode cX12_change 0 = .ok (.aload_n 0, 1) := by decide +kernel
theorem dX12_change_1 : decode cX12_change 1 = .ok (.getfield 25, 3) := by decide +kernel
theorem dX12_change_4 : decode cX12_change 4 = .ok (.iload_n 1, 1) := by decide +kernel
theorem dX12_change_5 : decode cX12_change 5 = .ok (.iaload, 1) := by decide +kernel
theorem dX12_change_6 : decode cX12_change 6 = .ok (.istore_n 2, 1) := by decide +kernel
theorem dX12_change_7 : decode cX12_change 7 = .ok (.aload_n 0, 1) := by decide +kernel
theorem dX12_change_8 : decode cX12_change 8 = .ok (.getfield 25, 3) := by decide +kernel
theorem dX12_change_11 : decode cX12_change 11 = .ok (.iload_n 1, 1) := by decide +kernel
theorem dX12_change_12 : decode cX12_change 12 = .ok (.aload_n 0, 1) := by decide +kernel
theorem dX12_change_13 : decode cX12_change 13 = .ok (.getfield 25, 3) := by decide +kernel
theorem dX12_change_16 : decode cX12_change 16 = .ok (.iload_n 1, 1) := by decide +kernel
theorem dX12_change_17 : decode cX12_change 17 = .ok (.iconst 1, 1) := by decide +kernel
theorem dX12_change_18 : decode cX12_change 18 = .ok (.iadd, 1) := by decide +kernel
theorem dX12_change_19 : decode cX12_change 19 = .ok (.iaload, 1) := by decide +kernel
theorem dX12_change_20 : decode cX12_change 20 = .ok (.iastore, 1) := by decide +kernel
theorem dX12_change_21 : decode cX12_change 21 = .ok (.aload_n 0, 1) := by decide +kernel
theorem dX12_change_22 : decode cX12_change 22 = .ok (.getfield 25, 3) := by decide +kernel
theorem dX12_change_25 : decode cX12_change 25 = .ok (.iload_n 1, 1) := by decide +kernel
theorem dX12_change_26 : decode cX12_change 26 = .ok (.iconst 1, 1) := by decide +kernel
theorem dX12_change_27 : decode cX12_change 27 = .ok (.iadd, 1) := by decide +kernel
theorem dX12_change_28 : decode cX12_change 28 = .ok (.iload_n 2, 1) := by decide +kernel
theorem dX12_change_29 : decode cX12_change 29 = .ok (.iastore, 1) := by decide +kernel
theorem dX12_change_30 : decode cX12_change 30 = .ok (.return_, 1) := by decide +kernel
theorem dX12_swap_0 : decode cX12_swap 0 = .ok (.iload_n 1, 1) := by decide +kernel
theorem dX12_swap_1 : decode cX12_swap 1 = .ok (.iconst 0, 1) := by decide +kernel
theorem dX12_swap_2 : decode cX12_swap 2 = .ok (.aload_n 0, 1) := by decide +kernel
theorem dX12_swap_3 : decode cX12_swap 3 = .ok (.getfield 93, 3) := by decide +kernel
theorem dX12_swap_6 : decode cX12_swap 6 = .ok (.iconst 2, 1) := by decide +kernel
theorem dX12_swap_7 : decode cX12_swap 7 = .ok (.isub, 1) := by decide +kernel
theorem dX12_swap_8 : decode cX12_swap 8 = .ok (.invokestatic 78, 3) := by decide +kernel
theorem dX12_swap_11 : decode cX12_swap 11 = .ok (.ifCond .ne 6, 3) := by decide +kernel
theorem dX12_swap_14 : decode cX12_swap 14 = .ok (.ldc 126, 2) := by decide +kernel
theorem dX12_swap_16 : decode cX12_swap 16 = .ok (.ireturn, 1) := by decide +kernel
theorem dX12_swap_17 : decode cX12_swap 17 = .ok (.aload_n 0, 1) := by decide +kernel
theorem dX12_swap_18 : decode cX12_swap 18 = .ok (.invokevirtual 127, 3) := by decide +kernel
theorem dX12_swap_21 : decode cX12_swap 21 = .ok (.istore_n 2, 1) := by decide +kernel
theorem dX12_swap_22 : decode cX12_swap 22 = .ok (.aload_n 0, 1) := by decide +kernel
theorem dX12_swap_23 : decode cX12_swap 23 = .ok (.iload_n 1, 1) := by decide +kernel
theorem dX12_swap_24 : decode cX12_swap 24 = .ok (.invokevirtual 130, 3) := by decide +kernel
theorem dX12_swap_27 : decode cX12_swap 27 = .ok (.aload_n 0, 1) := by decide +kernel
theorem dX12_swap_28 : decode cX12_swap 28 = .ok (.invokevirtual 127, 3) := by decide +kernel
theorem dX12_swap_31 : decode cX12_swap 31 = .ok (.istore_n 3, 1) := by decide +kernel
theorem dX12_swap_32 : decode cX12_swap 32 = .ok (.aload_n 0, 1) := by decide +kernel
theorem dX12_swap_33 : decode cX12_swap 33 = .ok (.iload_n 1, 1) := by decide +kernel
theorem dX12_swap_34 : decode cX12_swap 34 = .ok (.invokevirtual 130, 3) := by decide +kernel
theorem dX12_swap_37 : decode cX12_swap 37 = .ok (.iload_n 3, 1) := by decide +kernel
theorem dX12_swap_38 : decode cX12_swap 38 = .ok (.iload_n 2, 1) := by decide +kernel
theorem dX12_swap_39 : decode cX12_swap 39 = .ok (.isub, 1) := by decide +kernel
theorem dX12_swap_40 : decode cX12_swap 40 = .ok (.ireturn, 1) := by decide +kernel
theorem dX12_yard_0 : decode cX12_yard 0 = .ok (.aload_n 0, 1) := by decide +kernel
theorem dX12_yard_1 : decode cX12_yard 1 = .ok (.invokevirtual 110, 3) := by decide +kernel
theorem dX12_yard_4 : decode cX12_yard 4 = .ok (.iconst 0, 1) := by decide +kernel
theorem dX12_yard_5 : decode cX12_yard 5 = .ok (.istore_n 2, 1) := by decide +kernel
theorem dX12_yard_6 : decode cX12_yard 6 = .ok (.iload_n 2, 1) := by decide +kernel
theorem dX12_yard_7 : decode cX12_yard 7 = .ok (.aload_n 0, 1) := by decide +kernel
theorem dX12_yard_8 : decode cX12_yard 8 = .ok (.getfield 75, 3) := by decide +kernel
theorem dX12_yard_11 : decode cX12_yard 11 = .ok (.if_icmp .ge 128, 3) := by decide +kernel
theorem dX12_yard_14 : decode cX12_yard 14 = .ok (.aload_n 0, 1) := by decide +kernel
theorem dX12_yard_15 : decode cX12_yard 15 = .ok (.getfield 59, 3) := by decide +kernel
theorem dX12_yard_18 : decode cX12_yard 18 = .ok (.iload_n 2, 1) := by decide +kernel
theorem dX12_yard_19 : decode cX12_yard 19 = .ok (.iload_n 1, 1) := by decide +kernel
theorem dX12_yard_20 : decode cX12_yard 20 = .ok (.ifCond .eq 12, 3) := by decide +kernel
theorem dX12_yard_23 : decode cX12_yard 23 = .ok (.aload_n 0, 1) := by decide +kernel
theorem dX12_yard_24 : decode cX12_yard 24 = .ok (.getfield 13, 3) := by decide +kernel
theorem dX12_yard_27 : decode cX12_yard 27 = .ok (.iload_n 2, 1) := by decide +kernel
theorem dX12_yard_28 : decode cX12_yard 28 = .ok (.iaload, 1) := by decide +kernel
theorem dX12_yard_29 : decode cX12_yard 29 = .ok (.goto 9, 3) := by decide +kernel
theorem dX12_yard_32 : decode cX12_yard 32 = .ok (.aload_n 0, 1) := by decide +kernel
theorem dX12_yard_33 : decode cX12_yard 33 = .ok (.getfield 7, 3) := by decide +kernel
theorem dX12_yard_36 : decode cX12_yard 36 = .ok (.iload_n 2, 1) := by decide +kernel
theorem dX12_yard_37 : decode cX12_yard 37 = .ok (.iaload, 1) := by decide +kernel
theorem dX12_yard_38 : decode cX12_yard 38 = .ok (.iastore, 1) := by decide +kernel
theorem dX12_yard_39 : decode cX12_yard 39 = .ok (.aload_n 0, 1) := by decide +kernel
theorem dX12_yard_40 : decode cX12_yard 40 = .ok (.getfield 62, 3) := by decide +kernel
theorem dX12_yard_43 : decode cX12_yard 43 = .ok (.iload_n 2, 1) := by decide +kernel
theorem dX12_yard_44 : decode cX12_yard 44 = .ok (.iload_n 1, 1) := by decide +kernel
theorem dX12_yard_45 : decode cX12_yard 45 = .ok (.ifCond .eq 12, 3) := by decide +kernel
theorem dX12_yard_48 : decode cX12_yard 48 = .ok (.aload_n 0, 1) := by decide +kernel
theorem dX12_yard_49 : decode cX12_yard 49 = .ok (.getfield 7, 3) := by decide +kernel
theorem dX12_yard_52 : decode cX12_yard 52 = .ok (.iload_n 2, 1) := by decide +kernel
theorem dX12_yard_53 : decode cX12_yard 53 = .ok (.iaload, 1) := by decide +kernel
theorem dX12_yard_54 : decode cX12_yard 54 = .ok (.goto 9, 3) := by decide +kernel
theorem dX12_yard_57 : decode cX12_yard 57 = .ok (.aload_n 0, 1) := by decide +kernel
theorem dX12_yard_58 : decode cX12_yard 58 = .ok (.getfield 13, 3) := by decide +kernel
theorem dX12_yard_61 : decode cX12_yard 61 = .ok (.iload_n 2, 1) := by decide +kernel
theorem dX12_yard_62 : decode cX12_yard 62 = .ok (.iaload, 1) := by decide +kernel
theorem dX12_yard_63 : decode cX12_yard 63 = .ok (.iastore, 1) := by decide +kernel
theorem dX12_yard_64 : decode cX12_yard 64 = .ok (.aload_n 0, 1) := by decide +kernel
theorem dX12_yard_65 : decode cX12_yard 65 = .ok (.getfield 65, 3) := by decide +kernel
theorem dX12_yard_68 : decode cX12_yard 68 = .ok (.iload_n 2, 1) := by decide +kernel
theorem dX12_yard_69 : decode cX12_yard 69 = .ok (.iload_n 1, 1) := by decide +kernel
theorem dX12_yard_70 : decode cX12_yard 70 = .ok (.ifCond .eq 7, 3) := by decide +kernel
theorem dX12_yard_73 : decode cX12_yard 73 = .ok (.iconst 0, 1) := by decide +kernel
theorem dX12_yard_74 : decode cX12_yard 74 = .ok (.goto 9, 3) := by decide +kernel
theorem dX12_yard_77 : decode cX12_yard 77 = .ok (.aload_n 0, 1) := by decide +kernel
theorem dX12_yard_78 : decode cX12_yard 78 = .ok (.getfield 22, 3) := by decide +kernel
theorem dX12_yard_81 : decode cX12_yard 81 = .ok (.iload_n 2, 1) := by decide +kernel
theorem dX12_yard_82 : decode cX12_yard 82 = .ok (.iaload, 1) := by decide +kernel
theorem dX12_yard_83 : decode cX12_yard 83 = .ok (.iastore, 1) := by decide +kernel
theorem dX12_yard_84 : decode cX12_yard 84 = .ok (.iconst 0, 1) := by decide +kernel
theorem dX12_yard_85 : decode cX12_yard 85 = .ok (.istore_n 3, 1) := by decide +kernel
theorem dX12_yard_86 : decode cX12_yard 86 = .ok (.iload_n 1, 1) := by decide +kernel
theorem dX12_yard_87 : decode cX12_yard 87 = .ok (.ifCond .eq 46, 3) := by decide +kernel
theorem dX12_yard_90 : decode cX12_yard 90 = .ok (.iload_n 3, 1) := by decide +kernel
theorem dX12_yard_91 : decode cX12_yard 91 = .ok (.aload_n 0, 1) := by decide +kernel
theorem dX12_yard_92 : decode cX12_yard 92 = .ok (.getfield 75, 3) := by decide +kernel
theorem dX12_yard_95 : decode cX12_yard 95 = .ok (.if_icmp .ge 38, 3) := by decide +kernel
theorem dX12_yard_98 : decode cX12_yard 98 = .ok (.aload_n 0, 1) := by decide +kernel
theorem dX12_yard_99 : decode cX12_yard 99 = .ok (.getfield 65, 3) := by decide +kernel
theorem dX12_yard_102 : decode cX12_yard 102 = .ok (.iload_n 2, 1) := by decide +kernel
theorem dX12_yard_103 : decode cX12_yard 103 = .ok (.dup2, 1) := by decide +kernel
theorem dX12_yard_104 : decode cX12_yard 104 = .ok (.iaload, 1) := by decide +kernel
theorem dX12_yard_105 : decode cX12_yard 105 = .ok (.aload_n 0, 1) := by decide +kernel
theorem dX12_yard_106 : decode cX12_yard 106 = .ok (.getfield 22, 3) := by decide +kernel
theorem dX12_yard_109 : decode cX12_yard 109 = .ok (.iload_n 3, 1) := by decide +kernel
theorem dX12_yard_110 : decode cX12_yard 110 = .ok (.iaload, 1) := by decide +kernel
theorem dX12_yard_111 : decode cX12_yard 111 = .ok (.iload_n 2, 1) := by decide +kernel
theorem dX12_yard_112 : decode cX12_yard 112 = .ok (.invokestatic 82, 3) := by decide +kernel
theorem dX12_yard_115 : decode cX12_yard 115 = .ok (.ifCond .eq 9, 3) := by decide +kernel
theorem dX12_yard_118 : decode cX12_yard 118 = .ok (.iconst 1, 1) := by decide +kernel
theorem dX12_yard_119 : decode cX12_yard 119 = .ok (.iload_n 3, 1) := by decide +kernel
theorem dX12_yard_120 : decode cX12_yard 120 = .ok (.ishl, 1) := by decide +kernel
theorem dX12_yard_121 : decode cX12_yard 121 = .ok (.goto 4, 3) := by decide +kernel
theorem dX12_yard_124 : decode cX12_yard 124 = .ok (.iconst 0, 1) := by decide +kernel
theorem dX12_yard_125 : decode cX12_yard 125 = .ok (.ior, 1) := by decide +kernel
theorem dX12_yard_126 : decode cX12_yard 126 = .ok (.iastore, 1) := by decide +kernel
theorem dX12_yard_127 : decode cX12_yard 127 = .ok (.iinc 3 1, 3) := by decide +kernel
theorem dX12_yard_130 : decode cX12_yard 130 = .ok (.goto (-44), 3) := by decide +kernel
theorem dX12_yard_133 : decode cX12_yard 133 = .ok (.iinc 2 1, 3) := by decide +kernel
theorem dX12_yard_136 : decode cX12_yard 136 = .ok (.goto (-130), 3) := by decide +kernel
theorem dX12_yard_139 : decode cX12_yard 139 = .ok (.return_, 1) := by decide +kernel
theorem dX12_all_0 : decode cX12_all 0 = .ok (.iconst 1, 1) := by decide +kernel
theorem dX12_all_1 : decode cX12_all 1 = .ok (.aload_n 0, 1) := by decide +kernel
theorem dX12_all_2 : decode cX12_all 2 = .ok (.getfield 75, 3) := by decide +kernel
theorem dX12_all_5 : decode cX12_all 5 = .ok (.ishl, 1) := by decide +kernel
theorem dX12_all_6 : decode cX12_all 6 = .ok (.iconst 1, 1) := by decide +kernel
theorem dX12_all_7 : decode cX12_all 7 = .ok (.isub, 1) := by decide +kernel
theorem dX12_all_8 : decode cX12_all 8 = .ok (.ireturn, 1) := by decide +kernel
theorem dX12_layAll_0 : decode cX12_layAll 0 = .ok (.iconst 0, 1) := by decide +kernel
theorem dX12_layAll_1 : decode cX12_layAll 1 = .ok (.istore_n 1, 1) := by decide +kernel
theorem dX12_layAll_2 : decode cX12_layAll 2 = .ok (.iload_n 1, 1) := by decide +kernel
theorem dX12_layAll_3 : decode cX12_layAll 3 = .ok (.aload_n 0, 1) := by decide +kernel
theorem dX12_layAll_4 : decode cX12_layAll 4 = .ok (.invokevirtual 134, 3) := by decide +kernel
theorem dX12_layAll_7 : decode cX12_layAll 7 = .ok (.if_icmp .gt 90, 3) := by decide +kernel
theorem dX12_layAll_10 : decode cX12_layAll 10 = .ok (.aload_n 0, 1) := by decide +kernel
theorem dX12_layAll_11 : decode cX12_layAll 11 = .ok (.getfield 50, 3) := by decide +kernel
theorem dX12_layAll_14 : decode cX12_layAll 14 = .ok (.iload_n 1, 1) := by decide +kernel
theorem dX12_layAll_15 : decode cX12_layAll 15 = .ok (.iload_n 1, 1) := by decide +kernel
theorem dX12_layAll_16 : decode cX12_layAll 16 = .ok (.ifCond .ne 7, 3) := by decide +kernel
theorem dX12_layAll_19 : decode cX12_layAll 19 = .ok (.iconst 0, 1) := by decide +kernel
theorem dX12_layAll_20 : decode cX12_layAll 20 = .ok (.goto 5, 3) := by decide +kernel
theorem dX12_layAll_23 : decode cX12_layAll 23 = .ok (.ldc 137, 2) := by decide +kernel
theorem dX12_layAll_25 : decode cX12_layAll 25 = .ok (.iastore, 1) := by decide +kernel
theorem dX12_layAll_26 : decode cX12_layAll 26 = .ok (.aload_n 0, 1) := by decide +kernel
theorem dX12_layAll_27 : decode cX12_layAll 27 = .ok (.getfield 53, 3) := by decide +kernel
theorem dX12_layAll_30 : decode cX12_layAll 30 = .ok (.iload_n 1, 1) := by decide +kernel
theorem dX12_layAll_31 : decode cX12_layAll 31 = .ok (.iload_n 1, 1) := by decide +kernel
theorem dX12_layAll_32 : decode cX12_layAll 32 = .ok (.ifCond .ne 7, 3) := by decide +kernel
theorem dX12_layAll_35 : decode cX12_layAll 35 = .ok (.iconst 1, 1) := by decide +kernel
theorem dX12_layAll_36 : decode cX12_layAll 36 = .ok (.goto 4, 3) := by decide +kernel
theorem dX12_layAll_39 : decode cX12_layAll 39 = .ok (.iconst 0, 1) := by decide +kernel
theorem dX12_layAll_40 : decode cX12_layAll 40 = .ok (.iastore, 1) := by decide +kernel
theorem dX12_layAll_41 : decode cX12_layAll 41 = .ok (.aload_n 0, 1) := by decide +kernel
theorem dX12_layAll_42 : decode cX12_layAll 42 = .ok (.getfield 47, 3) := by decide +kernel
theorem dX12_layAll_45 : decode cX12_layAll 45 = .ok (.iload_n 1, 1) := by decide +kernel
theorem dX12_layAll_46 : decode cX12_layAll 46 = .ok (.iconst 0, 1) := by decide +kernel
theorem dX12_layAll_47 : decode cX12_layAll 47 = .ok (.iastore, 1) := by decide +kernel
theorem dX12_layAll_48 : decode cX12_layAll 48 = .ok (.iconst 0, 1) := by decide +kernel
theorem dX12_layAll_49 : decode cX12_layAll 49 = .ok (.istore_n 2, 1) := by decide +kernel
theorem dX12_layAll_50 : decode cX12_layAll 50 = .ok (.iload_n 2, 1) := by decide +kernel
theorem dX12_layAll_51 : decode cX12_layAll 51 = .ok (.aload_n 0, 1) := by decide +kernel
theorem dX12_layAll_52 : decode cX12_layAll 52 = .ok (.getfield 75, 3) := by decide +kernel
theorem dX12_layAll_55 : decode cX12_layAll 55 = .ok (.if_icmp .ge 36, 3) := by decide +kernel
theorem dX12_layAll_58 : decode cX12_layAll 58 = .ok (.aload_n 0, 1) := by decide +kernel
theorem dX12_layAll_59 : decode cX12_layAll 59 = .ok (.getfield 47, 3) := by decide +kernel
theorem dX12_layAll_62 : decode cX12_layAll 62 = .ok (.iload_n 1, 1) := by decide +kernel
theorem dX12_layAll_63 : decode cX12_layAll 63 = .ok (.dup2, 1) := by decide +kernel
theorem dX12_layAll_64 : decode cX12_layAll 64 = .ok (.iaload, 1) := by decide +kernel
theorem dX12_layAll_65 : decode cX12_layAll 65 = .ok (.iload_n 1, 1) := by decide +kernel
theorem dX12_layAll_66 : decode cX12_layAll 66 = .ok (.iload_n 2, 1) := by decide +kernel
theorem dX12_layAll_67 : decode cX12_layAll 67 = .ok (.invokestatic 82, 3) := by decide +kernel
theorem dX12_layAll_70 : decode cX12_layAll 70 = .ok (.ifCond .eq 12, 3) := by decide +kernel
theorem dX12_layAll_73 : decode cX12_layAll 73 = .ok (.aload_n 0, 1) := by decide +kernel
theorem dX12_layAll_74 : decode cX12_layAll 74 = .ok (.getfield 59, 3) := by decide +kernel
theorem dX12_layAll_77 : decode cX12_layAll 77 = .ok (.iload_n 2, 1) := by decide +kernel
theorem dX12_layAll_78 : decode cX12_layAll 78 = .ok (.iaload, 1) := by decide +kernel
theorem dX12_layAll_79 : decode cX12_layAll 79 = .ok (.goto 4, 3) := by decide +kernel
theorem dX12_layAll_82 : decode cX12_layAll 82 = .ok (.iconst 0, 1) := by decide +kernel
theorem dX12_layAll_83 : decode cX12_layAll 83 = .ok (.iadd, 1) := by decide +kernel
theorem dX12_layAll_84 : decode cX12_layAll 84 = .ok (.iastore, 1) := by decide +kernel
theorem dX12_layAll_85 : decode cX12_layAll 85 = .ok (.iinc 2 1, 3) := by decide +kernel
theorem dX12_layAll_88 : decode cX12_layAll 88 = .ok (.goto (-38), 3) := by decide +kernel
theorem dX12_layAll_91 : decode cX12_layAll 91 = .ok (.iinc 1 1, 3) := by decide +kernel
theorem dX12_layAll_94 : decode cX12_layAll 94 = .ok (.goto (-92), 3) := by decide +kernel
theorem dX12_layAll_97 : decode cX12_layAll 97 = .ok (.iconst 0, 1) := by decide +kernel
theorem dX12_layAll_98 : decode cX12_layAll 98 = .ok (.istore_n 1, 1) := by decide +kernel
theorem dX12_layAll_99 : decode cX12_layAll 99 = .ok (.iload_n 1, 1) := by decide +kernel
theorem dX12_layAll_100 : decode cX12_layAll 100 = .ok (.aload_n 0, 1) := by decide +kernel
theorem dX12_layAll_101 : decode cX12_layAll 101 = .ok (.invokevirtual 134, 3) := by decide +kernel
theorem dX12_layAll_104 : decode cX12_layAll 104 = .ok (.if_icmp .gt 94, 3) := by decide +kernel
theorem dX12_layAll_107 : decode cX12_layAll 107 = .ok (.iconst 0, 1) := by decide +kernel
theorem dX12_layAll_108 : decode cX12_layAll 108 = .ok (.istore_n 2, 1) := by decide +kernel
theorem dX12_layAll_109 : decode cX12_layAll 109 = .ok (.iload_n 2, 1) := by decide +kernel
theorem dX12_layAll_110 : decode cX12_layAll 110 = .ok (.aload_n 0, 1) := by decide +kernel
theorem dX12_layAll_111 : decode cX12_layAll 111 = .ok (.getfield 75, 3) := by decide +kernel
theorem dX12_layAll_114 : decode cX12_layAll 114 = .ok (.if_icmp .ge 78, 3) := by decide +kernel
theorem dX12_layAll_117 : decode cX12_layAll 117 = .ok (.aload_n 0, 1) := by decide +kernel
theorem dX12_layAll_118 : decode cX12_layAll 118 = .ok (.getfield 50, 3) := by decide +kernel
theorem dX12_layAll_121 : decode cX12_layAll 121 = .ok (.iload_n 1, 1) := by decide +kernel
theorem dX12_layAll_122 : decode cX12_layAll 122 = .ok (.iaload, 1) := by decide +kernel
theorem dX12_layAll_123 : decode cX12_layAll 123 = .ok (.ldc 137, 2) := by decide +kernel
theorem dX12_layAll_125 : decode cX12_layAll 125 = .ok (.if_icmp .ge 67, 3) := by decide +kernel
theorem dX12_layAll_128 : decode cX12_layAll 128 = .ok (.iload_n 1, 1) := by decide +kernel
theorem dX12_layAll_129 : decode cX12_layAll 129 = .ok (.iload_n 2, 1) := by decide +kernel
theorem dX12_layAll_130 : decode cX12_layAll 130 = .ok (.invokestatic 82, 3) := by decide +kernel
theorem dX12_layAll_133 : decode cX12_layAll 133 = .ok (.ifCond .ne 53, 3) := by decide +kernel
theorem dX12_layAll_136 : decode cX12_layAll 136 = .ok (.aload_n 0, 1) := by decide +kernel
theorem dX12_layAll_137 : decode cX12_layAll 137 = .ok (.getfield 65, 3) := by decide +kernel
theorem dX12_layAll_140 : decode cX12_layAll 140 = .ok (.iload_n 2, 1) := by decide +kernel
theorem dX12_layAll_141 : decode cX12_layAll 141 = .ok (.iaload, 1) := by decide +kernel
theorem dX12_layAll_142 : decode cX12_layAll 142 = .ok (.iload_n 1, 1) := by decide +kernel
theorem dX12_layAll_143 : decode cX12_layAll 143 = .ok (.iconst (-1), 1) := by decide +kernel
theorem dX12_layAll_144 : decode cX12_layAll 144 = .ok (.ixor, 1) := by decide +kernel
theorem dX12_layAll_145 : decode cX12_layAll 145 = .ok (.iand, 1) := by decide +kernel
theorem dX12_layAll_146 : decode cX12_layAll 146 = .ok (.ifCond .ne 40, 3) := by decide +kernel
theorem dX12_layAll_149 : decode cX12_layAll 149 = .ok (.aload_n 0, 1) := by decide +kernel
theorem dX12_layAll_150 : decode cX12_layAll 150 = .ok (.iload_n 1, 1) := by decide +kernel
theorem dX12_layAll_151 : decode cX12_layAll 151 = .ok (.iload_n 1, 1) := by decide +kernel
theorem dX12_layAll_152 : decode cX12_layAll 152 = .ok (.iconst 1, 1) := by decide +kernel
theorem dX12_layAll_153 : decode cX12_layAll 153 = .ok (.iload_n 2, 1) := by decide +kernel
theorem dX12_layAll_154 : decode cX12_layAll 154 = .ok (.ishl, 1) := by decide +kernel
theorem dX12_layAll_155 : decode cX12_layAll 155 = .ok (.ior, 1) := by decide +kernel
theorem dX12_layAll_156 : decode cX12_layAll 156 = .ok (.aload_n 0, 1) := by decide +kernel
theorem dX12_layAll_157 : decode cX12_layAll 157 = .ok (.getfield 50, 3) := by decide +kernel
theorem dX12_layAll_160 : decode cX12_layAll 160 = .ok (.iload_n 1, 1) := by decide +kernel
theorem dX12_layAll_161 : decode cX12_layAll 161 = .ok (.iaload, 1) := by decide +kernel
theorem dX12_layAll_162 : decode cX12_layAll 162 = .ok (.aload_n 0, 1) := by decide +kernel
theorem dX12_layAll_163 : decode cX12_layAll 163 = .ok (.getfield 62, 3) := by decide +kernel
theorem dX12_layAll_166 : decode cX12_layAll 166 = .ok (.iload_n 2, 1) := by decide +kernel
theorem dX12_layAll_167 : decode cX12_layAll 167 = .ok (.iaload, 1) := by decide +kernel
theorem dX12_layAll_168 : decode cX12_layAll 168 = .ok (.aload_n 0, 1) := by decide +kernel
theorem dX12_layAll_169 : decode cX12_layAll 169 = .ok (.getfield 47, 3) := by decide +kernel
theorem dX12_layAll_172 : decode cX12_layAll 172 = .ok (.iload_n 1, 1) := by decide +kernel
theorem dX12_layAll_173 : decode cX12_layAll 173 = .ok (.iaload, 1) := by decide +kernel
theorem dX12_layAll_174 : decode cX12_layAll 174 = .ok (.aload_n 0, 1) := by decide +kernel
theorem dX12_layAll_175 : decode cX12_layAll 175 = .ok (.getfield 59, 3) := by decide +kernel
theorem dX12_layAll_178 : decode cX12_layAll 178 = .ok (.iload_n 2, 1) := by decide +kernel
theorem dX12_layAll_179 : decode cX12_layAll 179 = .ok (.iaload, 1) := by decide +kernel
theorem dX12_layAll_180 : decode cX12_layAll 180 = .ok (.iadd, 1) := by decide +kernel
theorem dX12_layAll_181 : decode cX12_layAll 181 = .ok (.imul, 1) := by decide +kernel
theorem dX12_layAll_182 : decode cX12_layAll 182 = .ok (.iadd, 1) := by decide +kernel
theorem dX12_layAll_183 : decode cX12_layAll 183 = .ok (.invokevirtual 138, 3) := by decide +kernel
theorem dX12_layAll_186 : decode cX12_layAll 186 = .ok (.iinc 2 1, 3) := by decide +kernel
