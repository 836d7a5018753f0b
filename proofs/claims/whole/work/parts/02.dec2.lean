theorem dX11_rich_39 : decode cX11_rich 39 = .ok (.if_icmp .ge 36, 3) := by decide +kernel
theorem dX11_rich_42 : decode cX11_rich 42 = .ok (.iload_n 3, 1) := by decide +kernel
theorem dX11_rich_43 : decode cX11_rich 43 = .ok (.bipush (-2), 2) := by decide +kernel
theorem dX11_rich_45 : decode cX11_rich 45 = .ok (.if_icmp .ne 30, 3) := by decide +kernel
theorem dX11_rich_48 : decode cX11_rich 48 = .ok (.iload 4, 2) := by decide +kernel
theorem dX11_rich_50 : decode cX11_rich 50 = .ok (.ifCond .le 7, 3) := by decide +kernel
theorem dX11_rich_53 : decode cX11_rich 53 = .ok (.aload_n 0, 1) := by decide +kernel
theorem dX11_rich_54 : decode cX11_rich 54 = .ok (.invokevirtual 244, 3) := by decide +kernel
theorem dX11_rich_57 : decode cX11_rich 57 = .ok (.aload_n 0, 1) := by decide +kernel
theorem dX11_rich_58 : decode cX11_rich 58 = .ok (.iload_n 1, 1) := by decide +kernel
theorem dX11_rich_59 : decode cX11_rich 59 = .ok (.invokevirtual 258, 3) := by decide +kernel
theorem dX11_rich_62 : decode cX11_rich 62 = .ok (.iload_n 2, 1) := by decide +kernel
theorem dX11_rich_63 : decode cX11_rich 63 = .ok (.if_icmp .lt 6, 3) := by decide +kernel
theorem dX11_rich_66 : decode cX11_rich 66 = .ok (.iload 4, 2) := by decide +kernel
theorem dX11_rich_68 : decode cX11_rich 68 = .ok (.istore_n 3, 1) := by decide +kernel
theorem dX11_rich_69 : decode cX11_rich 69 = .ok (.iinc 4 1, 3) := by decide +kernel
theorem dX11_rich_72 : decode cX11_rich 72 = .ok (.goto (-37), 3) := by decide +kernel
theorem dX11_rich_75 : decode cX11_rich 75 = .ok (.aload_n 0, 1) := by decide +kernel
theorem dX11_rich_76 : decode cX11_rich 76 = .ok (.aload_n 0, 1) := by decide +kernel
theorem dX11_rich_77 : decode cX11_rich 77 = .ok (.getfield 88, 3) := by decide +kernel
theorem dX11_rich_80 : decode cX11_rich 80 = .ok (.invokevirtual 261, 3) := by decide +kernel
theorem dX11_rich_83 : decode cX11_rich 83 = .ok (.iload_n 3, 1) := by decide +kernel
theorem dX11_rich_84 : decode cX11_rich 84 = .ok (.ireturn, 1) := by decide +kernel
theorem dX11_sink_0 : decode cX11_sink 0 = .ok (.iload_n 1, 1) := by decide +kernel
theorem dX11_sink_1 : decode cX11_sink 1 = .ok (.invokestatic 105, 3) := by decide +kernel
theorem dX11_sink_4 : decode cX11_sink 4 = .ok (.ifCond .eq 12, 3) := by decide +kernel
theorem dX11_sink_7 : decode cX11_sink 7 = .ok (.iload_n 2, 1) := by decide +kernel
theorem dX11_sink_8 : decode cX11_sink 8 = .ok (.iconst 0, 1) := by decide +kernel
theorem dX11_sink_9 : decode cX11_sink 9 = .ok (.iconst 1, 1) := by decide +kernel
theorem dX11_sink_10 : decode cX11_sink 10 = .ok (.invokestatic 97, 3) := by decide +kernel
theorem dX11_sink_13 : decode cX11_sink 13 = .ok (.ifCond .ne 5, 3) := by decide +kernel
theorem dX11_sink_16 : decode cX11_sink 16 = .ok (.iconst (-1), 1) := by decide +kernel
theorem dX11_sink_17 : decode cX11_sink 17 = .ok (.ireturn, 1) := by decide +kernel
theorem dX11_sink_18 : decode cX11_sink 18 = .ok (.iload_n 1, 1) := by decide +kernel
theorem dX11_sink_19 : decode cX11_sink 19 = .ok (.istore_n 3, 1) := by decide +kernel
theorem dX11_sink_20 : decode cX11_sink 20 = .ok (.iconst 0, 1) := by decide +kernel
theorem dX11_sink_21 : decode cX11_sink 21 = .ok (.istore 4, 2) := by decide +kernel
theorem dX11_sink_23 : decode cX11_sink 23 = .ok (.aload_n 0, 1) := by decide +kernel
theorem dX11_sink_24 : decode cX11_sink 24 = .ok (.iload_n 3, 1) := by decide +kernel
theorem dX11_sink_25 : decode cX11_sink 25 = .ok (.invokevirtual 215, 3) := by decide +kernel
theorem dX11_sink_28 : decode cX11_sink 28 = .ok (.ifCond .lt 15, 3) := by decide +kernel
theorem dX11_sink_31 : decode cX11_sink 31 = .ok (.aload_n 0, 1) := by decide +kernel
theorem dX11_sink_32 : decode cX11_sink 32 = .ok (.iload_n 3, 1) := by decide +kernel
theorem dX11_sink_33 : decode cX11_sink 33 = .ok (.invokevirtual 215, 3) := by decide +kernel
theorem dX11_sink_36 : decode cX11_sink 36 = .ok (.istore_n 3, 1) := by decide +kernel
theorem dX11_sink_37 : decode cX11_sink 37 = .ok (.iinc 4 1, 3) := by decide +kernel
theorem dX11_sink_40 : decode cX11_sink 40 = .ok (.goto (-17), 3) := by decide +kernel
theorem dX11_sink_43 : decode cX11_sink 43 = .ok (.iload_n 2, 1) := by decide +kernel
theorem dX11_sink_44 : decode cX11_sink 44 = .ok (.ifCond .ne 7, 3) := by decide +kernel
theorem dX11_sink_47 : decode cX11_sink 47 = .ok (.iload_n 3, 1) := by decide +kernel
theorem dX11_sink_48 : decode cX11_sink 48 = .ok (.goto 5, 3) := by decide +kernel
theorem dX11_sink_51 : decode cX11_sink 51 = .ok (.iload 4, 2) := by decide +kernel
theorem dX11_sink_53 : decode cX11_sink 53 = .ok (.ireturn, 1) := by decide +kernel
theorem dX11_comesTo_0 : decode cX11_comesTo 0 = .ok (.iload_n 1, 1) := by decide +kernel
theorem dX11_comesTo_1 : decode cX11_comesTo 1 = .ok (.istore_n 3, 1) := by decide +kernel
theorem dX11_comesTo_2 : decode cX11_comesTo 2 = .ok (.iload_n 3, 1) := by decide +kernel
theorem dX11_comesTo_3 : decode cX11_comesTo 3 = .ok (.ifCond .lt 17, 3) := by decide +kernel
theorem dX11_comesTo_6 : decode cX11_comesTo 6 = .ok (.iload_n 3, 1) := by decide +kernel
theorem dX11_comesTo_7 : decode cX11_comesTo 7 = .ok (.iload_n 2, 1) := by decide +kernel
theorem dX11_comesTo_8 : decode cX11_comesTo 8 = .ok (.if_icmp .eq 12, 3) := by decide +kernel
theorem dX11_comesTo_11 : decode cX11_comesTo 11 = .ok (.aload_n 0, 1) := by decide +kernel
theorem dX11_comesTo_12 : decode cX11_comesTo 12 = .ok (.iload_n 3, 1) := by decide +kernel
theorem dX11_comesTo_13 : decode cX11_comesTo 13 = .ok (.invokevirtual 215, 3) := by decide +kernel
theorem dX11_comesTo_16 : decode cX11_comesTo 16 = .ok (.istore_n 3, 1) := by decide +kernel
theorem dX11_comesTo_17 : decode cX11_comesTo 17 = .ok (.goto (-15), 3) := by decide +kernel
theorem dX11_comesTo_20 : decode cX11_comesTo 20 = .ok (.iload_n 3, 1) := by decide +kernel
theorem dX11_comesTo_21 : decode cX11_comesTo 21 = .ok (.iload_n 2, 1) := by decide +kernel
theorem dX11_comesTo_22 : decode cX11_comesTo 22 = .ok (.if_icmp .ne 7, 3) := by decide +kernel
theorem dX11_comesTo_25 : decode cX11_comesTo 25 = .ok (.iconst 1, 1) := by decide +kernel
theorem dX11_comesTo_26 : decode cX11_comesTo 26 = .ok (.goto 4, 3) := by decide +kernel
theorem dX11_comesTo_29 : decode cX11_comesTo 29 = .ok (.iconst 0, 1) := by decide +kernel
theorem dX11_comesTo_30 : decode cX11_comesTo 30 = .ok (.ireturn, 1) := by decide +kernel
theorem dX11_basin_0 : decode cX11_basin 0 = .ok (.iload_n 1, 1) := by decide +kernel
theorem dX11_basin_1 : decode cX11_basin 1 = .ok (.iconst (-1), 1) := by decide +kernel
theorem dX11_basin_2 : decode cX11_basin 2 = .ok (.if_icmp .eq 14, 3) := by decide +kernel
theorem dX11_basin_5 : decode cX11_basin 5 = .ok (.iload_n 1, 1) := by decide +kernel
theorem dX11_basin_6 : decode cX11_basin 6 = .ok (.invokestatic 105, 3) := by decide +kernel
theorem dX11_basin_9 : decode cX11_basin 9 = .ok (.ifCond .ne 7, 3) := by decide +kernel
theorem dX11_basin_12 : decode cX11_basin 12 = .ok (.ldc2_w 273, 3) := by decide +kernel
theorem dX11_basin_15 : decode cX11_basin 15 = .ok (.lreturn, 1) := by decide +kernel
theorem dX11_basin_16 : decode cX11_basin 16 = .ok (.lconst 0, 1) := by decide +kernel
theorem dX11_basin_17 : decode cX11_basin 17 = .ok (.lstore_n 2, 1) := by decide +kernel
theorem dX11_basin_18 : decode cX11_basin 18 = .ok (.iconst 0, 1) := by decide +kernel
theorem dX11_basin_19 : decode cX11_basin 19 = .ok (.istore 4, 2) := by decide +kernel
theorem dX11_basin_21 : decode cX11_basin 21 = .ok (.iload 4, 2) := by decide +kernel
theorem dX11_basin_23 : decode cX11_basin 23 = .ok (.bipush 36, 2) := by decide +kernel
theorem dX11_basin_25 : decode cX11_basin 25 = .ok (.if_icmp .ge 43, 3) := by decide +kernel
theorem dX11_basin_28 : decode cX11_basin 28 = .ok (.iload_n 1, 1) := by decide +kernel
theorem dX11_basin_29 : decode cX11_basin 29 = .ok (.iconst (-1), 1) := by decide +kernel
theorem dX11_basin_30 : decode cX11_basin 30 = .ok (.if_icmp .ne 15, 3) := by decide +kernel
theorem dX11_basin_33 : decode cX11_basin 33 = .ok (.aload_n 0, 1) := by decide +kernel
theorem dX11_basin_34 : decode cX11_basin 34 = .ok (.iload 4, 2) := by decide +kernel
theorem dX11_basin_36 : decode cX11_basin 36 = .ok (.invokevirtual 215, 3) := by decide +kernel
theorem dX11_basin_39 : decode cX11_basin 39 = .ok (.ifCond .ge 23, 3) := by decide +kernel
theorem dX11_basin_42 : decode cX11_basin 42 = .ok (.goto 13, 3) := by decide +kernel
theorem dX11_basin_45 : decode cX11_basin 45 = .ok (.aload_n 0, 1) := by decide +kernel
theorem dX11_basin_46 : decode cX11_basin 46 = .ok (.iload 4, 2) := by decide +kernel
theorem dX11_basin_48 : decode cX11_basin 48 = .ok (.iload_n 1, 1) := by decide +kernel
theorem dX11_basin_49 : decode cX11_basin 49 = .ok (.invokevirtual 275, 3) := by decide +kernel
theorem dX11_basin_52 : decode cX11_basin 52 = .ok (.ifCond .eq 10, 3) := by decide +kernel
theorem dX11_basin_55 : decode cX11_basin 55 = .ok (.lload_n 2, 1) := by decide +kernel
theorem dX11_basin_56 : decode cX11_basin 56 = .ok (.lconst 1, 1) := by decide +kernel
theorem dX11_basin_57 : decode cX11_basin 57 = .ok (.iload 4, 2) := by decide +kernel
theorem dX11_basin_59 : decode cX11_basin 59 = .ok (.lshl, 1) := by decide +kernel
theorem dX11_basin_60 : decode cX11_basin 60 = .ok (.lor, 1) := by decide +kernel
theorem dX11_basin_61 : decode cX11_basin 61 = .ok (.lstore_n 2, 1) := by decide +kernel
theorem dX11_basin_62 : decode cX11_basin 62 = .ok (.iinc 4 1, 3) := by decide +kernel
theorem dX11_basin_65 : decode cX11_basin 65 = .ok (.goto (-44), 3) := by decide +kernel
theorem dX11_basin_68 : decode cX11_basin 68 = .ok (.lload_n 2, 1) := by decide +kernel
theorem dX11_basin_69 : decode cX11_basin 69 = .ok (.lreturn, 1) := by decide +kernel
theorem dX11_measured_0 : decode cX11_measured 0 = .ok (.iload_n 1, 1) := by decide +kernel
theorem dX11_measured_1 : decode cX11_measured 1 = .ok (.iconst (-1), 1) := by decide +kernel
theorem dX11_measured_2 : decode cX11_measured 2 = .ok (.if_icmp .ne 10, 3) := by decide +kernel
theorem dX11_measured_5 : decode cX11_measured 5 = .ok (.aload_n 0, 1) := by decide +kernel
theorem dX11_measured_6 : decode cX11_measured 6 = .ok (.invokevirtual 264, 3) := by decide +kernel
theorem dX11_measured_9 : decode cX11_measured 9 = .ok (.goto 8, 3) := by decide +kernel
theorem dX11_measured_12 : decode cX11_measured 12 = .ok (.aload_n 0, 1) := by decide +kernel
theorem dX11_measured_13 : decode cX11_measured 13 = .ok (.iload_n 1, 1) := by decide +kernel
theorem dX11_measured_14 : decode cX11_measured 14 = .ok (.invokevirtual 258, 3) := by decide +kernel
theorem dX11_measured_17 : decode cX11_measured 17 = .ok (.ireturn, 1) := by decide +kernel
theorem dX11_fall_0 : decode cX11_fall 0 = .ok (.iload_n 1, 1) := by decide +kernel
theorem dX11_fall_1 : decode cX11_fall 1 = .ok (.ifCond .lt 47, 3) := by decide +kernel
theorem dX11_fall_4 : decode cX11_fall 4 = .ok (.iload_n 1, 1) := by decide +kernel
theorem dX11_fall_5 : decode cX11_fall 5 = .ok (.bipush 100, 2) := by decide +kernel
theorem dX11_fall_7 : decode cX11_fall 7 = .ok (.idiv, 1) := by decide +kernel
theorem dX11_fall_8 : decode cX11_fall 8 = .ok (.invokestatic 105, 3) := by decide +kernel
theorem dX11_fall_11 : decode cX11_fall 11 = .ok (.ifCond .eq 37, 3) := by decide +kernel
theorem dX11_fall_14 : decode cX11_fall 14 = .ok (.iload_n 1, 1) := by decide +kernel
theorem dX11_fall_15 : decode cX11_fall 15 = .ok (.bipush 100, 2) := by decide +kernel
theorem dX11_fall_17 : decode cX11_fall 17 = .ok (.irem, 1) := by decide +kernel
theorem dX11_fall_18 : decode cX11_fall 18 = .ok (.invokestatic 247, 3) := by decide +kernel
theorem dX11_fall_21 : decode cX11_fall 21 = .ok (.ifCond .eq 27, 3) := by decide +kernel
theorem dX11_fall_24 : decode cX11_fall 24 = .ok (.iload_n 2, 1) := by decide +kernel
theorem dX11_fall_25 : decode cX11_fall 25 = .ok (.iconst 1, 1) := by decide +kernel
theorem dX11_fall_26 : decode cX11_fall 26 = .ok (.sipush 9999, 3) := by decide +kernel
theorem dX11_fall_29 : decode cX11_fall 29 = .ok (.invokestatic 97, 3) := by decide +kernel
theorem dX11_fall_32 : decode cX11_fall 32 = .ok (.ifCond .eq 16, 3) := by decide +kernel
theorem dX11_fall_35 : decode cX11_fall 35 = .ok (.iload_n 3, 1) := by decide +kernel
theorem dX11_fall_36 : decode cX11_fall 36 = .ok (.iconst (-1), 1) := by decide +kernel
theorem dX11_fall_37 : decode cX11_fall 37 = .ok (.if_icmp .eq 15, 3) := by decide +kernel
theorem dX11_fall_40 : decode cX11_fall 40 = .ok (.aload_n 0, 1) := by decide +kernel
theorem dX11_fall_41 : decode cX11_fall 41 = .ok (.iload_n 3, 1) := by decide +kernel
theorem dX11_fall_42 : decode cX11_fall 42 = .ok (.invokevirtual 122, 3) := by decide +kernel
theorem dX11_fall_45 : decode cX11_fall 45 = .ok (.ifCond .ne 7, 3) := by decide +kernel
theorem dX11_fall_48 : decode cX11_fall 48 = .ok (.ldc_w 278, 3) := by decide +kernel
theorem dX11_fall_51 : decode cX11_fall 51 = .ok (.ireturn, 1) := by decide +kernel
theorem dX11_fall_52 : decode cX11_fall 52 = .ok (.aload_n 0, 1) := by decide +kernel
theorem dX11_fall_53 : decode cX11_fall 53 = .ok (.aload_n 0, 1) := by decide +kernel
theorem dX11_fall_54 : decode cX11_fall 54 = .ok (.getfield 88, 3) := by decide +kernel
theorem dX11_fall_57 : decode cX11_fall 57 = .ok (.invokevirtual 250, 3) := by decide +kernel
theorem dX11_fall_60 : decode cX11_fall 60 = .ok (.aload_n 0, 1) := by decide +kernel
theorem dX11_fall_61 : decode cX11_fall 61 = .ok (.iload_n 1, 1) := by decide +kernel
theorem dX11_fall_62 : decode cX11_fall 62 = .ok (.bipush 100, 2) := by decide +kernel
theorem dX11_fall_64 : decode cX11_fall 64 = .ok (.irem, 1) := by decide +kernel
theorem dX11_fall_65 : decode cX11_fall 65 = .ok (.invokevirtual 254, 3) := by decide +kernel
theorem dX11_fall_68 : decode cX11_fall 68 = .ok (.aload_n 0, 1) := by decide +kernel
theorem dX11_fall_69 : decode cX11_fall 69 = .ok (.iload_n 3, 1) := by decide +kernel
theorem dX11_fall_70 : decode cX11_fall 70 = .ok (.invokevirtual 279, 3) := by decide +kernel
theorem dX11_fall_73 : decode cX11_fall 73 = .ok (.istore 4, 2) := by decide +kernel
theorem dX11_fall_75 : decode cX11_fall 75 = .ok (.aload_n 0, 1) := by decide +kernel
theorem dX11_fall_76 : decode cX11_fall 76 = .ok (.aload_n 0, 1) := by decide +kernel
theorem dX11_fall_77 : decode cX11_fall 77 = .ok (.getfield 88, 3) := by decide +kernel
theorem dX11_fall_80 : decode cX11_fall 80 = .ok (.invokevirtual 261, 3) := by decide +kernel
theorem dX11_fall_83 : decode cX11_fall 83 = .ok (.aload_n 0, 1) := by decide +kernel
theorem dX11_fall_84 : decode cX11_fall 84 = .ok (.getfield 15, 3) := by decide +kernel
theorem dX11_fall_87 : decode cX11_fall 87 = .ok (.iload_n 1, 1) := by decide +kernel
theorem dX11_fall_88 : decode cX11_fall 88 = .ok (.bipush 100, 2) := by decide +kernel
theorem dX11_fall_90 : decode cX11_fall 90 = .ok (.idiv, 1) := by decide +kernel
theorem dX11_fall_91 : decode cX11_fall 91 = .ok (.sipush 9999, 3) := by decide +kernel
theorem dX11_fall_94 : decode cX11_fall 94 = .ok (.aload_n 0, 1) := by decide +kernel
theorem dX11_fall_95 : decode cX11_fall 95 = .ok (.getfield 15, 3) := by decide +kernel
theorem dX11_fall_98 : decode cX11_fall 98 = .ok (.iload_n 1, 1) := by decide +kernel
theorem dX11_fall_99 : decode cX11_fall 99 = .ok (.bipush 100, 2) := by decide +kernel
theorem dX11_fall_101 : decode cX11_fall 101 = .ok (.idiv, 1) := by decide +kernel
theorem dX11_fall_102 : decode cX11_fall 102 = .ok (.iaload, 1) := by decide +kernel
theorem dX11_fall_103 : decode cX11_fall 103 = .ok (.iload_n 2, 1) := by decide +kernel
theorem dX11_fall_104 : decode cX11_fall 104 = .ok (.iadd, 1) := by decide +kernel
theorem dX11_fall_105 : decode cX11_fall 105 = .ok (.invokestatic 227, 3) := by decide +kernel
theorem dX11_fall_108 : decode cX11_fall 108 = .ok (.iastore, 1) := by decide +kernel
theorem dX11_fall_109 : decode cX11_fall 109 = .ok (.aload_n 0, 1) := by decide +kernel
theorem dX11_fall_110 : decode cX11_fall 110 = .ok (.iload_n 1, 1) := by decide +kernel
theorem dX11_fall_111 : decode cX11_fall 111 = .ok (.bipush 100, 2) := by decide +kernel
theorem dX11_fall_113 : decode cX11_fall 113 = .ok (.irem, 1) := by decide +kernel
theorem dX11_fall_114 : decode cX11_fall 114 = .ok (.invokevirtual 254, 3) := by decide +kernel
theorem dX11_fall_117 : decode cX11_fall 117 = .ok (.aload_n 0, 1) := by decide +kernel
theorem dX11_fall_118 : decode cX11_fall 118 = .ok (.iload_n 3, 1) := by decide +kernel
theorem dX11_fall_119 : decode cX11_fall 119 = .ok (.invokevirtual 279, 3) := by decide +kernel
theorem dX11_fall_122 : decode cX11_fall 122 = .ok (.iload 4, 2) := by decide +kernel
theorem dX11_fall_124 : decode cX11_fall 124 = .ok (.isub, 1) := by decide +kernel
theorem dX11_fall_125 : decode cX11_fall 125 = .ok (.istore 5, 2) := by decide +kernel
theorem dX11_fall_127 : decode cX11_fall 127 = .ok (.aload_n 0, 1) := by decide +kernel
theorem dX11_fall_128 : decode cX11_fall 128 = .ok (.aload_n 0, 1) := by decide +kernel
theorem dX11_fall_129 : decode cX11_fall 129 = .ok (.getfield 88, 3) := by decide +kernel
theorem dX11_fall_132 : decode cX11_fall 132 = .ok (.invokevirtual 261, 3) := by decide +kernel
theorem dX11_fall_135 : decode cX11_fall 135 = .ok (.iload 5, 2) := by decide +kernel
theorem dX11_fall_137 : decode cX11_fall 137 = .ok (.ireturn, 1) := by decide +kernel
theorem dX11_isHung_0 : decode cX11_isHung 0 = .ok (.aload_n 0, 1) := by decide +kernel
theorem dX11_isHung_1 : decode cX11_isHung 1 = .ok (.aload_n 0, 1) := by decide +kernel
theorem dX11_isHung_2 : decode cX11_isHung 2 = .ok (.getfield 88, 3) := by decide +kernel
theorem dX11_isHung_5 : decode cX11_isHung 5 = .ok (.invokevirtual 250, 3) := by decide +kernel
theorem dX11_isHung_8 : decode cX11_isHung 8 = .ok (.iload_n 3, 1) := by decide +kernel
theorem dX11_isHung_9 : decode cX11_isHung 9 = .ok (.ifCond .lt 10, 3) := by decide +kernel
theorem dX11_isHung_12 : decode cX11_isHung 12 = .ok (.aload_n 0, 1) := by decide +kernel
theorem dX11_isHung_13 : decode cX11_isHung 13 = .ok (.getfield 18, 3) := by decide +kernel
theorem dX11_isHung_16 : decode cX11_isHung 16 = .ok (.iload_n 3, 1) := by decide +kernel
theorem dX11_isHung_17 : decode cX11_isHung 17 = .ok (.iconst 1, 1) := by decide +kernel
theorem dX11_isHung_18 : decode cX11_isHung 18 = .ok (.iastore, 1) := by decide +kernel
theorem dX11_isHung_19 : decode cX11_isHung 19 = .ok (.iload 4, 2) := by decide +kernel
theorem dX11_isHung_21 : decode cX11_isHung 21 = .ok (.ifCond .lt 11, 3) := by decide +kernel
theorem dX11_isHung_24 : decode cX11_isHung 24 = .ok (.aload_n 0, 1) := by decide +kernel
theorem dX11_isHung_25 : decode cX11_isHung 25 = .ok (.getfield 18, 3) := by decide +kernel
theorem dX11_isHung_28 : decode cX11_isHung 28 = .ok (.iload 4, 2) := by decide +kernel
theorem dX11_isHung_30 : decode cX11_isHung 30 = .ok (.iconst 1, 1) := by decide +kernel
theorem dX11_isHung_31 : decode cX11_isHung 31 = .ok (.iastore, 1) := by decide +kernel
theorem dX11_isHung_32 : decode cX11_isHung 32 = .ok (.aload_n 0, 1) := by decide +kernel
theorem dX11_isHung_33 : decode cX11_isHung 33 = .ok (.iload_n 2, 1) := by decide +kernel
theorem dX11_isHung_34 : decode cX11_isHung 34 = .ok (.sipush 10000, 3) := by decide +kernel
theorem dX11_isHung_37 : decode cX11_isHung 37 = .ok (.idiv, 1) := by decide +kernel
theorem dX11_isHung_38 : decode cX11_isHung 38 = .ok (.invokevirtual 254, 3) := by decide +kernel
theorem dX11_isHung_41 : decode cX11_isHung 41 = .ok (.aload_n 0, 1) := by decide +kernel
theorem dX11_isHung_42 : decode cX11_isHung 42 = .ok (.iload_n 1, 1) := by decide +kernel
theorem dX11_isHung_43 : decode cX11_isHung 43 = .ok (.invokevirtual 258, 3) := by decide +kernel
theorem dX11_isHung_46 : decode cX11_isHung 46 = .ok (.iload_n 2, 1) := by decide +kernel
theorem dX11_isHung_47 : decode cX11_isHung 47 = .ok (.sipush 10000, 3) := by decide +kernel
theorem dX11_isHung_50 : decode cX11_isHung 50 = .ok (.irem, 1) := by decide +kernel
theorem dX11_isHung_51 : decode cX11_isHung 51 = .ok (.if_icmp .lt 7, 3) := by decide +kernel
theorem dX11_isHung_54 : decode cX11_isHung 54 = .ok (.iconst 1, 1) := by decide +kernel
theorem dX11_isHung_55 : decode cX11_isHung 55 = .ok (.goto 4, 3) := by decide +kernel
theorem dX11_isHung_58 : decode cX11_isHung 58 = .ok (.iconst 0, 1) := by decide +kernel
theorem dX11_isHung_59 : decode cX11_isHung 59 = .ok (.istore 5, 2) := by decide +kernel
theorem dX11_isHung_61 : decode cX11_isHung 61 = .ok (.aload_n 0, 1) := by decide +kernel
theorem dX11_isHung_62 : decode cX11_isHung 62 = .ok (.aload_n 0, 1) := by decide +kernel
theorem dX11_isHung_63 : decode cX11_isHung 63 = .ok (.getfield 88, 3) := by decide +kernel
theorem dX11_isHung_66 : decode cX11_isHung 66 = .ok (.invokevirtual 261, 3) := by decide +kernel
theorem dX11_isHung_69 : decode cX11_isHung 69 = .ok (.iload 5, 2) := by decide +kernel
theorem dX11_isHung_71 : decode cX11_isHung 71 = .ok (.ireturn, 1) := by decide +kernel
theorem dX11_shoesFor_0 : decode cX11_shoesFor 0 = .ok (.aload_n 0, 1) := by decide +kernel
theorem dX11_shoesFor_1 : decode cX11_shoesFor 1 = .ok (.iload_n 1, 1) := by decide +kernel
theorem dX11_shoesFor_2 : decode cX11_shoesFor 2 = .ok (.iload_n 2, 1) := by decide +kernel
theorem dX11_shoesFor_3 : decode cX11_shoesFor 3 = .ok (.iconst (-1), 1) := by decide +kernel
theorem dX11_shoesFor_4 : decode cX11_shoesFor 4 = .ok (.iconst (-1), 1) := by decide +kernel
theorem dX11_shoesFor_5 : decode cX11_shoesFor 5 = .ok (.invokevirtual 282, 3) := by decide +kernel
theorem dX11_shoesFor_8 : decode cX11_shoesFor 8 = .ok (.ifCond .eq 6, 3) := by decide +kernel
theorem dX11_shoesFor_11 : decode cX11_shoesFor 11 = .ok (.bipush (-9), 2) := by decide +kernel
theorem dX11_shoesFor_13 : decode cX11_shoesFor 13 = .ok (.ireturn, 1) := by decide +kernel
theorem dX11_shoesFor_14 : decode cX11_shoesFor 14 = .ok (.iconst 0, 1) := by decide +kernel
theorem dX11_shoesFor_15 : decode cX11_shoesFor 15 = .ok (.istore_n 3, 1) := by decide +kernel
theorem dX11_shoesFor_16 : decode cX11_shoesFor 16 = .ok (.iload_n 3, 1) := by decide +kernel
theorem dX11_shoesFor_17 : decode cX11_shoesFor 17 = .ok (.bipush 36, 2) := by decide +kernel
theorem dX11_shoesFor_19 : decode cX11_shoesFor 19 = .ok (.if_icmp .ge 32, 3) := by decide +kernel
theorem dX11_shoesFor_22 : decode cX11_shoesFor 22 = .ok (.aload_n 0, 1) := by decide +kernel
theorem dX11_shoesFor_23 : decode cX11_shoesFor 23 = .ok (.getfield 18, 3) := by decide +kernel
theorem dX11_shoesFor_26 : decode cX11_shoesFor 26 = .ok (.iload_n 3, 1) := by decide +kernel
theorem dX11_shoesFor_27 : decode cX11_shoesFor 27 = .ok (.iaload, 1) := by decide +kernel
theorem dX11_shoesFor_28 : decode cX11_shoesFor 28 = .ok (.iconst 1, 1) := by decide +kernel
theorem dX11_shoesFor_29 : decode cX11_shoesFor 29 = .ok (.if_icmp .eq 16, 3) := by decide +kernel
theorem dX11_shoesFor_32 : decode cX11_shoesFor 32 = .ok (.aload_n 0, 1) := by decide +kernel
theorem dX11_shoesFor_33 : decode cX11_shoesFor 33 = .ok (.iload_n 1, 1) := by decide +kernel
theorem dX11_shoesFor_34 : decode cX11_shoesFor 34 = .ok (.iload_n 2, 1) := by decide +kernel
theorem dX11_shoesFor_35 : decode cX11_shoesFor 35 = .ok (.iload_n 3, 1) := by decide +kernel
theorem dX11_shoesFor_36 : decode cX11_shoesFor 36 = .ok (.iconst (-1), 1) := by decide +kernel
theorem dX11_shoesFor_37 : decode cX11_shoesFor 37 = .ok (.invokevirtual 282, 3) := by decide +kernel
theorem dX11_shoesFor_40 : decode cX11_shoesFor 40 = .ok (.ifCond .eq 5, 3) := by decide +kernel
theorem dX11_shoesFor_43 : decode cX11_shoesFor 43 = .ok (.iload_n 3, 1) := by decide +kernel
theorem dX11_shoesFor_44 : decode cX11_shoesFor 44 = .ok (.ireturn, 1) := by decide +kernel
theorem dX11_shoesFor_45 : decode cX11_shoesFor 45 = .ok (.iinc 3 1, 3) := by decide +kernel
theorem dX11_shoesFor_48 : decode cX11_shoesFor 48 = .ok (.goto (-32), 3) := by decide +kernel
theorem dX11_shoesFor_51 : decode cX11_shoesFor 51 = .ok (.iconst 0, 1) := by decide +kernel
theorem dX11_shoesFor_52 : decode cX11_shoesFor 52 = .ok (.istore_n 3, 1) := by decide +kernel
theorem dX11_shoesFor_53 : decode cX11_shoesFor 53 = .ok (.iload_n 3, 1) := by decide +kernel
theorem dX11_shoesFor_54 : decode cX11_shoesFor 54 = .ok (.bipush 36, 2) := by decide +kernel
theorem dX11_shoesFor_56 : decode cX11_shoesFor 56 = .ok (.if_icmp .ge 68, 3) := by decide +kernel
theorem dX11_shoesFor_59 : decode cX11_shoesFor 59 = .ok (.iload_n 3, 1) := by decide +kernel
theorem dX11_shoesFor_60 : decode cX11_shoesFor 60 = .ok (.iconst 1, 1) := by decide +kernel
theorem dX11_shoesFor_61 : decode cX11_shoesFor 61 = .ok (.iadd, 1) := by decide +kernel
theorem dX11_shoesFor_62 : decode cX11_shoesFor 62 = .ok (.istore 4, 2) := by decide +kernel
theorem dX11_shoesFor_64 : decode cX11_shoesFor 64 = .ok (.iload 4, 2) := by decide +kernel
theorem dX11_shoesFor_66 : decode cX11_shoesFor 66 = .ok (.bipush 36, 2) := by decide +kernel
theorem dX11_shoesFor_68 : decode cX11_shoesFor 68 = .ok (.if_icmp .ge 50, 3) := by decide +kernel
theorem dX11_shoesFor_71 : decode cX11_shoesFor 71 = .ok (.aload_n 0, 1) := by decide +kernel
theorem dX11_shoesFor_72 : decode cX11_shoesFor 72 = .ok (.getfield 18, 3) := by decide +kernel
theorem dX11_shoesFor_75 : decode cX11_shoesFor 75 = .ok (.iload_n 3, 1) := by decide +kernel
theorem dX11_shoesFor_76 : decode cX11_shoesFor 76 = .ok (.iaload, 1) := by decide +kernel
theorem dX11_shoesFor_77 : decode cX11_shoesFor 77 = .ok (.iconst 1, 1) := by decide +kernel
theorem dX11_shoesFor_78 : decode cX11_shoesFor 78 = .ok (.if_icmp .eq 34, 3) := by decide +kernel
theorem dX11_shoesFor_81 : decode cX11_shoesFor 81 = .ok (.aload_n 0, 1) := by decide +kernel
theorem dX11_shoesFor_82 : decode cX11_shoesFor 82 = .ok (.getfield 18, 3) := by decide +kernel
theorem dX11_shoesFor_85 : decode cX11_shoesFor 85 = .ok (.iload 4, 2) := by decide +kernel
theorem dX11_shoesFor_87 : decode cX11_shoesFor 87 = .ok (.iaload, 1) := by decide +kernel
theorem dX11_shoesFor_88 : decode cX11_shoesFor 88 = .ok (.iconst 1, 1) := by decide +kernel
theorem dX11_shoesFor_89 : decode cX11_shoesFor 89 = .ok (.if_icmp .eq 23, 3) := by decide +kernel
theorem dX11_shoesFor_92 : decode cX11_shoesFor 92 = .ok (.aload_n 0, 1) := by decide +kernel
theorem dX11_shoesFor_93 : decode cX11_shoesFor 93 = .ok (.iload_n 1, 1) := by decide +kernel
theorem dX11_shoesFor_94 : decode cX11_shoesFor 94 = .ok (.iload_n 2, 1) := by decide +kernel
theorem dX11_shoesFor_95 : decode cX11_shoesFor 95 = .ok (.iload_n 3, 1) := by decide +kernel
theorem dX11_shoesFor_96 : decode cX11_shoesFor 96 = .ok (.iload 4, 2) := by decide +kernel
theorem dX11_shoesFor_98 : decode cX11_shoesFor 98 = .ok (.invokevirtual 282, 3) := by decide +kernel
theorem dX11_shoesFor_101 : decode cX11_shoesFor 101 = .ok (.ifCond .eq 11, 3) := by decide +kernel
theorem dX11_shoesFor_104 : decode cX11_shoesFor 104 = .ok (.bipush 36, 2) := by decide +kernel
theorem dX11_shoesFor_106 : decode cX11_shoesFor 106 = .ok (.iload_n 3, 1) := by decide +kernel
theorem dX11_shoesFor_107 : decode cX11_shoesFor 107 = .ok (.imul, 1) := by decide +kernel
theorem dX11_shoesFor_108 : decode cX11_shoesFor 108 = .ok (.iload 4, 2) := by decide +kernel
theorem dX11_shoesFor_110 : decode cX11_shoesFor 110 = .ok (.iadd, 1) := by decide +kernel
theorem dX11_shoesFor_111 : decode cX11_shoesFor 111 = .ok (.ireturn, 1) := by decide +kernel
theorem dX11_shoesFor_112 : decode cX11_shoesFor 112 = .ok (.iinc 4 1, 3) := by decide +kernel
theorem dX11_shoesFor_115 : decode cX11_shoesFor 115 = .ok (.goto (-51), 3) := by decide +kernel
theorem dX11_shoesFor_118 : decode cX11_shoesFor 118 = .ok (.iinc 3 1, 3) := by decide +kernel
theorem dX11_shoesFor_121 : decode cX11_shoesFor 121 = .ok (.goto (-68), 3) := by decide +kernel
theorem dX11_shoesFor_124 : decode cX11_shoesFor 124 = .ok (.bipush (-2), 2) := by decide +kernel
theorem dX11_shoesFor_126 : decode cX11_shoesFor 126 = .ok (.ireturn, 1) := by decide +kernel
theorem dX11_howMany_0 : decode cX11_howMany 0 = .ok (.aload_n 0, 1) := by decide +kernel
theorem dX11_howMany_1 : decode cX11_howMany 1 = .ok (.iload_n 1, 1) := by decide +kernel
theorem dX11_howMany_2 : decode cX11_howMany 2 = .ok (.iload_n 2, 1) := by decide +kernel
theorem dX11_howMany_3 : decode cX11_howMany 3 = .ok (.iconst (-1), 1) := by decide +kernel
theorem dX11_howMany_4 : decode cX11_howMany 4 = .ok (.iconst (-1), 1) := by decide +kernel
theorem dX11_howMany_5 : decode cX11_howMany 5 = .ok (.invokevirtual 282, 3) := by decide +kernel
theorem dX11_howMany_8 : decode cX11_howMany 8 = .ok (.ifCond .eq 5, 3) := by decide +kernel
theorem dX11_howMany_11 : decode cX11_howMany 11 = .ok (.iconst 0, 1) := by decide +kernel
theorem dX11_howMany_12 : decode cX11_howMany 12 = .ok (.ireturn, 1) := by decide +kernel
theorem dX11_howMany_13 : decode cX11_howMany 13 = .ok (.iconst 0, 1) := by decide +kernel
theorem dX11_howMany_14 : decode cX11_howMany 14 = .ok (.istore_n 3, 1) := by decide +kernel
theorem dX11_howMany_15 : decode cX11_howMany 15 = .ok (.iload_n 3, 1) := by decide +kernel
theorem dX11_howMany_16 : decode cX11_howMany 16 = .ok (.bipush 36, 2) := by decide +kernel
theorem dX11_howMany_18 : decode cX11_howMany 18 = .ok (.if_icmp .ge 32, 3) := by decide +kernel
theorem dX11_howMany_21 : decode cX11_howMany 21 = .ok (.aload_n 0, 1) := by decide +kernel
theorem dX11_howMany_22 : decode cX11_howMany 22 = .ok (.getfield 18, 3) := by decide +kernel
theorem dX11_howMany_25 : decode cX11_howMany 25 = .ok (.iload_n 3, 1) := by decide +kernel
theorem dX11_howMany_26 : decode cX11_howMany 26 = .ok (.iaload, 1) := by decide +kernel
theorem dX11_howMany_27 : decode cX11_howMany 27 = .ok (.iconst 1, 1) := by decide +kernel
theorem dX11_howMany_28 : decode cX11_howMany 28 = .ok (.if_icmp .eq 16, 3) := by decide +kernel
theorem dX11_howMany_31 : decode cX11_howMany 31 = .ok (.aload_n 0, 1) := by decide +kernel
theorem dX11_howMany_32 : decode cX11_howMany 32 = .ok (.iload_n 1, 1) := by decide +kernel
theorem dX11_howMany_33 : decode cX11_howMany 33 = .ok (.iload_n 2, 1) := by decide +kernel
theorem dX11_howMany_34 : decode cX11_howMany 34 = .ok (.iload_n 3, 1) := by decide +kernel
theorem dX11_howMany_35 : decode cX11_howMany 35 = .ok (.iconst (-1), 1) := by decide +kernel
theorem dX11_howMany_36 : decode cX11_howMany 36 = .ok (.invokevirtual 282, 3) := by decide +kernel
theorem dX11_howMany_39 : decode cX11_howMany 39 = .ok (.ifCond .eq 5, 3) := by decide +kernel
theorem dX11_howMany_42 : decode cX11_howMany 42 = .ok (.iconst 1, 1) := by decide +kernel
theorem dX11_howMany_43 : decode cX11_howMany 43 = .ok (.ireturn, 1) := by decide +kernel
theorem dX11_howMany_44 : decode cX11_howMany 44 = .ok (.iinc 3 1, 3) := by decide +kernel
theorem dX11_howMany_47 : decode cX11_howMany 47 = .ok (.goto (-32), 3) := by decide +kernel
theorem dX11_howMany_50 : decode cX11_howMany 50 = .ok (.aload_n 0, 1) := by decide +kernel
theorem dX11_howMany_51 : decode cX11_howMany 51 = .ok (.iload_n 1, 1) := by decide +kernel
theorem dX11_howMany_52 : decode cX11_howMany 52 = .ok (.iload_n 2, 1) := by decide +kernel
theorem dX11_howMany_53 : decode cX11_howMany 53 = .ok (.invokevirtual 286, 3) := by decide +kernel
theorem dX11_howMany_56 : decode cX11_howMany 56 = .ok (.bipush (-2), 2) := by decide +kernel
theorem dX11_howMany_58 : decode cX11_howMany 58 = .ok (.if_icmp .ne 8, 3) := by decide +kernel
theorem dX11_howMany_61 : decode cX11_howMany 61 = .ok (.bipush (-2), 2) := by decide +kernel
theorem dX11_howMany_63 : decode cX11_howMany 63 = .ok (.goto 4, 3) := by decide +kernel
theorem dX11_howMany_66 : decode cX11_howMany 66 = .ok (.iconst 2, 1) := by decide +kernel
theorem dX11_howMany_67 : decode cX11_howMany 67 = .ok (.ireturn, 1) := by decide +kernel
theorem dX11_shoes_0 : decode cX11_shoes 0 = .ok (.aload_n 0, 1) := by decide +kernel
theorem dX11_shoes_1 : decode cX11_shoes 1 = .ok (.iload_n 1, 1) := by decide +kernel
theorem dX11_shoes_2 : decode cX11_shoes 2 = .ok (.invokevirtual 122, 3) := by decide +kernel
theorem dX11_shoes_5 : decode cX11_shoes 5 = .ok (.ifCond .eq 26, 3) := by decide +kernel
theorem dX11_shoes_8 : decode cX11_shoes 8 = .ok (.iload_n 2, 1) := by decide +kernel
theorem dX11_shoes_9 : decode cX11_shoes 9 = .ok (.ifCond .lt 22, 3) := by decide +kernel
theorem dX11_shoes_12 : decode cX11_shoes 12 = .ok (.iload_n 2, 1) := by decide +kernel
theorem dX11_shoes_13 : decode cX11_shoes 13 = .ok (.sipush 10000, 3) := by decide +kernel
theorem dX11_shoes_16 : decode cX11_shoes 16 = .ok (.idiv, 1) := by decide +kernel
theorem dX11_shoes_17 : decode cX11_shoes 17 = .ok (.bipush 12, 2) := by decide +kernel
theorem dX11_shoes_19 : decode cX11_shoes 19 = .ok (.if_icmp .gt 12, 3) := by decide +kernel
theorem dX11_shoes_22 : decode cX11_shoes 22 = .ok (.iload_n 3, 1) := by decide +kernel
theorem dX11_shoes_23 : decode cX11_shoes 23 = .ok (.iconst 0, 1) := by decide +kernel
theorem dX11_shoes_24 : decode cX11_shoes 24 = .ok (.iconst 1, 1) := by decide +kernel
theorem dX11_shoes_25 : decode cX11_shoes 25 = .ok (.invokestatic 97, 3) := by decide +kernel
theorem dX11_shoes_28 : decode cX11_shoes 28 = .ok (.ifCond .ne 5, 3) := by decide +kernel
theorem dX11_shoes_31 : decode cX11_shoes 31 = .ok (.iconst (-1), 1) := by decide +kernel
theorem dX11_shoes_32 : decode cX11_shoes 32 = .ok (.ireturn, 1) := by decide +kernel
theorem dX11_shoes_33 : decode cX11_shoes 33 = .ok (.iload_n 3, 1) := by decide +kernel
theorem dX11_shoes_34 : decode cX11_shoes 34 = .ok (.ifCond .ne 12, 3) := by decide +kernel
theorem dX11_shoes_37 : decode cX11_shoes 37 = .ok (.aload_n 0, 1) := by decide +kernel
theorem dX11_shoes_38 : decode cX11_shoes 38 = .ok (.iload_n 1, 1) := by decide +kernel
theorem dX11_shoes_39 : decode cX11_shoes 39 = .ok (.iload_n 2, 1) := by decide +kernel
theorem dX11_shoes_40 : decode cX11_shoes 40 = .ok (.invokevirtual 289, 3) := by decide +kernel
theorem dX11_shoes_43 : decode cX11_shoes 43 = .ok (.goto 9, 3) := by decide +kernel
theorem dX11_shoes_46 : decode cX11_shoes 46 = .ok (.aload_n 0, 1) := by decide +kernel
theorem dX11_shoes_47 : decode cX11_shoes 47 = .ok (.iload_n 1, 1) := by decide +kernel
theorem dX11_shoes_48 : decode cX11_shoes 48 = .ok (.iload_n 2, 1) := by decide +kernel
theorem dX11_shoes_49 : decode cX11_shoes 49 = .ok (.invokevirtual 286, 3) := by decide +kernel
theorem dX11_shoes_52 : decode cX11_shoes 52 = .ok (.ireturn, 1) := by decide +kernel
theorem dX11_seat_0 : decode cX11_seat 0 = .ok (.aload_n 0, 1) := by decide +kernel
theorem dX11_seat_1 : decode cX11_seat 1 = .ok (.iload_n 1, 1) := by decide +kernel
theorem dX11_seat_2 : decode cX11_seat 2 = .ok (.invokevirtual 122, 3) := by decide +kernel
theorem dX11_seat_5 : decode cX11_seat 5 = .ok (.ifCond .eq 22, 3) := by decide +kernel
theorem dX11_seat_8 : decode cX11_seat 8 = .ok (.iload_n 2, 1) := by decide +kernel
theorem dX11_seat_9 : decode cX11_seat 9 = .ok (.iconst 0, 1) := by decide +kernel
theorem dX11_seat_10 : decode cX11_seat 10 = .ok (.bipush 24, 2) := by decide +kernel
theorem dX11_seat_12 : decode cX11_seat 12 = .ok (.invokestatic 97, 3) := by decide +kernel
theorem dX11_seat_15 : decode cX11_seat 15 = .ok (.ifCond .eq 12, 3) := by decide +kernel
theorem dX11_seat_18 : decode cX11_seat 18 = .ok (.iload_n 3, 1) := by decide +kernel
theorem dX11_seat_19 : decode cX11_seat 19 = .ok (.iconst 0, 1) := by decide +kernel
theorem dX11_seat_20 : decode cX11_seat 20 = .ok (.iconst 1, 1) := by decide +kernel
theorem dX11_seat_21 : decode cX11_seat 21 = .ok (.invokestatic 97, 3) := by decide +kernel
theorem dX11_seat_24 : decode cX11_seat 24 = .ok (.ifCond .ne 5, 3) := by decide +kernel
theorem dX11_seat_27 : decode cX11_seat 27 = .ok (.iconst (-1), 1) := by decide +kernel
theorem dX11_seat_28 : decode cX11_seat 28 = .ok (.ireturn, 1) := by decide +kernel
theorem dX11_seat_29 : decode cX11_seat 29 = .ok (.aload_n 0, 1) := by decide +kernel
theorem dX11_seat_30 : decode cX11_seat 30 = .ok (.aload_n 0, 1) := by decide +kernel
theorem dX11_seat_31 : decode cX11_seat 31 = .ok (.getfield 88, 3) := by decide +kernel
theorem dX11_seat_34 : decode cX11_seat 34 = .ok (.invokevirtual 250, 3) := by decide +kernel
theorem dX11_seat_37 : decode cX11_seat 37 = .ok (.iconst 0, 1) := by decide +kernel
theorem dX11_seat_38 : decode cX11_seat 38 = .ok (.istore 4, 2) := by decide +kernel
theorem dX11_seat_40 : decode cX11_seat 40 = .ok (.iconst (-1), 1) := by decide +kernel
theorem dX11_seat_41 : decode cX11_seat 41 = .ok (.istore 5, 2) := by decide +kernel
theorem dX11_seat_43 : decode cX11_seat 43 = .ok (.iconst 0, 1) := by decide +kernel
theorem dX11_seat_44 : decode cX11_seat 44 = .ok (.istore 6, 2) := by decide +kernel
theorem dX11_seat_46 : decode cX11_seat 46 = .ok (.iload 6, 2) := by decide +kernel
theorem dX11_seat_48 : decode cX11_seat 48 = .ok (.bipush 36, 2) := by decide +kernel
theorem dX11_seat_50 : decode cX11_seat 50 = .ok (.if_icmp .ge 55, 3) := by decide +kernel
theorem dX11_seat_53 : decode cX11_seat 53 = .ok (.aload_n 0, 1) := by decide +kernel
theorem dX11_seat_54 : decode cX11_seat 54 = .ok (.getfield 21, 3) := by decide +kernel
theorem dX11_seat_57 : decode cX11_seat 57 = .ok (.iload_n 1, 1) := by decide +kernel
theorem dX11_seat_58 : decode cX11_seat 58 = .ok (.iload 6, 2) := by decide +kernel
theorem dX11_seat_60 : decode cX11_seat 60 = .ok (.iastore, 1) := by decide +kernel
theorem dX11_seat_61 : decode cX11_seat 61 = .ok (.aload_n 0, 1) := by decide +kernel
theorem dX11_seat_62 : decode cX11_seat 62 = .ok (.iload_n 2, 1) := by decide +kernel
theorem dX11_seat_63 : decode cX11_seat 63 = .ok (.invokevirtual 254, 3) := by decide +kernel
theorem dX11_seat_66 : decode cX11_seat 66 = .ok (.aload_n 0, 1) := by decide +kernel
theorem dX11_seat_67 : decode cX11_seat 67 = .ok (.iload_n 1, 1) := by decide +kernel
theorem dX11_seat_68 : decode cX11_seat 68 = .ok (.invokevirtual 258, 3) := by decide +kernel
theorem dX11_seat_71 : decode cX11_seat 71 = .ok (.istore 7, 2) := by decide +kernel
theorem dX11_seat_73 : decode cX11_seat 73 = .ok (.aload_n 0, 1) := by decide +kernel
theorem dX11_seat_74 : decode cX11_seat 74 = .ok (.aload_n 0, 1) := by decide +kernel
theorem dX11_seat_75 : decode cX11_seat 75 = .ok (.getfield 88, 3) := by decide +kernel
theorem dX11_seat_78 : decode cX11_seat 78 = .ok (.invokevirtual 261, 3) := by decide +kernel
theorem dX11_seat_81 : decode cX11_seat 81 = .ok (.iload 7, 2) := by decide +kernel
theorem dX11_seat_83 : decode cX11_seat 83 = .ok (.iload 5, 2) := by decide +kernel
theorem dX11_seat_85 : decode cX11_seat 85 = .ok (.if_icmp .gt 6, 3) := by decide +kernel
theorem dX11_seat_88 : decode cX11_seat 88 = .ok (.goto 11, 3) := by decide +kernel
theorem dX11_seat_91 : decode cX11_seat 91 = .ok (.iload 7, 2) := by decide +kernel
theorem dX11_seat_93 : decode cX11_seat 93 = .ok (.istore 5, 2) := by decide +kernel
theorem dX11_seat_95 : decode cX11_seat 95 = .ok (.iload 6, 2) := by decide +kernel
theorem dX11_seat_97 : decode cX11_seat 97 = .ok (.istore 4, 2) := by decide +kernel
theorem dX11_seat_99 : decode cX11_seat 99 = .ok (.iinc 6 1, 3) := by decide +kernel
theorem dX11_seat_102 : decode cX11_seat 102 = .ok (.goto (-56), 3) := by decide +kernel
theorem dX11_seat_105 : decode cX11_seat 105 = .ok (.iload_n 3, 1) := by decide +kernel
theorem dX11_seat_106 : decode cX11_seat 106 = .ok (.ifCond .ne 8, 3) := by decide +kernel
theorem dX11_seat_109 : decode cX11_seat 109 = .ok (.iload 4, 2) := by decide +kernel
theorem dX11_seat_111 : decode cX11_seat 111 = .ok (.goto 5, 3) := by decide +kernel
theorem dX11_seat_114 : decode cX11_seat 114 = .ok (.iload 5, 2) := by decide +kernel
theorem dX11_seat_116 : decode cX11_seat 116 = .ok (.ireturn, 1) := by decide +kernel
theorem dX11_noShorts_0 : decode cX11_noShorts 0 = .ok (.aload_n 0, 1) := by decide +kernel
theorem dX11_noShorts_1 : decode cX11_noShorts 1 = .ok (.getfield 75, 3) := by decide +kernel
theorem dX11_noShorts_4 : decode cX11_noShorts 4 = .ok (.iload_n 1, 1) := by decide +kernel
theorem dX11_noShorts_5 : decode cX11_noShorts 5 = .ok (.iaload, 1) := by decide +kernel
theorem dX11_noShorts_6 : decode cX11_noShorts 6 = .ok (.iconst (-1), 1) := by decide +kernel
theorem dX11_noShorts_7 : decode cX11_noShorts 7 = .ok (.if_icmp .ne 8, 3) := by decide +kernel
theorem dX11_noShorts_10 : decode cX11_noShorts 10 = .ok (.bipush (-11), 2) := by decide +kernel
theorem dX11_noShorts_12 : decode cX11_noShorts 12 = .ok (.goto 19, 3) := by decide +kernel
theorem dX11_noShorts_15 : decode cX11_noShorts 15 = .ok (.aload_n 0, 1) := by decide +kernel
theorem dX11_noShorts_16 : decode cX11_noShorts 16 = .ok (.getfield 75, 3) := by decide +kernel
theorem dX11_noShorts_19 : decode cX11_noShorts 19 = .ok (.iload_n 1, 1) := by decide +kernel
theorem dX11_noShorts_20 : decode cX11_noShorts 20 = .ok (.iaload, 1) := by decide +kernel
theorem dX11_noShorts_21 : decode cX11_noShorts 21 = .ok (.iconst 1, 1) := by decide +kernel
theorem dX11_noShorts_22 : decode cX11_noShorts 22 = .ok (.if_icmp .eq 8, 3) := by decide +kernel
theorem dX11_noShorts_25 : decode cX11_noShorts 25 = .ok (.bipush (-12), 2) := by decide +kernel
theorem dX11_noShorts_27 : decode cX11_noShorts 27 = .ok (.goto 4, 3) := by decide +kernel
theorem dX11_noShorts_30 : decode cX11_noShorts 30 = .ok (.iconst 0, 1) := by decide +kernel
theorem dX11_noShorts_31 : decode cX11_noShorts 31 = .ok (.ireturn, 1) := by decide +kernel
theorem dX11_unlike_0 : decode cX11_unlike 0 = .ok (.aload_n 0, 1) := by decide +kernel
theorem dX11_unlike_1 : decode cX11_unlike 1 = .ok (.aload_n 0, 1) := by decide +kernel
theorem dX11_unlike_2 : decode cX11_unlike 2 = .ok (.getfield 88, 3) := by decide +kernel
theorem dX11_unlike_5 : decode cX11_unlike 5 = .ok (.invokevirtual 250, 3) := by decide +kernel
theorem dX11_unlike_8 : decode cX11_unlike 8 = .ok (.bipush (-2), 2) := by decide +kernel
theorem dX11_unlike_10 : decode cX11_unlike 10 = .ok (.istore_n 3, 1) := by decide +kernel
theorem dX11_unlike_11 : decode cX11_unlike 11 = .ok (.iconst 0, 1) := by decide +kernel
theorem dX11_unlike_12 : decode cX11_unlike 12 = .ok (.istore 4, 2) := by decide +kernel
theorem dX11_unlike_14 : decode cX11_unlike 14 = .ok (.iload 4, 2) := by decide +kernel
theorem dX11_unlike_16 : decode cX11_unlike 16 = .ok (.aload_n 0, 1) := by decide +kernel
theorem dX11_unlike_17 : decode cX11_unlike 17 = .ok (.getfield 78, 3) := by decide +kernel
theorem dX11_unlike_20 : decode cX11_unlike 20 = .ok (.iload_n 1, 1) := by decide +kernel
theorem dX11_unlike_21 : decode cX11_unlike 21 = .ok (.iaload, 1) := by decide +kernel
theorem dX11_unlike_22 : decode cX11_unlike 22 = .ok (.if_icmp .ge 50, 3) := by decide +kernel
theorem dX11_unlike_25 : decode cX11_unlike 25 = .ok (.iload 4, 2) := by decide +kernel
theorem dX11_unlike_27 : decode cX11_unlike 27 = .ok (.bipush 49, 2) := by decide +kernel
theorem dX11_unlike_29 : decode cX11_unlike 29 = .ok (.if_icmp .ge 43, 3) := by decide +kernel
theorem dX11_unlike_32 : decode cX11_unlike 32 = .ok (.iload_n 3, 1) := by decide +kernel
theorem dX11_unlike_33 : decode cX11_unlike 33 = .ok (.bipush (-2), 2) := by decide +kernel
theorem dX11_unlike_35 : decode cX11_unlike 35 = .ok (.if_icmp .ne 37, 3) := by decide +kernel
theorem dX11_unlike_38 : decode cX11_unlike 38 = .ok (.iload 4, 2) := by decide +kernel
theorem dX11_unlike_40 : decode cX11_unlike 40 = .ok (.ifCond .le 7, 3) := by decide +kernel
theorem dX11_unlike_43 : decode cX11_unlike 43 = .ok (.aload_n 0, 1) := by decide +kernel
theorem dX11_unlike_44 : decode cX11_unlike 44 = .ok (.invokevirtual 244, 3) := by decide +kernel
theorem dX11_unlike_47 : decode cX11_unlike 47 = .ok (.aload_n 0, 1) := by decide +kernel
theorem dX11_unlike_48 : decode cX11_unlike 48 = .ok (.getfield 15, 3) := by decide +kernel
theorem dX11_unlike_51 : decode cX11_unlike 51 = .ok (.iload_n 2, 1) := by decide +kernel
theorem dX11_unlike_52 : decode cX11_unlike 52 = .ok (.iaload, 1) := by decide +kernel
theorem dX11_unlike_53 : decode cX11_unlike 53 = .ok (.aload_n 0, 1) := by decide +kernel
theorem dX11_unlike_54 : decode cX11_unlike 54 = .ok (.iload_n 1, 1) := by decide +kernel
theorem dX11_unlike_55 : decode cX11_unlike 55 = .ok (.iload 4, 2) := by decide +kernel
theorem dX11_unlike_57 : decode cX11_unlike 57 = .ok (.invokevirtual 118, 3) := by decide +kernel
theorem dX11_unlike_60 : decode cX11_unlike 60 = .ok (.if_icmp .eq 6, 3) := by decide +kernel
theorem dX11_unlike_63 : decode cX11_unlike 63 = .ok (.iload 4, 2) := by decide +kernel
theorem dX11_unlike_65 : decode cX11_unlike 65 = .ok (.istore_n 3, 1) := by decide +kernel
theorem dX11_unlike_66 : decode cX11_unlike 66 = .ok (.iinc 4 1, 3) := by decide +kernel
theorem dX11_unlike_69 : decode cX11_unlike 69 = .ok (.goto (-55), 3) := by decide +kernel
theorem dX11_unlike_72 : decode cX11_unlike 72 = .ok (.aload_n 0, 1) := by decide +kernel
theorem dX11_unlike_73 : decode cX11_unlike 73 = .ok (.aload_n 0, 1) := by decide +kernel
theorem dX11_unlike_74 : decode cX11_unlike 74 = .ok (.getfield 88, 3) := by decide +kernel
theorem dX11_unlike_77 : decode cX11_unlike 77 = .ok (.invokevirtual 261, 3) := by decide +kernel
theorem dX11_unlike_80 : decode cX11_unlike 80 = .ok (.iload_n 3, 1) := by decide +kernel
theorem dX11_unlike_81 : decode cX11_unlike 81 = .ok (.ireturn, 1) := by decide +kernel
theorem dX11_judge_0 : decode cX11_judge 0 = .ok (.iload_n 1, 1) := by decide +kernel
theorem dX11_judge_1 : decode cX11_judge 1 = .ok (.invokestatic 113, 3) := by decide +kernel
theorem dX11_judge_4 : decode cX11_judge 4 = .ok (.ifCond .eq 10, 3) := by decide +kernel
theorem dX11_judge_7 : decode cX11_judge 7 = .ok (.iload_n 2, 1) := by decide +kernel
theorem dX11_judge_8 : decode cX11_judge 8 = .ok (.invokestatic 105, 3) := by decide +kernel
theorem dX11_judge_11 : decode cX11_judge 11 = .ok (.ifCond .ne 5, 3) := by decide +kernel
theorem dX11_judge_14 : decode cX11_judge 14 = .ok (.iconst (-1), 1) := by decide +kernel
theorem dX11_judge_15 : decode cX11_judge 15 = .ok (.ireturn, 1) := by decide +kernel
theorem dX11_judge_16 : decode cX11_judge 16 = .ok (.aload_n 0, 1) := by decide +kernel
theorem dX11_judge_17 : decode cX11_judge 17 = .ok (.iload_n 1, 1) := by decide +kernel
theorem dX11_judge_18 : decode cX11_judge 18 = .ok (.invokevirtual 292, 3) := by decide +kernel
theorem dX11_judge_21 : decode cX11_judge 21 = .ok (.istore_n 3, 1) := by decide +kernel
theorem dX11_judge_22 : decode cX11_judge 22 = .ok (.iload_n 3, 1) := by decide +kernel
theorem dX11_judge_23 : decode cX11_judge 23 = .ok (.ifCond .ge 7, 3) := by decide +kernel
theorem dX11_judge_26 : decode cX11_judge 26 = .ok (.iload_n 3, 1) := by decide +kernel
theorem dX11_judge_27 : decode cX11_judge 27 = .ok (.goto 9, 3) := by decide +kernel
theorem dX11_judge_30 : decode cX11_judge 30 = .ok (.aload_n 0, 1) := by decide +kernel
theorem dX11_judge_31 : decode cX11_judge 31 = .ok (.iload_n 1, 1) := by decide +kernel
theorem dX11_judge_32 : decode cX11_judge 32 = .ok (.iload_n 2, 1) := by decide +kernel
theorem dX11_judge_33 : decode cX11_judge 33 = .ok (.invokevirtual 295, 3) := by decide +kernel
theorem dX11_judge_36 : decode cX11_judge 36 = .ok (.ireturn, 1) := by decide +kernel
theorem dX11_under_0 : decode cX11_under 0 = .ok (.aload_n 0, 1) := by decide +kernel
theorem dX11_under_1 : decode cX11_under 1 = .ok (.getfield 18, 3) := by decide +kernel
theorem dX11_under_4 : decode cX11_under 4 = .ok (.iload_n 3, 1) := by decide +kernel
theorem dX11_under_5 : decode cX11_under 5 = .ok (.iaload, 1) := by decide +kernel
theorem dX11_under_6 : decode cX11_under 6 = .ok (.istore 4, 2) := by decide +kernel
theorem dX11_under_8 : decode cX11_under 8 = .ok (.iconst 0, 1) := by decide +kernel
theorem dX11_under_9 : decode cX11_under 9 = .ok (.istore 5, 2) := by decide +kernel
theorem dX11_under_11 : decode cX11_under 11 = .ok (.iconst 0, 1) := by decide +kernel
theorem dX11_under_12 : decode cX11_under 12 = .ok (.istore 6, 2) := by decide +kernel
theorem dX11_under_14 : decode cX11_under 14 = .ok (.iload 6, 2) := by decide +kernel
theorem dX11_under_16 : decode cX11_under 16 = .ok (.iconst 3, 1) := by decide +kernel
theorem dX11_under_17 : decode cX11_under 17 = .ok (.if_icmp .ge 37, 3) := by decide +kernel
theorem dX11_under_20 : decode cX11_under 20 = .ok (.aload_n 0, 1) := by decide +kernel
theorem dX11_under_21 : decode cX11_under 21 = .ok (.getfield 18, 3) := by decide +kernel
theorem dX11_under_24 : decode cX11_under 24 = .ok (.iload_n 3, 1) := by decide +kernel
theorem dX11_under_25 : decode cX11_under 25 = .ok (.iload 6, 2) := by decide +kernel
theorem dX11_under_27 : decode cX11_under 27 = .ok (.iastore, 1) := by decide +kernel
theorem dX11_under_28 : decode cX11_under 28 = .ok (.aload_n 0, 1) := by decide +kernel
theorem dX11_under_29 : decode cX11_under 29 = .ok (.iload_n 1, 1) := by decide +kernel
theorem dX11_under_30 : decode cX11_under 30 = .ok (.iload_n 2, 1) := by decide +kernel
theorem dX11_under_31 : decode cX11_under 31 = .ok (.invokevirtual 295, 3) := by decide +kernel
theorem dX11_under_34 : decode cX11_under 34 = .ok (.bipush (-2), 2) := by decide +kernel
theorem dX11_under_36 : decode cX11_under 36 = .ok (.if_icmp .ne 12, 3) := by decide +kernel
theorem dX11_under_39 : decode cX11_under 39 = .ok (.iload 5, 2) := by decide +kernel
theorem dX11_under_41 : decode cX11_under 41 = .ok (.iconst 1, 1) := by decide +kernel
theorem dX11_under_42 : decode cX11_under 42 = .ok (.iload 6, 2) := by decide +kernel
theorem dX11_under_44 : decode cX11_under 44 = .ok (.ishl, 1) := by decide +kernel
theorem dX11_under_45 : decode cX11_under 45 = .ok (.ior, 1) := by decide +kernel
theorem dX11_under_46 : decode cX11_under 46 = .ok (.istore 5, 2) := by decide +kernel
theorem dX11_under_48 : decode cX11_under 48 = .ok (.iinc 6 1, 3) := by decide +kernel
theorem dX11_under_51 : decode cX11_under 51 = .ok (.goto (-37), 3) := by decide +kernel
theorem dX11_under_54 : decode cX11_under 54 = .ok (.aload_n 0, 1) := by decide +kernel
theorem dX11_under_55 : decode cX11_under 55 = .ok (.getfield 18, 3) := by decide +kernel
theorem dX11_under_58 : decode cX11_under 58 = .ok (.iload_n 3, 1) := by decide +kernel
theorem dX11_under_59 : decode cX11_under 59 = .ok (.iload 4, 2) := by decide +kernel
theorem dX11_under_61 : decode cX11_under 61 = .ok (.iastore, 1) := by decide +kernel
theorem dX11_under_62 : decode cX11_under 62 = .ok (.iload 5, 2) := by decide +kernel
theorem dX11_under_64 : decode cX11_under 64 = .ok (.ireturn, 1) := by decide +kernel
theorem dX11_atFirst_0 : decode cX11_atFirst 0 = .ok (.aload_n 0, 1) := by decide +kernel
theorem dX11_atFirst_1 : decode cX11_atFirst 1 = .ok (.getfield 15, 3) := by decide +kernel
theorem dX11_atFirst_4 : decode cX11_atFirst 4 = .ok (.iload_n 3, 1) := by decide +kernel
theorem dX11_atFirst_5 : decode cX11_atFirst 5 = .ok (.iaload, 1) := by decide +kernel
theorem dX11_atFirst_6 : decode cX11_atFirst 6 = .ok (.istore 5, 2) := by decide +kernel
theorem dX11_atFirst_8 : decode cX11_atFirst 8 = .ok (.iconst 0, 1) := by decide +kernel
theorem dX11_atFirst_9 : decode cX11_atFirst 9 = .ok (.istore 6, 2) := by decide +kernel
theorem dX11_atFirst_11 : decode cX11_atFirst 11 = .ok (.bipush (-2), 2) := by decide +kernel
theorem dX11_atFirst_13 : decode cX11_atFirst 13 = .ok (.istore 7, 2) := by decide +kernel
theorem dX11_atFirst_15 : decode cX11_atFirst 15 = .ok (.bipush 99, 2) := by decide +kernel
theorem dX11_atFirst_17 : decode cX11_atFirst 17 = .ok (.istore 8, 2) := by decide +kernel
theorem dX11_atFirst_19 : decode cX11_atFirst 19 = .ok (.iload 8, 2) := by decide +kernel
theorem dX11_atFirst_21 : decode cX11_atFirst 21 = .ok (.ifCond .lt 38, 3) := by decide +kernel
theorem dX11_atFirst_24 : decode cX11_atFirst 24 = .ok (.aload_n 0, 1) := by decide +kernel
theorem dX11_atFirst_25 : decode cX11_atFirst 25 = .ok (.getfield 15, 3) := by decide +kernel
theorem dX11_atFirst_28 : decode cX11_atFirst 28 = .ok (.iload_n 3, 1) := by decide +kernel
theorem dX11_atFirst_29 : decode cX11_atFirst 29 = .ok (.iload 8, 2) := by decide +kernel
theorem dX11_atFirst_31 : decode cX11_atFirst 31 = .ok (.iastore, 1) := by decide +kernel
theorem dX11_atFirst_32 : decode cX11_atFirst 32 = .ok (.aload_n 0, 1) := by decide +kernel
theorem dX11_atFirst_33 : decode cX11_atFirst 33 = .ok (.iload_n 1, 1) := by decide +kernel
theorem dX11_atFirst_34 : decode cX11_atFirst 34 = .ok (.iload_n 2, 1) := by decide +kernel
theorem dX11_atFirst_35 : decode cX11_atFirst 35 = .ok (.invokevirtual 295, 3) := by decide +kernel
theorem dX11_atFirst_38 : decode cX11_atFirst 38 = .ok (.bipush (-2), 2) := by decide +kernel
theorem dX11_atFirst_40 : decode cX11_atFirst 40 = .ok (.if_icmp .eq 6, 3) := by decide +kernel
theorem dX11_atFirst_43 : decode cX11_atFirst 43 = .ok (.goto 10, 3) := by decide +kernel
theorem dX11_atFirst_46 : decode cX11_atFirst 46 = .ok (.iinc 6 1, 3) := by decide +kernel
theorem dX11_atFirst_49 : decode cX11_atFirst 49 = .ok (.iload 8, 2) := by decide +kernel
theorem dX11_atFirst_51 : decode cX11_atFirst 51 = .ok (.istore 7, 2) := by decide +kernel
theorem dX11_atFirst_53 : decode cX11_atFirst 53 = .ok (.iinc 8 (-1), 3) := by decide +kernel
theorem dX11_atFirst_56 : decode cX11_atFirst 56 = .ok (.goto (-37), 3) := by decide +kernel
theorem dX11_atFirst_59 : decode cX11_atFirst 59 = .ok (.aload_n 0, 1) := by decide +kernel
theorem dX11_atFirst_60 : decode cX11_atFirst 60 = .ok (.getfield 15, 3) := by decide +kernel
theorem dX11_atFirst_63 : decode cX11_atFirst 63 = .ok (.iload_n 3, 1) := by decide +kernel
theorem dX11_atFirst_64 : decode cX11_atFirst 64 = .ok (.iload 5, 2) := by decide +kernel
theorem dX11_atFirst_66 : decode cX11_atFirst 66 = .ok (.iastore, 1) := by decide +kernel
theorem dX11_atFirst_67 : decode cX11_atFirst 67 = .ok (.iload 4, 2) := by decide +kernel
theorem dX11_atFirst_69 : decode cX11_atFirst 69 = .ok (.iconst 1, 1) := by decide +kernel
theorem dX11_atFirst_70 : decode cX11_atFirst 70 = .ok (.if_icmp .ne 8, 3) := by decide +kernel
theorem dX11_atFirst_73 : decode cX11_atFirst 73 = .ok (.iload 6, 2) := by decide +kernel
theorem dX11_atFirst_75 : decode cX11_atFirst 75 = .ok (.goto 5, 3) := by decide +kernel
theorem dX11_atFirst_78 : decode cX11_atFirst 78 = .ok (.iload 7, 2) := by decide +kernel
theorem dX11_atFirst_80 : decode cX11_atFirst 80 = .ok (.ireturn, 1) := by decide +kernel
theorem dX11_seen_0 : decode cX11_seen 0 = .ok (.iload_n 1, 1) := by decide +kernel
theorem dX11_seen_1 : decode cX11_seen 1 = .ok (.invokestatic 113, 3) := by decide +kernel
theorem dX11_seen_4 : decode cX11_seen 4 = .ok (.ifCond .eq 36, 3) := by decide +kernel
theorem dX11_seen_7 : decode cX11_seen 7 = .ok (.iload_n 2, 1) := by decide +kernel
theorem dX11_seen_8 : decode cX11_seen 8 = .ok (.ifCond .lt 32, 3) := by decide +kernel
theorem dX11_seen_11 : decode cX11_seen 11 = .ok (.iload_n 2, 1) := by decide +kernel
theorem dX11_seen_12 : decode cX11_seen 12 = .ok (.bipush 100, 2) := by decide +kernel
theorem dX11_seen_14 : decode cX11_seen 14 = .ok (.idiv, 1) := by decide +kernel
theorem dX11_seen_15 : decode cX11_seen 15 = .ok (.invokestatic 105, 3) := by decide +kernel
theorem dX11_seen_18 : decode cX11_seen 18 = .ok (.ifCond .eq 22, 3) := by decide +kernel
theorem dX11_seen_21 : decode cX11_seen 21 = .ok (.iload_n 2, 1) := by decide +kernel
theorem dX11_seen_22 : decode cX11_seen 22 = .ok (.bipush 100, 2) := by decide +kernel
theorem dX11_seen_24 : decode cX11_seen 24 = .ok (.irem, 1) := by decide +kernel
theorem dX11_seen_25 : decode cX11_seen 25 = .ok (.invokestatic 105, 3) := by decide +kernel
theorem dX11_seen_28 : decode cX11_seen 28 = .ok (.ifCond .eq 12, 3) := by decide +kernel
theorem dX11_seen_31 : decode cX11_seen 31 = .ok (.iload_n 3, 1) := by decide +kernel
theorem dX11_seen_32 : decode cX11_seen 32 = .ok (.iconst 0, 1) := by decide +kernel
theorem dX11_seen_33 : decode cX11_seen 33 = .ok (.iconst 2, 1) := by decide +kernel
theorem dX11_seen_34 : decode cX11_seen 34 = .ok (.invokestatic 97, 3) := by decide +kernel
theorem dX11_seen_37 : decode cX11_seen 37 = .ok (.ifCond .ne 5, 3) := by decide +kernel
theorem dX11_seen_40 : decode cX11_seen 40 = .ok (.iconst (-1), 1) := by decide +kernel
theorem dX11_seen_41 : decode cX11_seen 41 = .ok (.ireturn, 1) := by decide +kernel
theorem dX11_seen_42 : decode cX11_seen 42 = .ok (.aload_n 0, 1) := by decide +kernel
theorem dX11_seen_43 : decode cX11_seen 43 = .ok (.iload_n 1, 1) := by decide +kernel
theorem dX11_seen_44 : decode cX11_seen 44 = .ok (.invokevirtual 292, 3) := by decide +kernel
theorem dX11_seen_47 : decode cX11_seen 47 = .ok (.istore 4, 2) := by decide +kernel
theorem dX11_seen_49 : decode cX11_seen 49 = .ok (.iload 4, 2) := by decide +kernel
theorem dX11_seen_51 : decode cX11_seen 51 = .ok (.ifCond .ge 6, 3) := by decide +kernel
theorem dX11_seen_54 : decode cX11_seen 54 = .ok (.iload 4, 2) := by decide +kernel
theorem dX11_seen_56 : decode cX11_seen 56 = .ok (.ireturn, 1) := by decide +kernel
theorem dX11_seen_57 : decode cX11_seen 57 = .ok (.iload_n 3, 1) := by decide +kernel
theorem dX11_seen_58 : decode cX11_seen 58 = .ok (.ifCond .ne 19, 3) := by decide +kernel
theorem dX11_seen_61 : decode cX11_seen 61 = .ok (.aload_n 0, 1) := by decide +kernel
theorem dX11_seen_62 : decode cX11_seen 62 = .ok (.iload_n 1, 1) := by decide +kernel
theorem dX11_seen_63 : decode cX11_seen 63 = .ok (.iload_n 2, 1) := by decide +kernel
theorem dX11_seen_64 : decode cX11_seen 64 = .ok (.bipush 100, 2) := by decide +kernel
theorem dX11_seen_66 : decode cX11_seen 66 = .ok (.idiv, 1) := by decide +kernel
theorem dX11_seen_67 : decode cX11_seen 67 = .ok (.iload_n 2, 1) := by decide +kernel
theorem dX11_seen_68 : decode cX11_seen 68 = .ok (.bipush 100, 2) := by decide +kernel
theorem dX11_seen_70 : decode cX11_seen 70 = .ok (.irem, 1) := by decide +kernel
theorem dX11_seen_71 : decode cX11_seen 71 = .ok (.invokevirtual 298, 3) := by decide +kernel
theorem dX11_seen_74 : decode cX11_seen 74 = .ok (.goto 17, 3) := by decide +kernel
theorem dX11_seen_77 : decode cX11_seen 77 = .ok (.aload_n 0, 1) := by decide +kernel
theorem dX11_seen_78 : decode cX11_seen 78 = .ok (.iload_n 1, 1) := by decide +kernel
theorem dX11_seen_79 : decode cX11_seen 79 = .ok (.iload_n 2, 1) := by decide +kernel
theorem dX11_seen_80 : decode cX11_seen 80 = .ok (.bipush 100, 2) := by decide +kernel
theorem dX11_seen_82 : decode cX11_seen 82 = .ok (.idiv, 1) := by decide +kernel
theorem dX11_seen_83 : decode cX11_seen 83 = .ok (.iload_n 2, 1) := by decide +kernel
theorem dX11_seen_84 : decode cX11_seen 84 = .ok (.bipush 100, 2) := by decide +kernel
theorem dX11_seen_86 : decode cX11_seen 86 = .ok (.irem, 1) := by decide +kernel
theorem dX11_seen_87 : decode cX11_seen 87 = .ok (.iload_n 3, 1) := by decide +kernel
theorem dX11_seen_88 : decode cX11_seen 88 = .ok (.invokevirtual 301, 3) := by decide +kernel
theorem dX11_seen_91 : decode cX11_seen 91 = .ok (.ireturn, 1) := by decide +kernel
theorem dX11_waysOf_0 : decode cX11_waysOf 0 = .ok (.iconst 0, 1) := by decide +kernel
theorem dX11_waysOf_1 : decode cX11_waysOf 1 = .ok (.istore_n 2, 1) := by decide +kernel
theorem dX11_waysOf_2 : decode cX11_waysOf 2 = .ok (.iload_n 2, 1) := by decide +kernel
theorem dX11_waysOf_3 : decode cX11_waysOf 3 = .ok (.aload_n 0, 1) := by decide +kernel
theorem dX11_waysOf_4 : decode cX11_waysOf 4 = .ok (.getfield 78, 3) := by decide +kernel
theorem dX11_waysOf_7 : decode cX11_waysOf 7 = .ok (.iload_n 1, 1) := by decide +kernel
theorem dX11_waysOf_8 : decode cX11_waysOf 8 = .ok (.iaload, 1) := by decide +kernel
theorem dX11_waysOf_9 : decode cX11_waysOf 9 = .ok (.if_icmp .ge 31, 3) := by decide +kernel
theorem dX11_waysOf_12 : decode cX11_waysOf 12 = .ok (.iload_n 2, 1) := by decide +kernel
theorem dX11_waysOf_13 : decode cX11_waysOf 13 = .ok (.bipush 6, 2) := by decide +kernel
theorem dX11_waysOf_15 : decode cX11_waysOf 15 = .ok (.if_icmp .ge 25, 3) := by decide +kernel
theorem dX11_waysOf_18 : decode cX11_waysOf 18 = .ok (.aload_n 0, 1) := by decide +kernel
theorem dX11_waysOf_19 : decode cX11_waysOf 19 = .ok (.iload_n 1, 1) := by decide +kernel
theorem dX11_waysOf_20 : decode cX11_waysOf 20 = .ok (.iload_n 2, 1) := by decide +kernel
theorem dX11_waysOf_21 : decode cX11_waysOf 21 = .ok (.invokevirtual 118, 3) := by decide +kernel
theorem dX11_waysOf_24 : decode cX11_waysOf 24 = .ok (.iconst 1, 1) := by decide +kernel
theorem dX11_waysOf_25 : decode cX11_waysOf 25 = .ok (.sipush 999, 3) := by decide +kernel
theorem dX11_waysOf_28 : decode cX11_waysOf 28 = .ok (.invokestatic 97, 3) := by decide +kernel
theorem dX11_waysOf_31 : decode cX11_waysOf 31 = .ok (.ifCond .eq 9, 3) := by decide +kernel
theorem dX11_waysOf_34 : decode cX11_waysOf 34 = .ok (.iinc 2 1, 3) := by decide +kernel
theorem dX11_waysOf_37 : decode cX11_waysOf 37 = .ok (.goto (-35), 3) := by decide +kernel
theorem dX11_waysOf_40 : decode cX11_waysOf 40 = .ok (.iload_n 2, 1) := by decide +kernel
theorem dX11_waysOf_41 : decode cX11_waysOf 41 = .ok (.ireturn, 1) := by decide +kernel
theorem dX11_gcd_0 : decode cX11_gcd 0 = .ok (.lload_n 0, 1) := by decide +kernel
theorem dX11_gcd_1 : decode cX11_gcd 1 = .ok (.lstore 4, 2) := by decide +kernel
theorem dX11_gcd_3 : decode cX11_gcd 3 = .ok (.lload_n 2, 1) := by decide +kernel
theorem dX11_gcd_4 : decode cX11_gcd 4 = .ok (.lstore 6, 2) := by decide +kernel
theorem dX11_gcd_6 : decode cX11_gcd 6 = .ok (.lload 6, 2) := by decide +kernel
theorem dX11_gcd_8 : decode cX11_gcd 8 = .ok (.lconst 0, 1) := by decide +kernel
theorem dX11_gcd_9 : decode cX11_gcd 9 = .ok (.lcmp, 1) := by decide +kernel
theorem dX11_gcd_10 : decode cX11_gcd 10 = .ok (.ifCond .eq 21, 3) := by decide +kernel
theorem dX11_gcd_13 : decode cX11_gcd 13 = .ok (.lload 4, 2) := by decide +kernel
theorem dX11_gcd_15 : decode cX11_gcd 15 = .ok (.lload 6, 2) := by decide +kernel
theorem dX11_gcd_17 : decode cX11_gcd 17 = .ok (.lrem, 1) := by decide +kernel
theorem dX11_gcd_18 : decode cX11_gcd 18 = .ok (.lstore 8, 2) := by decide +kernel
theorem dX11_gcd_20 : decode cX11_gcd 20 = .ok (.lload 6, 2) := by decide +kernel
theorem dX11_gcd_22 : decode cX11_gcd 22 = .ok (.lstore 4, 2) := by decide +kernel
theorem dX11_gcd_24 : decode cX11_gcd 24 = .ok (.lload 8, 2) := by decide +kernel
theorem dX11_gcd_26 : decode cX11_gcd 26 = .ok (.lstore 6, 2) := by decide +kernel
theorem dX11_gcd_28 : decode cX11_gcd 28 = .ok (.goto (-22), 3) := by decide +kernel
theorem dX11_gcd_31 : decode cX11_gcd 31 = .ok (.lload 4, 2) := by decide +kernel
theorem dX11_gcd_33 : decode cX11_gcd 33 = .ok (.lreturn, 1) := by decide +kernel
theorem dX11_below__0 : decode cX11_below_ 0 = .ok (.lconst 1, 1) := by decide +kernel
theorem dX11_below__1 : decode cX11_below_ 1 = .ok (.lstore_n 3, 1) := by decide +kernel
theorem dX11_below__2 : decode cX11_below_ 2 = .ok (.iconst 0, 1) := by decide +kernel
theorem dX11_below__3 : decode cX11_below_ 3 = .ok (.istore 5, 2) := by decide +kernel
theorem dX11_below__5 : decode cX11_below_ 5 = .ok (.iload 5, 2) := by decide +kernel
theorem dX11_below__7 : decode cX11_below_ 7 = .ok (.iload_n 2, 1) := by decide +kernel
theorem dX11_below__8 : decode cX11_below_ 8 = .ok (.if_icmp .ge 33, 3) := by decide +kernel
theorem dX11_below__11 : decode cX11_below_ 11 = .ok (.lload_n 3, 1) := by decide +kernel
theorem dX11_below__12 : decode cX11_below_ 12 = .ok (.lload_n 3, 1) := by decide +kernel
theorem dX11_below__13 : decode cX11_below_ 13 = .ok (.aload_n 0, 1) := by decide +kernel
theorem dX11_below__14 : decode cX11_below_ 14 = .ok (.iload_n 1, 1) := by decide +kernel
theorem dX11_below__15 : decode cX11_below_ 15 = .ok (.iload 5, 2) := by decide +kernel
theorem dX11_below__17 : decode cX11_below_ 17 = .ok (.invokevirtual 118, 3) := by decide +kernel
theorem dX11_below__20 : decode cX11_below_ 20 = .ok (.i2l, 1) := by decide +kernel
theorem dX11_below__21 : decode cX11_below_ 21 = .ok (.invokestatic 305, 3) := by decide +kernel
theorem dX11_below__24 : decode cX11_below_ 24 = .ok (.ldiv, 1) := by decide +kernel
theorem dX11_below__25 : decode cX11_below_ 25 = .ok (.aload_n 0, 1) := by decide +kernel
theorem dX11_below__26 : decode cX11_below_ 26 = .ok (.iload_n 1, 1) := by decide +kernel
theorem dX11_below__27 : decode cX11_below_ 27 = .ok (.iload 5, 2) := by decide +kernel
theorem dX11_below__29 : decode cX11_below_ 29 = .ok (.invokevirtual 118, 3) := by decide +kernel
theorem dX11_below__32 : decode cX11_below_ 32 = .ok (.i2l, 1) := by decide +kernel
theorem dX11_below__33 : decode cX11_below_ 33 = .ok (.lmul, 1) := by decide +kernel
theorem dX11_below__34 : decode cX11_below_ 34 = .ok (.lstore_n 3, 1) := by decide +kernel
theorem dX11_below__35 : decode cX11_below_ 35 = .ok (.iinc 5 1, 3) := by decide +kernel
theorem dX11_below__38 : decode cX11_below_ 38 = .ok (.goto (-33), 3) := by decide +kernel
theorem dX11_below__41 : decode cX11_below_ 41 = .ok (.lload_n 3, 1) := by decide +kernel
theorem dX11_below__42 : decode cX11_below_ 42 = .ok (.lreturn, 1) := by decide +kernel
theorem dX11_above_0 : decode cX11_above 0 = .ok (.aload_n 0, 1) := by decide +kernel
theorem dX11_above_1 : decode cX11_above 1 = .ok (.iload_n 1, 1) := by decide +kernel
theorem dX11_above_2 : decode cX11_above 2 = .ok (.iload_n 2, 1) := by decide +kernel
theorem dX11_above_3 : decode cX11_above 3 = .ok (.invokevirtual 309, 3) := by decide +kernel
theorem dX11_above_6 : decode cX11_above 6 = .ok (.lstore_n 3, 1) := by decide +kernel
theorem dX11_above_7 : decode cX11_above 7 = .ok (.lconst 0, 1) := by decide +kernel
theorem dX11_above_8 : decode cX11_above 8 = .ok (.lstore 5, 2) := by decide +kernel
theorem dX11_above_10 : decode cX11_above 10 = .ok (.iconst 0, 1) := by decide +kernel
theorem dX11_above_11 : decode cX11_above 11 = .ok (.istore 7, 2) := by decide +kernel
theorem dX11_above_13 : decode cX11_above 13 = .ok (.iload 7, 2) := by decide +kernel
theorem dX11_above_15 : decode cX11_above 15 = .ok (.iload_n 2, 1) := by decide +kernel
theorem dX11_above_16 : decode cX11_above 16 = .ok (.if_icmp .ge 28, 3) := by decide +kernel
theorem dX11_above_19 : decode cX11_above 19 = .ok (.lload 5, 2) := by decide +kernel
theorem dX11_above_21 : decode cX11_above 21 = .ok (.ldc2_w 312, 3) := by decide +kernel
theorem dX11_above_24 : decode cX11_above 24 = .ok (.lload_n 3, 1) := by decide +kernel
theorem dX11_above_25 : decode cX11_above 25 = .ok (.aload_n 0, 1) := by decide +kernel
theorem dX11_above_26 : decode cX11_above 26 = .ok (.iload_n 1, 1) := by decide +kernel
theorem dX11_above_27 : decode cX11_above 27 = .ok (.iload 7, 2) := by decide +kernel
theorem dX11_above_29 : decode cX11_above 29 = .ok (.invokevirtual 118, 3) := by decide +kernel
theorem dX11_above_32 : decode cX11_above 32 = .ok (.i2l, 1) := by decide +kernel
theorem dX11_above_33 : decode cX11_above 33 = .ok (.ldiv, 1) := by decide +kernel
theorem dX11_above_34 : decode cX11_above 34 = .ok (.lmul, 1) := by decide +kernel
theorem dX11_above_35 : decode cX11_above 35 = .ok (.ladd, 1) := by decide +kernel
theorem dX11_above_36 : decode cX11_above 36 = .ok (.lstore 5, 2) := by decide +kernel
theorem dX11_above_38 : decode cX11_above 38 = .ok (.iinc 7 1, 3) := by decide +kernel
theorem dX11_above_41 : decode cX11_above 41 = .ok (.goto (-28), 3) := by decide +kernel
theorem dX11_above_44 : decode cX11_above 44 = .ok (.lload 5, 2) := by decide +kernel
theorem dX11_above_46 : decode cX11_above 46 = .ok (.lreturn, 1) := by decide +kernel
theorem dX11_bets_0 : decode cX11_bets 0 = .ok (.iload_n 1, 1) := by decide +kernel
theorem dX11_bets_1 : decode cX11_bets 1 = .ok (.invokestatic 113, 3) := by decide +kernel
theorem dX11_bets_4 : decode cX11_bets 4 = .ok (.ifCond .eq 12, 3) := by decide +kernel
theorem dX11_bets_7 : decode cX11_bets 7 = .ok (.iload_n 2, 1) := by decide +kernel
theorem dX11_bets_8 : decode cX11_bets 8 = .ok (.iconst 0, 1) := by decide +kernel
theorem dX11_bets_9 : decode cX11_bets 9 = .ok (.iconst 1, 1) := by decide +kernel
theorem dX11_bets_10 : decode cX11_bets 10 = .ok (.invokestatic 97, 3) := by decide +kernel
theorem dX11_bets_13 : decode cX11_bets 13 = .ok (.ifCond .ne 5, 3) := by decide +kernel
theorem dX11_bets_16 : decode cX11_bets 16 = .ok (.iconst (-1), 1) := by decide +kernel
theorem dX11_bets_17 : decode cX11_bets 17 = .ok (.ireturn, 1) := by decide +kernel
theorem dX11_bets_18 : decode cX11_bets 18 = .ok (.aload_n 0, 1) := by decide +kernel
theorem dX11_bets_19 : decode cX11_bets 19 = .ok (.iload_n 1, 1) := by decide +kernel
theorem dX11_bets_20 : decode cX11_bets 20 = .ok (.invokevirtual 292, 3) := by decide +kernel
theorem dX11_bets_23 : decode cX11_bets 23 = .ok (.istore_n 3, 1) := by decide +kernel
theorem dX11_bets_24 : decode cX11_bets 24 = .ok (.iload_n 3, 1) := by decide +kernel
theorem dX11_bets_25 : decode cX11_bets 25 = .ok (.ifCond .ge 5, 3) := by decide +kernel
theorem dX11_bets_28 : decode cX11_bets 28 = .ok (.iload_n 3, 1) := by decide +kernel
theorem dX11_bets_29 : decode cX11_bets 29 = .ok (.ireturn, 1) := by decide +kernel
theorem dX11_bets_30 : decode cX11_bets 30 = .ok (.aload_n 0, 1) := by decide +kernel
theorem dX11_bets_31 : decode cX11_bets 31 = .ok (.iload_n 1, 1) := by decide +kernel
theorem dX11_bets_32 : decode cX11_bets 32 = .ok (.invokevirtual 314, 3) := by decide +kernel
theorem dX11_bets_35 : decode cX11_bets 35 = .ok (.istore 4, 2) := by decide +kernel
theorem dX11_bets_37 : decode cX11_bets 37 = .ok (.iload_n 2, 1) := by decide +kernel
theorem dX11_bets_38 : decode cX11_bets 38 = .ok (.ifCond .ne 32, 3) := by decide +kernel
theorem dX11_bets_41 : decode cX11_bets 41 = .ok (.iload 4, 2) := by decide +kernel
theorem dX11_bets_43 : decode cX11_bets 43 = .ok (.ifCond .le 25, 3) := by decide +kernel
theorem dX11_bets_46 : decode cX11_bets 46 = .ok (.aload_n 0, 1) := by decide +kernel
theorem dX11_bets_47 : decode cX11_bets 47 = .ok (.iload_n 1, 1) := by decide +kernel
theorem dX11_bets_48 : decode cX11_bets 48 = .ok (.iload 4, 2) := by decide +kernel
theorem dX11_bets_50 : decode cX11_bets 50 = .ok (.invokevirtual 317, 3) := by decide +kernel
theorem dX11_bets_53 : decode cX11_bets 53 = .ok (.aload_n 0, 1) := by decide +kernel
theorem dX11_bets_54 : decode cX11_bets 54 = .ok (.iload_n 1, 1) := by decide +kernel
theorem dX11_bets_55 : decode cX11_bets 55 = .ok (.iload 4, 2) := by decide +kernel
theorem dX11_bets_57 : decode cX11_bets 57 = .ok (.invokevirtual 309, 3) := by decide +kernel
theorem dX11_bets_60 : decode cX11_bets 60 = .ok (.lcmp, 1) := by decide +kernel
theorem dX11_bets_61 : decode cX11_bets 61 = .ok (.ifCond .ge 7, 3) := by decide +kernel
theorem dX11_bets_64 : decode cX11_bets 64 = .ok (.iconst 1, 1) := by decide +kernel
theorem dX11_bets_65 : decode cX11_bets 65 = .ok (.goto 4, 3) := by decide +kernel
theorem dX11_bets_68 : decode cX11_bets 68 = .ok (.iconst 0, 1) := by decide +kernel
theorem dX11_bets_69 : decode cX11_bets 69 = .ok (.ireturn, 1) := by decide +kernel
theorem dX11_bets_70 : decode cX11_bets 70 = .ok (.bipush (-2), 2) := by decide +kernel
theorem dX11_bets_72 : decode cX11_bets 72 = .ok (.istore 5, 2) := by decide +kernel
theorem dX11_bets_74 : decode cX11_bets 74 = .ok (.iconst 0, 1) := by decide +kernel
theorem dX11_bets_75 : decode cX11_bets 75 = .ok (.istore 6, 2) := by decide +kernel
theorem dX11_bets_77 : decode cX11_bets 77 = .ok (.iload 6, 2) := by decide +kernel
theorem dX11_bets_79 : decode cX11_bets 79 = .ok (.iload 4, 2) := by decide +kernel
theorem dX11_bets_81 : decode cX11_bets 81 = .ok (.if_icmp .ge 37, 3) := by decide +kernel
theorem dX11_bets_84 : decode cX11_bets 84 = .ok (.iload 5, 2) := by decide +kernel
theorem dX11_bets_86 : decode cX11_bets 86 = .ok (.bipush (-2), 2) := by decide +kernel
theorem dX11_bets_88 : decode cX11_bets 88 = .ok (.if_icmp .eq 20, 3) := by decide +kernel
theorem dX11_bets_91 : decode cX11_bets 91 = .ok (.aload_n 0, 1) := by decide +kernel
theorem dX11_bets_92 : decode cX11_bets 92 = .ok (.iload_n 1, 1) := by decide +kernel
theorem dX11_bets_93 : decode cX11_bets 93 = .ok (.iload 6, 2) := by decide +kernel
theorem dX11_bets_95 : decode cX11_bets 95 = .ok (.invokevirtual 118, 3) := by decide +kernel
theorem dX11_bets_98 : decode cX11_bets 98 = .ok (.aload_n 0, 1) := by decide +kernel
theorem dX11_bets_99 : decode cX11_bets 99 = .ok (.iload_n 1, 1) := by decide +kernel
theorem dX11_bets_100 : decode cX11_bets 100 = .ok (.iload 5, 2) := by decide +kernel
theorem dX11_bets_102 : decode cX11_bets 102 = .ok (.invokevirtual 118, 3) := by decide +kernel
theorem dX11_bets_105 : decode cX11_bets 105 = .ok (.if_icmp .le 7, 3) := by decide +kernel
theorem dX11_bets_108 : decode cX11_bets 108 = .ok (.iload 6, 2) := by decide +kernel
theorem dX11_bets_110 : decode cX11_bets 110 = .ok (.istore 5, 2) := by decide +kernel
theorem dX11_bets_112 : decode cX11_bets 112 = .ok (.iinc 6 1, 3) := by decide +kernel
theorem dX11_bets_115 : decode cX11_bets 115 = .ok (.goto (-38), 3) := by decide +kernel
theorem dX11_bets_118 : decode cX11_bets 118 = .ok (.iload 5, 2) := by decide +kernel
theorem dX11_bets_120 : decode cX11_bets 120 = .ok (.ireturn, 1) := by decide +kernel
theorem dX11_margin_0 : decode cX11_margin 0 = .ok (.iload_n 1, 1) := by decide +kernel
theorem dX11_margin_1 : decode cX11_margin 1 = .ok (.invokestatic 113, 3) := by decide +kernel
theorem dX11_margin_4 : decode cX11_margin 4 = .ok (.ifCond .eq 20, 3) := by decide +kernel
theorem dX11_margin_7 : decode cX11_margin 7 = .ok (.iload_n 2, 1) := by decide +kernel
theorem dX11_margin_8 : decode cX11_margin 8 = .ok (.iconst 0, 1) := by decide +kernel
theorem dX11_margin_9 : decode cX11_margin 9 = .ok (.iconst 1, 1) := by decide +kernel
theorem dX11_margin_10 : decode cX11_margin 10 = .ok (.invokestatic 97, 3) := by decide +kernel
theorem dX11_margin_13 : decode cX11_margin 13 = .ok (.ifCond .eq 11, 3) := by decide +kernel
theorem dX11_margin_16 : decode cX11_margin 16 = .ok (.aload_n 0, 1) := by decide +kernel
theorem dX11_margin_17 : decode cX11_margin 17 = .ok (.iload_n 1, 1) := by decide +kernel
theorem dX11_margin_18 : decode cX11_margin 18 = .ok (.invokevirtual 292, 3) := by decide +kernel
theorem dX11_margin_21 : decode cX11_margin 21 = .ok (.ifCond .ge 7, 3) := by decide +kernel
theorem dX11_margin_24 : decode cX11_margin 24 = .ok (.ldc2_w 273, 3) := by decide +kernel
theorem dX11_margin_27 : decode cX11_margin 27 = .ok (.lreturn, 1) := by decide +kernel
theorem dX11_margin_28 : decode cX11_margin 28 = .ok (.aload_n 0, 1) := by decide +kernel
theorem dX11_margin_29 : decode cX11_margin 29 = .ok (.iload_n 1, 1) := by decide +kernel
theorem dX11_margin_30 : decode cX11_margin 30 = .ok (.invokevirtual 314, 3) := by decide +kernel
theorem dX11_margin_33 : decode cX11_margin 33 = .ok (.istore_n 3, 1) := by decide +kernel
theorem dX11_margin_34 : decode cX11_margin 34 = .ok (.aload_n 0, 1) := by decide +kernel
theorem dX11_margin_35 : decode cX11_margin 35 = .ok (.iload_n 1, 1) := by decide +kernel
theorem dX11_margin_36 : decode cX11_margin 36 = .ok (.iload_n 3, 1) := by decide +kernel
theorem dX11_margin_37 : decode cX11_margin 37 = .ok (.invokevirtual 317, 3) := by decide +kernel
theorem dX11_margin_40 : decode cX11_margin 40 = .ok (.lstore 4, 2) := by decide +kernel
theorem dX11_margin_42 : decode cX11_margin 42 = .ok (.aload_n 0, 1) := by decide +kernel
theorem dX11_margin_43 : decode cX11_margin 43 = .ok (.iload_n 1, 1) := by decide +kernel
theorem dX11_margin_44 : decode cX11_margin 44 = .ok (.iload_n 3, 1) := by decide +kernel
theorem dX11_margin_45 : decode cX11_margin 45 = .ok (.invokevirtual 309, 3) := by decide +kernel
theorem dX11_margin_48 : decode cX11_margin 48 = .ok (.lstore 6, 2) := by decide +kernel
theorem dX11_margin_50 : decode cX11_margin 50 = .ok (.iload_n 2, 1) := by decide +kernel
theorem dX11_margin_51 : decode cX11_margin 51 = .ok (.ifCond .ne 16, 3) := by decide +kernel
theorem dX11_margin_54 : decode cX11_margin 54 = .ok (.lload 4, 2) := by decide +kernel
theorem dX11_margin_56 : decode cX11_margin 56 = .ok (.lload 4, 2) := by decide +kernel
theorem dX11_margin_58 : decode cX11_margin 58 = .ok (.lload 6, 2) := by decide +kernel
theorem dX11_margin_60 : decode cX11_margin 60 = .ok (.invokestatic 305, 3) := by decide +kernel
theorem dX11_margin_63 : decode cX11_margin 63 = .ok (.ldiv, 1) := by decide +kernel
theorem dX11_margin_64 : decode cX11_margin 64 = .ok (.goto 13, 3) := by decide +kernel
theorem dX11_margin_67 : decode cX11_margin 67 = .ok (.lload 6, 2) := by decide +kernel
theorem dX11_margin_69 : decode cX11_margin 69 = .ok (.lload 4, 2) := by decide +kernel
theorem dX11_margin_71 : decode cX11_margin 71 = .ok (.lload 6, 2) := by decide +kernel
theorem dX11_margin_73 : decode cX11_margin 73 = .ok (.invokestatic 305, 3) := by decide +kernel
theorem dX11_margin_76 : decode cX11_margin 76 = .ok (.ldiv, 1) := by decide +kernel
theorem dX11_margin_77 : decode cX11_margin 77 = .ok (.lreturn, 1) := by decide +kernel
theorem dX11_turns_0 : decode cX11_turns 0 = .ok (.aload_n 0, 1) := by decide +kernel
theorem dX11_turns_1 : decode cX11_turns 1 = .ok (.getfield 18, 3) := by decide +kernel
theorem dX11_turns_4 : decode cX11_turns 4 = .ok (.iload_n 1, 1) := by decide +kernel
theorem dX11_turns_5 : decode cX11_turns 5 = .ok (.aload_n 0, 1) := by decide +kernel
theorem dX11_turns_6 : decode cX11_turns 6 = .ok (.getfield 18, 3) := by decide +kernel
theorem dX11_turns_9 : decode cX11_turns 9 = .ok (.iload_n 1, 1) := by decide +kernel
theorem dX11_turns_10 : decode cX11_turns 10 = .ok (.iaload, 1) := by decide +kernel
theorem dX11_turns_11 : decode cX11_turns 11 = .ok (.iload_n 2, 1) := by decide +kernel
theorem dX11_turns_12 : decode cX11_turns 12 = .ok (.iadd, 1) := by decide +kernel
theorem dX11_turns_13 : decode cX11_turns 13 = .ok (.iconst 3, 1) := by decide +kernel
theorem dX11_turns_14 : decode cX11_turns 14 = .ok (.irem, 1) := by decide +kernel
theorem dX11_turns_15 : decode cX11_turns 15 = .ok (.iastore, 1) := by decide +kernel
theorem dX11_turns_16 : decode cX11_turns 16 = .ok (.return_, 1) := by decide +kernel
theorem dX11_more_0 : decode cX11_more 0 = .ok (.aload_n 0, 1) := by decide +kernel
theorem dX11_more_1 : decode cX11_more 1 = .ok (.aload_n 0, 1) := by decide +kernel
theorem dX11_more_2 : decode cX11_more 2 = .ok (.getfield 88, 3) := by decide +kernel
theorem dX11_more_5 : decode cX11_more 5 = .ok (.invokevirtual 250, 3) := by decide +kernel
theorem dX11_more_8 : decode cX11_more 8 = .ok (.aload_n 0, 1) := by decide +kernel
theorem dX11_more_9 : decode cX11_more 9 = .ok (.iload_n 2, 1) := by decide +kernel
theorem dX11_more_10 : decode cX11_more 10 = .ok (.bipush 10, 2) := by decide +kernel
theorem dX11_more_12 : decode cX11_more 12 = .ok (.irem, 1) := by decide +kernel
theorem dX11_more_13 : decode cX11_more 13 = .ok (.invokevirtual 254, 3) := by decide +kernel
theorem dX11_more_16 : decode cX11_more 16 = .ok (.aload_n 0, 1) := by decide +kernel
theorem dX11_more_17 : decode cX11_more 17 = .ok (.iload_n 1, 1) := by decide +kernel
theorem dX11_more_18 : decode cX11_more 18 = .ok (.bipush 10, 2) := by decide +kernel
theorem dX11_more_20 : decode cX11_more 20 = .ok (.idiv, 1) := by decide +kernel
theorem dX11_more_21 : decode cX11_more 21 = .ok (.invokevirtual 258, 3) := by decide +kernel
theorem dX11_more_24 : decode cX11_more 24 = .ok (.aload_n 0, 1) := by decide +kernel
theorem dX11_more_25 : decode cX11_more 25 = .ok (.iload_n 1, 1) := by decide +kernel
theorem dX11_more_26 : decode cX11_more 26 = .ok (.bipush 10, 2) := by decide +kernel
theorem dX11_more_28 : decode cX11_more 28 = .ok (.irem, 1) := by decide +kernel
theorem dX11_more_29 : decode cX11_more 29 = .ok (.invokevirtual 258, 3) := by decide +kernel
theorem dX11_more_32 : decode cX11_more 32 = .ok (.isub, 1) := by decide +kernel
theorem dX11_more_33 : decode cX11_more 33 = .ok (.istore_n 3, 1) := by decide +kernel
theorem dX11_more_34 : decode cX11_more 34 = .ok (.aload_n 0, 1) := by decide +kernel
theorem dX11_more_35 : decode cX11_more 35 = .ok (.aload_n 0, 1) := by decide +kernel
theorem dX11_more_36 : decode cX11_more 36 = .ok (.getfield 88, 3) := by decide +kernel
theorem dX11_more_39 : decode cX11_more 39 = .ok (.invokevirtual 261, 3) := by decide +kernel
theorem dX11_more_42 : decode cX11_more 42 = .ok (.iload_n 3, 1) := by decide +kernel
theorem dX11_more_43 : decode cX11_more 43 = .ok (.ireturn, 1) := by decide +kernel
theorem dX11_turnFrom_0 : decode cX11_turnFrom 0 = .ok (.iload_n 1, 1) := by decide +kernel
theorem dX11_turnFrom_1 : decode cX11_turnFrom 1 = .ok (.iload_n 3, 1) := by decide +kernel
theorem dX11_turnFrom_2 : decode cX11_turnFrom 2 = .ok (.bipush 10, 2) := by decide +kernel
theorem dX11_turnFrom_4 : decode cX11_turnFrom 4 = .ok (.idiv, 1) := by decide +kernel
theorem dX11_turnFrom_5 : decode cX11_turnFrom 5 = .ok (.bipush 10, 2) := by decide +kernel
theorem dX11_turnFrom_7 : decode cX11_turnFrom 7 = .ok (.irem, 1) := by decide +kernel
theorem dX11_turnFrom_8 : decode cX11_turnFrom 8 = .ok (.if_icmp .ne 10, 3) := by decide +kernel
theorem dX11_turnFrom_11 : decode cX11_turnFrom 11 = .ok (.aload_n 0, 1) := by decide +kernel
theorem dX11_turnFrom_12 : decode cX11_turnFrom 12 = .ok (.iload_n 2, 1) := by decide +kernel
theorem dX11_turnFrom_13 : decode cX11_turnFrom 13 = .ok (.iload_n 3, 1) := by decide +kernel
theorem dX11_turnFrom_14 : decode cX11_turnFrom 14 = .ok (.invokevirtual 320, 3) := by decide +kernel
theorem dX11_turnFrom_17 : decode cX11_turnFrom 17 = .ok (.ireturn, 1) := by decide +kernel
theorem dX11_turnFrom_18 : decode cX11_turnFrom 18 = .ok (.aload_n 0, 1) := by decide +kernel
theorem dX11_turnFrom_19 : decode cX11_turnFrom 19 = .ok (.iload_n 1, 1) := by decide +kernel
theorem dX11_turnFrom_20 : decode cX11_turnFrom 20 = .ok (.iconst 1, 1) := by decide +kernel
theorem dX11_turnFrom_21 : decode cX11_turnFrom 21 = .ok (.iadd, 1) := by decide +kernel
theorem dX11_turnFrom_22 : decode cX11_turnFrom 22 = .ok (.iload_n 2, 1) := by decide +kernel
theorem dX11_turnFrom_23 : decode cX11_turnFrom 23 = .ok (.iload_n 3, 1) := by decide +kernel
theorem dX11_turnFrom_24 : decode cX11_turnFrom 24 = .ok (.invokevirtual 323, 3) := by decide +kernel
theorem dX11_turnFrom_27 : decode cX11_turnFrom 27 = .ok (.istore 4, 2) := by decide +kernel
theorem dX11_turnFrom_29 : decode cX11_turnFrom 29 = .ok (.iconst 0, 1) := by decide +kernel
theorem dX11_turnFrom_30 : decode cX11_turnFrom 30 = .ok (.istore 5, 2) := by decide +kernel
theorem dX11_turnFrom_32 : decode cX11_turnFrom 32 = .ok (.iload 5, 2) := by decide +kernel
theorem dX11_turnFrom_34 : decode cX11_turnFrom 34 = .ok (.bipush 6, 2) := by decide +kernel
theorem dX11_turnFrom_36 : decode cX11_turnFrom 36 = .ok (.if_icmp .ge 71, 3) := by decide +kernel
theorem dX11_turnFrom_39 : decode cX11_turnFrom 39 = .ok (.bipush 6, 2) := by decide +kernel
theorem dX11_turnFrom_41 : decode cX11_turnFrom 41 = .ok (.iload_n 3, 1) := by decide +kernel
theorem dX11_turnFrom_42 : decode cX11_turnFrom 42 = .ok (.bipush 100, 2) := by decide +kernel
theorem dX11_turnFrom_44 : decode cX11_turnFrom 44 = .ok (.idiv, 1) := by decide +kernel
theorem dX11_turnFrom_45 : decode cX11_turnFrom 45 = .ok (.imul, 1) := by decide +kernel
theorem dX11_turnFrom_46 : decode cX11_turnFrom 46 = .ok (.iload 5, 2) := by decide +kernel
theorem dX11_turnFrom_48 : decode cX11_turnFrom 48 = .ok (.iadd, 1) := by decide +kernel
theorem dX11_turnFrom_49 : decode cX11_turnFrom 49 = .ok (.istore 6, 2) := by decide +kernel
theorem dX11_turnFrom_51 : decode cX11_turnFrom 51 = .ok (.aload_n 0, 1) := by decide +kernel
theorem dX11_turnFrom_52 : decode cX11_turnFrom 52 = .ok (.iload 6, 2) := by decide +kernel
theorem dX11_turnFrom_54 : decode cX11_turnFrom 54 = .ok (.iconst 1, 1) := by decide +kernel
theorem dX11_turnFrom_55 : decode cX11_turnFrom 55 = .ok (.invokevirtual 326, 3) := by decide +kernel
theorem dX11_turnFrom_58 : decode cX11_turnFrom 58 = .ok (.aload_n 0, 1) := by decide +kernel
theorem dX11_turnFrom_59 : decode cX11_turnFrom 59 = .ok (.iload_n 1, 1) := by decide +kernel
theorem dX11_turnFrom_60 : decode cX11_turnFrom 60 = .ok (.iconst 1, 1) := by decide +kernel
theorem dX11_turnFrom_61 : decode cX11_turnFrom 61 = .ok (.iadd, 1) := by decide +kernel
theorem dX11_turnFrom_62 : decode cX11_turnFrom 62 = .ok (.iload_n 2, 1) := by decide +kernel
theorem dX11_turnFrom_63 : decode cX11_turnFrom 63 = .ok (.iload_n 3, 1) := by decide +kernel
theorem dX11_turnFrom_64 : decode cX11_turnFrom 64 = .ok (.invokevirtual 323, 3) := by decide +kernel
theorem dX11_turnFrom_67 : decode cX11_turnFrom 67 = .ok (.istore 7, 2) := by decide +kernel
theorem dX11_turnFrom_69 : decode cX11_turnFrom 69 = .ok (.aload_n 0, 1) := by decide +kernel
theorem dX11_turnFrom_70 : decode cX11_turnFrom 70 = .ok (.iload 6, 2) := by decide +kernel
theorem dX11_turnFrom_72 : decode cX11_turnFrom 72 = .ok (.iconst 2, 1) := by decide +kernel
theorem dX11_turnFrom_73 : decode cX11_turnFrom 73 = .ok (.invokevirtual 326, 3) := by decide +kernel
theorem dX11_turnFrom_76 : decode cX11_turnFrom 76 = .ok (.iload_n 1, 1) := by decide +kernel
theorem dX11_turnFrom_77 : decode cX11_turnFrom 77 = .ok (.iconst 2, 1) := by decide +kernel
theorem dX11_turnFrom_78 : decode cX11_turnFrom 78 = .ok (.irem, 1) := by decide +kernel
theorem dX11_turnFrom_79 : decode cX11_turnFrom 79 = .ok (.ifCond .ne 13, 3) := by decide +kernel
theorem dX11_turnFrom_82 : decode cX11_turnFrom 82 = .ok (.iload 4, 2) := by decide +kernel
theorem dX11_turnFrom_84 : decode cX11_turnFrom 84 = .ok (.iload 7, 2) := by decide +kernel
theorem dX11_turnFrom_86 : decode cX11_turnFrom 86 = .ok (.invokestatic 232, 3) := by decide +kernel
theorem dX11_turnFrom_89 : decode cX11_turnFrom 89 = .ok (.goto 10, 3) := by decide +kernel
theorem dX11_turnFrom_92 : decode cX11_turnFrom 92 = .ok (.iload 4, 2) := by decide +kernel
theorem dX11_turnFrom_94 : decode cX11_turnFrom 94 = .ok (.iload 7, 2) := by decide +kernel
theorem dX11_turnFrom_96 : decode cX11_turnFrom 96 = .ok (.invokestatic 227, 3) := by decide +kernel
theorem dX11_turnFrom_99 : decode cX11_turnFrom 99 = .ok (.istore 4, 2) := by decide +kernel
theorem dX11_turnFrom_101 : decode cX11_turnFrom 101 = .ok (.iinc 5 1, 3) := by decide +kernel
theorem dX11_turnFrom_104 : decode cX11_turnFrom 104 = .ok (.goto (-72), 3) := by decide +kernel
theorem dX11_turnFrom_107 : decode cX11_turnFrom 107 = .ok (.iload 4, 2) := by decide +kernel
theorem dX11_turnFrom_109 : decode cX11_turnFrom 109 = .ok (.ireturn, 1) := by decide +kernel
theorem dX11_byTurns_0 : decode cX11_byTurns 0 = .ok (.iload_n 1, 1) := by decide +kernel
theorem dX11_byTurns_1 : decode cX11_byTurns 1 = .ok (.ifCond .lt 36, 3) := by decide +kernel
theorem dX11_byTurns_4 : decode cX11_byTurns 4 = .ok (.aload_n 0, 1) := by decide +kernel
theorem dX11_byTurns_5 : decode cX11_byTurns 5 = .ok (.iload_n 1, 1) := by decide +kernel
theorem dX11_byTurns_6 : decode cX11_byTurns 6 = .ok (.bipush 10, 2) := by decide +kernel
theorem dX11_byTurns_8 : decode cX11_byTurns 8 = .ok (.idiv, 1) := by decide +kernel
theorem dX11_byTurns_9 : decode cX11_byTurns 9 = .ok (.invokevirtual 122, 3) := by decide +kernel
theorem dX11_byTurns_12 : decode cX11_byTurns 12 = .ok (.ifCond .eq 25, 3) := by decide +kernel
theorem dX11_byTurns_15 : decode cX11_byTurns 15 = .ok (.aload_n 0, 1) := by decide +kernel
theorem dX11_byTurns_16 : decode cX11_byTurns 16 = .ok (.iload_n 1, 1) := by decide +kernel
theorem dX11_byTurns_17 : decode cX11_byTurns 17 = .ok (.bipush 10, 2) := by decide +kernel
theorem dX11_byTurns_19 : decode cX11_byTurns 19 = .ok (.irem, 1) := by decide +kernel
theorem dX11_byTurns_20 : decode cX11_byTurns 20 = .ok (.invokevirtual 122, 3) := by decide +kernel
theorem dX11_byTurns_23 : decode cX11_byTurns 23 = .ok (.ifCond .eq 14, 3) := by decide +kernel
theorem dX11_byTurns_26 : decode cX11_byTurns 26 = .ok (.iload_n 1, 1) := by decide +kernel
theorem dX11_byTurns_27 : decode cX11_byTurns 27 = .ok (.bipush 10, 2) := by decide +kernel
theorem dX11_byTurns_29 : decode cX11_byTurns 29 = .ok (.idiv, 1) := by decide +kernel
theorem dX11_byTurns_30 : decode cX11_byTurns 30 = .ok (.iload_n 1, 1) := by decide +kernel
theorem dX11_byTurns_31 : decode cX11_byTurns 31 = .ok (.bipush 10, 2) := by decide +kernel
theorem dX11_byTurns_33 : decode cX11_byTurns 33 = .ok (.irem, 1) := by decide +kernel
theorem dX11_byTurns_34 : decode cX11_byTurns 34 = .ok (.if_icmp .ne 7, 3) := by decide +kernel
theorem dX11_byTurns_37 : decode cX11_byTurns 37 = .ok (.ldc_w 278, 3) := by decide +kernel
theorem dX11_byTurns_40 : decode cX11_byTurns 40 = .ok (.ireturn, 1) := by decide +kernel
theorem dX11_byTurns_41 : decode cX11_byTurns 41 = .ok (.iload_n 2, 1) := by decide +kernel
theorem dX11_byTurns_42 : decode cX11_byTurns 42 = .ok (.ifCond .lt 45, 3) := by decide +kernel
theorem dX11_byTurns_45 : decode cX11_byTurns 45 = .ok (.iload_n 2, 1) := by decide +kernel
theorem dX11_byTurns_46 : decode cX11_byTurns 46 = .ok (.bipush 100, 2) := by decide +kernel
theorem dX11_byTurns_48 : decode cX11_byTurns 48 = .ok (.idiv, 1) := by decide +kernel
theorem dX11_byTurns_49 : decode cX11_byTurns 49 = .ok (.bipush 6, 2) := by decide +kernel
theorem dX11_byTurns_51 : decode cX11_byTurns 51 = .ok (.if_icmp .ge 36, 3) := by decide +kernel
theorem dX11_byTurns_54 : decode cX11_byTurns 54 = .ok (.iload_n 2, 1) := by decide +kernel
theorem dX11_byTurns_55 : decode cX11_byTurns 55 = .ok (.bipush 10, 2) := by decide +kernel
theorem dX11_byTurns_57 : decode cX11_byTurns 57 = .ok (.idiv, 1) := by decide +kernel
theorem dX11_byTurns_58 : decode cX11_byTurns 58 = .ok (.bipush 10, 2) := by decide +kernel
theorem dX11_byTurns_60 : decode cX11_byTurns 60 = .ok (.irem, 1) := by decide +kernel
theorem dX11_byTurns_61 : decode cX11_byTurns 61 = .ok (.iconst 1, 1) := by decide +kernel
theorem dX11_byTurns_62 : decode cX11_byTurns 62 = .ok (.iconst 3, 1) := by decide +kernel
theorem dX11_byTurns_63 : decode cX11_byTurns 63 = .ok (.invokestatic 97, 3) := by decide +kernel
theorem dX11_byTurns_66 : decode cX11_byTurns 66 = .ok (.ifCond .eq 21, 3) := by decide +kernel
theorem dX11_byTurns_69 : decode cX11_byTurns 69 = .ok (.iload_n 2, 1) := by decide +kernel
theorem dX11_byTurns_70 : decode cX11_byTurns 70 = .ok (.bipush 10, 2) := by decide +kernel
theorem dX11_byTurns_72 : decode cX11_byTurns 72 = .ok (.irem, 1) := by decide +kernel
theorem dX11_byTurns_73 : decode cX11_byTurns 73 = .ok (.bipush 6, 2) := by decide +kernel
theorem dX11_byTurns_75 : decode cX11_byTurns 75 = .ok (.if_icmp .gt 12, 3) := by decide +kernel
theorem dX11_byTurns_78 : decode cX11_byTurns 78 = .ok (.iload_n 3, 1) := by decide +kernel
theorem dX11_byTurns_79 : decode cX11_byTurns 79 = .ok (.iconst 0, 1) := by decide +kernel
theorem dX11_byTurns_80 : decode cX11_byTurns 80 = .ok (.iconst 1, 1) := by decide +kernel
theorem dX11_byTurns_81 : decode cX11_byTurns 81 = .ok (.invokestatic 97, 3) := by decide +kernel
theorem dX11_byTurns_84 : decode cX11_byTurns 84 = .ok (.ifCond .ne 7, 3) := by decide +kernel
theorem dX11_byTurns_87 : decode cX11_byTurns 87 = .ok (.ldc_w 278, 3) := by decide +kernel
theorem dX11_byTurns_90 : decode cX11_byTurns 90 = .ok (.ireturn, 1) := by decide +kernel
theorem dX11_byTurns_91 : decode cX11_byTurns 91 = .ok (.aload_n 0, 1) := by decide +kernel
theorem dX11_byTurns_92 : decode cX11_byTurns 92 = .ok (.iconst 1, 1) := by decide +kernel
theorem dX11_byTurns_93 : decode cX11_byTurns 93 = .ok (.iload_n 1, 1) := by decide +kernel
theorem dX11_byTurns_94 : decode cX11_byTurns 94 = .ok (.iload_n 2, 1) := by decide +kernel
theorem dX11_byTurns_95 : decode cX11_byTurns 95 = .ok (.invokevirtual 323, 3) := by decide +kernel
theorem dX11_byTurns_98 : decode cX11_byTurns 98 = .ok (.istore 4, 2) := by decide +kernel
theorem dX11_byTurns_100 : decode cX11_byTurns 100 = .ok (.bipush 6, 2) := by decide +kernel
theorem dX11_byTurns_102 : decode cX11_byTurns 102 = .ok (.istore 5, 2) := by decide +kernel
theorem dX11_byTurns_104 : decode cX11_byTurns 104 = .ok (.iconst 0, 1) := by decide +kernel
theorem dX11_byTurns_105 : decode cX11_byTurns 105 = .ok (.istore 6, 2) := by decide +kernel
theorem dX11_byTurns_107 : decode cX11_byTurns 107 = .ok (.iload 6, 2) := by decide +kernel
theorem dX11_byTurns_109 : decode cX11_byTurns 109 = .ok (.bipush 6, 2) := by decide +kernel
theorem dX11_byTurns_111 : decode cX11_byTurns 111 = .ok (.if_icmp .ge 62, 3) := by decide +kernel
theorem dX11_byTurns_114 : decode cX11_byTurns 114 = .ok (.bipush 6, 2) := by decide +kernel
theorem dX11_byTurns_116 : decode cX11_byTurns 116 = .ok (.iload_n 2, 1) := by decide +kernel
theorem dX11_byTurns_117 : decode cX11_byTurns 117 = .ok (.bipush 100, 2) := by decide +kernel
theorem dX11_byTurns_119 : decode cX11_byTurns 119 = .ok (.idiv, 1) := by decide +kernel
theorem dX11_byTurns_120 : decode cX11_byTurns 120 = .ok (.imul, 1) := by decide +kernel
theorem dX11_byTurns_121 : decode cX11_byTurns 121 = .ok (.iload 6, 2) := by decide +kernel
theorem dX11_byTurns_123 : decode cX11_byTurns 123 = .ok (.iadd, 1) := by decide +kernel
theorem dX11_byTurns_124 : decode cX11_byTurns 124 = .ok (.istore 7, 2) := by decide +kernel
theorem dX11_byTurns_126 : decode cX11_byTurns 126 = .ok (.aload_n 0, 1) := by decide +kernel
theorem dX11_byTurns_127 : decode cX11_byTurns 127 = .ok (.iload 7, 2) := by decide +kernel
theorem dX11_byTurns_129 : decode cX11_byTurns 129 = .ok (.iconst 1, 1) := by decide +kernel
theorem dX11_byTurns_130 : decode cX11_byTurns 130 = .ok (.invokevirtual 326, 3) := by decide +kernel
theorem dX11_byTurns_133 : decode cX11_byTurns 133 = .ok (.aload_n 0, 1) := by decide +kernel
theorem dX11_byTurns_134 : decode cX11_byTurns 134 = .ok (.iconst 1, 1) := by decide +kernel
theorem dX11_byTurns_135 : decode cX11_byTurns 135 = .ok (.iload_n 1, 1) := by decide +kernel
theorem dX11_byTurns_136 : decode cX11_byTurns 136 = .ok (.iload_n 2, 1) := by decide +kernel
theorem dX11_byTurns_137 : decode cX11_byTurns 137 = .ok (.invokevirtual 323, 3) := by decide +kernel
theorem dX11_byTurns_140 : decode cX11_byTurns 140 = .ok (.istore 8, 2) := by decide +kernel
theorem dX11_byTurns_142 : decode cX11_byTurns 142 = .ok (.aload_n 0, 1) := by decide +kernel
theorem dX11_byTurns_143 : decode cX11_byTurns 143 = .ok (.iload 7, 2) := by decide +kernel
theorem dX11_byTurns_145 : decode cX11_byTurns 145 = .ok (.iconst 2, 1) := by decide +kernel
theorem dX11_byTurns_146 : decode cX11_byTurns 146 = .ok (.invokevirtual 326, 3) := by decide +kernel
theorem dX11_byTurns_149 : decode cX11_byTurns 149 = .ok (.iload 8, 2) := by decide +kernel
theorem dX11_byTurns_151 : decode cX11_byTurns 151 = .ok (.iload 4, 2) := by decide +kernel
theorem dX11_byTurns_153 : decode cX11_byTurns 153 = .ok (.if_icmp .gt 6, 3) := by decide +kernel
theorem dX11_byTurns_156 : decode cX11_byTurns 156 = .ok (.goto 11, 3) := by decide +kernel
theorem dX11_byTurns_159 : decode cX11_byTurns 159 = .ok (.iload 8, 2) := by decide +kernel
theorem dX11_byTurns_161 : decode cX11_byTurns 161 = .ok (.istore 4, 2) := by decide +kernel
theorem dX11_byTurns_163 : decode cX11_byTurns 163 = .ok (.iload 6, 2) := by decide +kernel
theorem dX11_byTurns_165 : decode cX11_byTurns 165 = .ok (.istore 5, 2) := by decide +kernel
theorem dX11_byTurns_167 : decode cX11_byTurns 167 = .ok (.iinc 6 1, 3) := by decide +kernel
theorem dX11_byTurns_170 : decode cX11_byTurns 170 = .ok (.goto (-63), 3) := by decide +kernel
theorem dX11_byTurns_173 : decode cX11_byTurns 173 = .ok (.iload_n 3, 1) := by decide +kernel
theorem dX11_byTurns_174 : decode cX11_byTurns 174 = .ok (.ifCond .ne 8, 3) := by decide +kernel
theorem dX11_byTurns_177 : decode cX11_byTurns 177 = .ok (.iload 4, 2) := by decide +kernel
theorem dX11_byTurns_179 : decode cX11_byTurns 179 = .ok (.goto 5, 3) := by decide +kernel
theorem dX11_byTurns_182 : decode cX11_byTurns 182 = .ok (.iload 5, 2) := by decide +kernel
theorem dX11_byTurns_184 : decode cX11_byTurns 184 = .ok (.ireturn, 1) := by decide +kernel
theorem dX11_drawn_0 : decode cX11_drawn 0 = .ok (.iload_n 2, 1) := by decide +kernel
theorem dX11_drawn_1 : decode cX11_drawn 1 = .ok (.ifCond .lt 55, 3) := by decide +kernel
theorem dX11_drawn_4 : decode cX11_drawn 4 = .ok (.iload_n 2, 1) := by decide +kernel
theorem dX11_drawn_5 : decode cX11_drawn 5 = .ok (.sipush 10000, 3) := by decide +kernel
theorem dX11_drawn_8 : decode cX11_drawn 8 = .ok (.idiv, 1) := by decide +kernel
theorem dX11_drawn_9 : decode cX11_drawn 9 = .ok (.iconst 1, 1) := by decide +kernel
theorem dX11_drawn_10 : decode cX11_drawn 10 = .ok (.bipush 30, 2) := by decide +kernel
theorem dX11_drawn_12 : decode cX11_drawn 12 = .ok (.invokestatic 97, 3) := by decide +kernel
theorem dX11_drawn_15 : decode cX11_drawn 15 = .ok (.ifCond .eq 41, 3) := by decide +kernel
theorem dX11_drawn_18 : decode cX11_drawn 18 = .ok (.iload_n 2, 1) := by decide +kernel
theorem dX11_drawn_19 : decode cX11_drawn 19 = .ok (.bipush 100, 2) := by decide +kernel
theorem dX11_drawn_21 : decode cX11_drawn 21 = .ok (.idiv, 1) := by decide +kernel
theorem dX11_drawn_22 : decode cX11_drawn 22 = .ok (.bipush 100, 2) := by decide +kernel
theorem dX11_drawn_24 : decode cX11_drawn 24 = .ok (.irem, 1) := by decide +kernel
theorem dX11_drawn_25 : decode cX11_drawn 25 = .ok (.iconst 1, 1) := by decide +kernel
theorem dX11_drawn_26 : decode cX11_drawn 26 = .ok (.bipush 40, 2) := by decide +kernel
theorem dX11_drawn_28 : decode cX11_drawn 28 = .ok (.invokestatic 97, 3) := by decide +kernel
theorem dX11_drawn_31 : decode cX11_drawn 31 = .ok (.ifCond .eq 25, 3) := by decide +kernel
theorem dX11_drawn_34 : decode cX11_drawn 34 = .ok (.iload_n 2, 1) := by decide +kernel
theorem dX11_drawn_35 : decode cX11_drawn 35 = .ok (.bipush 100, 2) := by decide +kernel
theorem dX11_drawn_37 : decode cX11_drawn 37 = .ok (.irem, 1) := by decide +kernel
theorem dX11_drawn_38 : decode cX11_drawn 38 = .ok (.bipush 12, 2) := by decide +kernel
theorem dX11_drawn_40 : decode cX11_drawn 40 = .ok (.if_icmp .gt 16, 3) := by decide +kernel
theorem dX11_drawn_43 : decode cX11_drawn 43 = .ok (.iload_n 3, 1) := by decide +kernel
theorem dX11_drawn_44 : decode cX11_drawn 44 = .ok (.iconst (-1), 1) := by decide +kernel
theorem dX11_drawn_45 : decode cX11_drawn 45 = .ok (.if_icmp .eq 13, 3) := by decide +kernel
theorem dX11_drawn_48 : decode cX11_drawn 48 = .ok (.aload_n 0, 1) := by decide +kernel
theorem dX11_drawn_49 : decode cX11_drawn 49 = .ok (.iload_n 3, 1) := by decide +kernel
theorem dX11_drawn_50 : decode cX11_drawn 50 = .ok (.invokevirtual 122, 3) := by decide +kernel
theorem dX11_drawn_53 : decode cX11_drawn 53 = .ok (.ifCond .ne 5, 3) := by decide +kernel
theorem dX11_drawn_56 : decode cX11_drawn 56 = .ok (.iconst (-1), 1) := by decide +kernel
theorem dX11_drawn_57 : decode cX11_drawn 57 = .ok (.ireturn, 1) := by decide +kernel
theorem dX11_drawn_58 : decode cX11_drawn 58 = .ok (.aload_n 0, 1) := by decide +kernel
theorem dX11_drawn_59 : decode cX11_drawn 59 = .ok (.aload_n 0, 1) := by decide +kernel
theorem dX11_drawn_60 : decode cX11_drawn 60 = .ok (.getfield 91, 3) := by decide +kernel
theorem dX11_drawn_63 : decode cX11_drawn 63 = .ok (.invokevirtual 250, 3) := by decide +kernel
theorem dX11_drawn_66 : decode cX11_drawn 66 = .ok (.iload_n 1, 1) := by decide +kernel
theorem dX11_drawn_67 : decode cX11_drawn 67 = .ok (.istore 4, 2) := by decide +kernel
theorem dX11_drawn_69 : decode cX11_drawn 69 = .ok (.iconst 0, 1) := by decide +kernel
theorem dX11_drawn_70 : decode cX11_drawn 70 = .ok (.istore 5, 2) := by decide +kernel
theorem dX11_drawn_72 : decode cX11_drawn 72 = .ok (.iconst 0, 1) := by decide +kernel
theorem dX11_drawn_73 : decode cX11_drawn 73 = .ok (.istore 6, 2) := by decide +kernel
theorem dX11_drawn_75 : decode cX11_drawn 75 = .ok (.iload 6, 2) := by decide +kernel
theorem dX11_drawn_77 : decode cX11_drawn 77 = .ok (.iload_n 2, 1) := by decide +kernel
theorem dX11_drawn_78 : decode cX11_drawn 78 = .ok (.sipush 10000, 3) := by decide +kernel
theorem dX11_drawn_81 : decode cX11_drawn 81 = .ok (.idiv, 1) := by decide +kernel
theorem dX11_drawn_82 : decode cX11_drawn 82 = .ok (.if_icmp .ge 163, 3) := by decide +kernel
theorem dX11_drawn_85 : decode cX11_drawn 85 = .ok (.iconst 0, 1) := by decide +kernel
theorem dX11_drawn_86 : decode cX11_drawn 86 = .ok (.istore 7, 2) := by decide +kernel
theorem dX11_drawn_88 : decode cX11_drawn 88 = .ok (.iload 7, 2) := by decide +kernel
theorem dX11_drawn_90 : decode cX11_drawn 90 = .ok (.iload_n 2, 1) := by decide +kernel
theorem dX11_drawn_91 : decode cX11_drawn 91 = .ok (.bipush 100, 2) := by decide +kernel
theorem dX11_drawn_93 : decode cX11_drawn 93 = .ok (.idiv, 1) := by decide +kernel
theorem dX11_drawn_94 : decode cX11_drawn 94 = .ok (.bipush 100, 2) := by decide +kernel
theorem dX11_drawn_96 : decode cX11_drawn 96 = .ok (.irem, 1) := by decide +kernel
theorem dX11_drawn_97 : decode cX11_drawn 97 = .ok (.if_icmp .ge 94, 3) := by decide +kernel
theorem dX11_drawn_100 : decode cX11_drawn 100 = .ok (.iload 4, 2) := by decide +kernel
theorem dX11_drawn_102 : decode cX11_drawn 102 = .ok (.ldc_w 330, 3) := by decide +kernel
theorem dX11_drawn_105 : decode cX11_drawn 105 = .ok (.imul, 1) := by decide +kernel
theorem dX11_drawn_106 : decode cX11_drawn 106 = .ok (.sipush 12345, 3) := by decide +kernel
theorem dX11_drawn_109 : decode cX11_drawn 109 = .ok (.iadd, 1) := by decide +kernel
theorem dX11_drawn_110 : decode cX11_drawn 110 = .ok (.istore 4, 2) := by decide +kernel
theorem dX11_drawn_112 : decode cX11_drawn 112 = .ok (.iload 4, 2) := by decide +kernel
theorem dX11_drawn_114 : decode cX11_drawn 114 = .ok (.bipush 8, 2) := by decide +kernel
theorem dX11_drawn_116 : decode cX11_drawn 116 = .ok (.iushr, 1) := by decide +kernel
theorem dX11_drawn_117 : decode cX11_drawn 117 = .ok (.bipush 36, 2) := by decide +kernel
theorem dX11_drawn_119 : decode cX11_drawn 119 = .ok (.irem, 1) := by decide +kernel
theorem dX11_drawn_120 : decode cX11_drawn 120 = .ok (.istore 8, 2) := by decide +kernel
theorem dX11_drawn_122 : decode cX11_drawn 122 = .ok (.iconst 0, 1) := by decide +kernel
theorem dX11_drawn_123 : decode cX11_drawn 123 = .ok (.istore 9, 2) := by decide +kernel
theorem dX11_drawn_125 : decode cX11_drawn 125 = .ok (.iload 9, 2) := by decide +kernel
theorem dX11_drawn_127 : decode cX11_drawn 127 = .ok (.aload_n 0, 1) := by decide +kernel
theorem dX11_drawn_128 : decode cX11_drawn 128 = .ok (.getfield 101, 3) := by decide +kernel
theorem dX11_drawn_131 : decode cX11_drawn 131 = .ok (.if_icmp .ge 50, 3) := by decide +kernel
theorem dX11_drawn_134 : decode cX11_drawn 134 = .ok (.aload_n 0, 1) := by decide +kernel
theorem dX11_drawn_135 : decode cX11_drawn 135 = .ok (.getfield 21, 3) := by decide +kernel
theorem dX11_drawn_138 : decode cX11_drawn 138 = .ok (.iload 9, 2) := by decide +kernel
theorem dX11_drawn_140 : decode cX11_drawn 140 = .ok (.iaload, 1) := by decide +kernel
theorem dX11_drawn_141 : decode cX11_drawn 141 = .ok (.iload 8, 2) := by decide +kernel
theorem dX11_drawn_143 : decode cX11_drawn 143 = .ok (.if_icmp .ne 32, 3) := by decide +kernel
theorem dX11_drawn_146 : decode cX11_drawn 146 = .ok (.iload 4, 2) := by decide +kernel
theorem dX11_drawn_148 : decode cX11_drawn 148 = .ok (.bipush 16, 2) := by decide +kernel
theorem dX11_drawn_150 : decode cX11_drawn 150 = .ok (.iushr, 1) := by decide +kernel
theorem dX11_drawn_151 : decode cX11_drawn 151 = .ok (.bipush 12, 2) := by decide +kernel
theorem dX11_drawn_153 : decode cX11_drawn 153 = .ok (.irem, 1) := by decide +kernel
theorem dX11_drawn_154 : decode cX11_drawn 154 = .ok (.iload_n 2, 1) := by decide +kernel
theorem dX11_drawn_155 : decode cX11_drawn 155 = .ok (.bipush 100, 2) := by decide +kernel
theorem dX11_drawn_157 : decode cX11_drawn 157 = .ok (.irem, 1) := by decide +kernel
theorem dX11_drawn_158 : decode cX11_drawn 158 = .ok (.if_icmp .ge 17, 3) := by decide +kernel
theorem dX11_drawn_161 : decode cX11_drawn 161 = .ok (.aload_n 0, 1) := by decide +kernel
theorem dX11_drawn_162 : decode cX11_drawn 162 = .ok (.getfield 21, 3) := by decide +kernel
theorem dX11_drawn_165 : decode cX11_drawn 165 = .ok (.bipush 24, 2) := by decide +kernel
theorem dX11_drawn_167 : decode cX11_drawn 167 = .ok (.iload 9, 2) := by decide +kernel
theorem dX11_drawn_169 : decode cX11_drawn 169 = .ok (.iadd, 1) := by decide +kernel
theorem dX11_drawn_170 : decode cX11_drawn 170 = .ok (.dup2, 1) := by decide +kernel
theorem dX11_drawn_171 : decode cX11_drawn 171 = .ok (.iaload, 1) := by decide +kernel
theorem dX11_drawn_172 : decode cX11_drawn 172 = .ok (.iconst 2, 1) := by decide +kernel
theorem dX11_drawn_173 : decode cX11_drawn 173 = .ok (.idiv, 1) := by decide +kernel
theorem dX11_drawn_174 : decode cX11_drawn 174 = .ok (.iastore, 1) := by decide +kernel
theorem dX11_drawn_175 : decode cX11_drawn 175 = .ok (.iinc 9 1, 3) := by decide +kernel
theorem dX11_drawn_178 : decode cX11_drawn 178 = .ok (.goto (-53), 3) := by decide +kernel
theorem dX11_drawn_181 : decode cX11_drawn 181 = .ok (.aload_n 0, 1) := by decide +kernel
theorem dX11_drawn_182 : decode cX11_drawn 182 = .ok (.invokevirtual 244, 3) := by decide +kernel
theorem dX11_drawn_185 : decode cX11_drawn 185 = .ok (.iinc 7 1, 3) := by decide +kernel
theorem dX11_drawn_188 : decode cX11_drawn 188 = .ok (.goto (-100), 3) := by decide +kernel
theorem dX11_drawn_191 : decode cX11_drawn 191 = .ok (.iconst 0, 1) := by decide +kernel
theorem dX11_drawn_192 : decode cX11_drawn 192 = .ok (.istore 7, 2) := by decide +kernel
theorem dX11_drawn_194 : decode cX11_drawn 194 = .ok (.iload 7, 2) := by decide +kernel
theorem dX11_drawn_196 : decode cX11_drawn 196 = .ok (.aload_n 0, 1) := by decide +kernel
theorem dX11_drawn_197 : decode cX11_drawn 197 = .ok (.getfield 101, 3) := by decide +kernel
theorem dX11_drawn_200 : decode cX11_drawn 200 = .ok (.if_icmp .ge 31, 3) := by decide +kernel
theorem dX11_drawn_203 : decode cX11_drawn 203 = .ok (.iload_n 3, 1) := by decide +kernel
theorem dX11_drawn_204 : decode cX11_drawn 204 = .ok (.iconst (-1), 1) := by decide +kernel
theorem dX11_drawn_205 : decode cX11_drawn 205 = .ok (.if_icmp .eq 9, 3) := by decide +kernel
theorem dX11_drawn_208 : decode cX11_drawn 208 = .ok (.iload 7, 2) := by decide +kernel
theorem dX11_drawn_210 : decode cX11_drawn 210 = .ok (.iload_n 3, 1) := by decide +kernel
theorem dX11_drawn_211 : decode cX11_drawn 211 = .ok (.if_icmp .ne 14, 3) := by decide +kernel
theorem dX11_drawn_214 : decode cX11_drawn 214 = .ok (.iload 5, 2) := by decide +kernel
theorem dX11_drawn_216 : decode cX11_drawn 216 = .ok (.aload_n 0, 1) := by decide +kernel
theorem dX11_drawn_217 : decode cX11_drawn 217 = .ok (.iload 7, 2) := by decide +kernel
theorem dX11_drawn_219 : decode cX11_drawn 219 = .ok (.invokevirtual 258, 3) := by decide +kernel
theorem dX11_drawn_222 : decode cX11_drawn 222 = .ok (.iadd, 1) := by decide +kernel
theorem dX11_drawn_223 : decode cX11_drawn 223 = .ok (.istore 5, 2) := by decide +kernel
theorem dX11_drawn_225 : decode cX11_drawn 225 = .ok (.iinc 7 1, 3) := by decide +kernel
theorem dX11_drawn_228 : decode cX11_drawn 228 = .ok (.goto (-34), 3) := by decide +kernel
theorem dX11_drawn_231 : decode cX11_drawn 231 = .ok (.aload_n 0, 1) := by decide +kernel
theorem dX11_drawn_232 : decode cX11_drawn 232 = .ok (.aload_n 0, 1) := by decide +kernel
theorem dX11_drawn_233 : decode cX11_drawn 233 = .ok (.getfield 91, 3) := by decide +kernel
theorem dX11_drawn_236 : decode cX11_drawn 236 = .ok (.invokevirtual 261, 3) := by decide +kernel
theorem dX11_drawn_239 : decode cX11_drawn 239 = .ok (.iinc 6 1, 3) := by decide +kernel
theorem dX11_drawn_242 : decode cX11_drawn 242 = .ok (.goto (-167), 3) := by decide +kernel
theorem dX11_drawn_245 : decode cX11_drawn 245 = .ok (.iload 5, 2) := by decide +kernel
theorem dX11_drawn_247 : decode cX11_drawn 247 = .ok (.ireturn, 1) := by decide +kernel
theorem dX11_hour_0 : decode cX11_hour 0 = .ok (.aload_n 0, 1) := by decide +kernel
theorem dX11_hour_1 : decode cX11_hour 1 = .ok (.invokevirtual 244, 3) := by decide +kernel
theorem dX11_hour_4 : decode cX11_hour 4 = .ok (.aload_n 0, 1) := by decide +kernel
theorem dX11_hour_5 : decode cX11_hour 5 = .ok (.getfield 57, 3) := by decide +kernel
theorem dX11_hour_8 : decode cX11_hour 8 = .ok (.iconst 0, 1) := by decide +kernel
theorem dX11_hour_9 : decode cX11_hour 9 = .ok (.dup2, 1) := by decide +kernel
theorem dX11_hour_10 : decode cX11_hour 10 = .ok (.iaload, 1) := by decide +kernel
theorem dX11_hour_11 : decode cX11_hour 11 = .ok (.iconst 1, 1) := by decide +kernel
theorem dX11_hour_12 : decode cX11_hour 12 = .ok (.iadd, 1) := by decide +kernel
theorem dX11_hour_13 : decode cX11_hour 13 = .ok (.iastore, 1) := by decide +kernel
theorem dX11_hour_14 : decode cX11_hour 14 = .ok (.aload_n 0, 1) := by decide +kernel
theorem dX11_hour_15 : decode cX11_hour 15 = .ok (.getfield 57, 3) := by decide +kernel
theorem dX11_hour_18 : decode cX11_hour 18 = .ok (.iconst 1, 1) := by decide +kernel
theorem dX11_hour_19 : decode cX11_hour 19 = .ok (.dup2, 1) := by decide +kernel
theorem dX11_hour_20 : decode cX11_hour 20 = .ok (.iaload, 1) := by decide +kernel
theorem dX11_hour_21 : decode cX11_hour 21 = .ok (.aload_n 0, 1) := by decide +kernel
theorem dX11_hour_22 : decode cX11_hour 22 = .ok (.getfield 238, 3) := by decide +kernel
theorem dX11_hour_25 : decode cX11_hour 25 = .ok (.iadd, 1) := by decide +kernel
theorem dX11_hour_26 : decode cX11_hour 26 = .ok (.iastore, 1) := by decide +kernel
theorem dX11_hour_27 : decode cX11_hour 27 = .ok (.aload_n 0, 1) := by decide +kernel
theorem dX11_hour_28 : decode cX11_hour 28 = .ok (.getfield 57, 3) := by decide +kernel
theorem dX11_hour_31 : decode cX11_hour 31 = .ok (.iconst 2, 1) := by decide +kernel
theorem dX11_hour_32 : decode cX11_hour 32 = .ok (.dup2, 1) := by decide +kernel
theorem dX11_hour_33 : decode cX11_hour 33 = .ok (.iaload, 1) := by decide +kernel
theorem dX11_hour_34 : decode cX11_hour 34 = .ok (.aload_n 0, 1) := by decide +kernel
theorem dX11_hour_35 : decode cX11_hour 35 = .ok (.getfield 241, 3) := by decide +kernel
theorem dX11_hour_38 : decode cX11_hour 38 = .ok (.iadd, 1) := by decide +kernel
theorem dX11_hour_39 : decode cX11_hour 39 = .ok (.iastore, 1) := by decide +kernel
theorem dX11_hour_40 : decode cX11_hour 40 = .ok (.aload_n 0, 1) := by decide +kernel
theorem dX11_hour_41 : decode cX11_hour 41 = .ok (.getfield 238, 3) := by decide +kernel
theorem dX11_hour_44 : decode cX11_hour 44 = .ok (.ireturn, 1) := by decide +kernel
theorem dX11_pour_0 : decode cX11_pour 0 = .ok (.iload_n 1, 1) := by decide +kernel
theorem dX11_pour_1 : decode cX11_pour 1 = .ok (.invokestatic 105, 3) := by decide +kernel
theorem dX11_pour_4 : decode cX11_pour 4 = .ok (.ifCond .eq 14, 3) := by decide +kernel
theorem dX11_pour_7 : decode cX11_pour 7 = .ok (.iload_n 2, 1) := by decide +kernel
theorem dX11_pour_8 : decode cX11_pour 8 = .ok (.iconst 1, 1) := by decide +kernel
theorem dX11_pour_9 : decode cX11_pour 9 = .ok (.sipush 9999, 3) := by decide +kernel
theorem dX11_pour_12 : decode cX11_pour 12 = .ok (.invokestatic 97, 3) := by decide +kernel
theorem dX11_pour_15 : decode cX11_pour 15 = .ok (.ifCond .ne 5, 3) := by decide +kernel
theorem dX11_pour_18 : decode cX11_pour 18 = .ok (.iconst (-1), 1) := by decide +kernel
theorem dX11_pour_19 : decode cX11_pour 19 = .ok (.ireturn, 1) := by decide +kernel
theorem dX11_pour_20 : decode cX11_pour 20 = .ok (.aload_n 0, 1) := by decide +kernel
theorem dX11_pour_21 : decode cX11_pour 21 = .ok (.getfield 15, 3) := by decide +kernel
theorem dX11_pour_24 : decode cX11_pour 24 = .ok (.iload_n 1, 1) := by decide +kernel
theorem dX11_pour_25 : decode cX11_pour 25 = .ok (.sipush 9999, 3) := by decide +kernel
theorem dX11_pour_28 : decode cX11_pour 28 = .ok (.aload_n 0, 1) := by decide +kernel
theorem dX11_pour_29 : decode cX11_pour 29 = .ok (.getfield 15, 3) := by decide +kernel
theorem dX11_pour_32 : decode cX11_pour 32 = .ok (.iload_n 1, 1) := by decide +kernel
theorem dX11_pour_33 : decode cX11_pour 33 = .ok (.iaload, 1) := by decide +kernel
theorem dX11_pour_34 : decode cX11_pour 34 = .ok (.iload_n 2, 1) := by decide +kernel
theorem dX11_pour_35 : decode cX11_pour 35 = .ok (.iadd, 1) := by decide +kernel
theorem dX11_pour_36 : decode cX11_pour 36 = .ok (.invokestatic 227, 3) := by decide +kernel
theorem dX11_pour_39 : decode cX11_pour 39 = .ok (.iastore, 1) := by decide +kernel
theorem dX11_pour_40 : decode cX11_pour 40 = .ok (.aload_n 0, 1) := by decide +kernel
theorem dX11_pour_41 : decode cX11_pour 41 = .ok (.getfield 57, 3) := by decide +kernel
theorem dX11_pour_44 : decode cX11_pour 44 = .ok (.iconst 3, 1) := by decide +kernel
theorem dX11_pour_45 : decode cX11_pour 45 = .ok (.dup2, 1) := by decide +kernel
theorem dX11_pour_46 : decode cX11_pour 46 = .ok (.iaload, 1) := by decide +kernel
theorem dX11_pour_47 : decode cX11_pour 47 = .ok (.iload_n 2, 1) := by decide +kernel
theorem dX11_pour_48 : decode cX11_pour 48 = .ok (.iadd, 1) := by decide +kernel
theorem dX11_pour_49 : decode cX11_pour 49 = .ok (.iastore, 1) := by decide +kernel
theorem dX11_pour_50 : decode cX11_pour 50 = .ok (.aload_n 0, 1) := by decide +kernel
theorem dX11_pour_51 : decode cX11_pour 51 = .ok (.getfield 15, 3) := by decide +kernel
theorem dX11_pour_54 : decode cX11_pour 54 = .ok (.iload_n 1, 1) := by decide +kernel
theorem dX11_pour_55 : decode cX11_pour 55 = .ok (.iaload, 1) := by decide +kernel
theorem dX11_pour_56 : decode cX11_pour 56 = .ok (.ireturn, 1) := by decide +kernel
theorem dX11_hang_0 : decode cX11_hang 0 = .ok (.iload_n 1, 1) := by decide +kernel
theorem dX11_hang_1 : decode cX11_hang 1 = .ok (.invokestatic 105, 3) := by decide +kernel
theorem dX11_hang_4 : decode cX11_hang 4 = .ok (.ifCond .eq 12, 3) := by decide +kernel
theorem dX11_hang_7 : decode cX11_hang 7 = .ok (.iload_n 2, 1) := by decide +kernel
theorem dX11_hang_8 : decode cX11_hang 8 = .ok (.iconst 0, 1) := by decide +kernel
theorem dX11_hang_9 : decode cX11_hang 9 = .ok (.iconst 2, 1) := by decide +kernel
theorem dX11_hang_10 : decode cX11_hang 10 = .ok (.invokestatic 97, 3) := by decide +kernel
theorem dX11_hang_13 : decode cX11_hang 13 = .ok (.ifCond .ne 5, 3) := by decide +kernel
theorem dX11_hang_16 : decode cX11_hang 16 = .ok (.iconst (-1), 1) := by decide +kernel
theorem dX11_hang_17 : decode cX11_hang 17 = .ok (.ireturn, 1) := by decide +kernel
theorem dX11_hang_18 : decode cX11_hang 18 = .ok (.aload_n 0, 1) := by decide +kernel
theorem dX11_hang_19 : decode cX11_hang 19 = .ok (.getfield 18, 3) := by decide +kernel
theorem dX11_hang_22 : decode cX11_hang 22 = .ok (.iload_n 1, 1) := by decide +kernel
theorem dX11_hang_23 : decode cX11_hang 23 = .ok (.iaload, 1) := by decide +kernel
theorem dX11_hang_24 : decode cX11_hang 24 = .ok (.istore_n 3, 1) := by decide +kernel
theorem dX11_hang_25 : decode cX11_hang 25 = .ok (.aload_n 0, 1) := by decide +kernel
theorem dX11_hang_26 : decode cX11_hang 26 = .ok (.getfield 18, 3) := by decide +kernel
theorem dX11_hang_29 : decode cX11_hang 29 = .ok (.iload_n 1, 1) := by decide +kernel
theorem dX11_hang_30 : decode cX11_hang 30 = .ok (.iload_n 2, 1) := by decide +kernel
theorem dX11_hang_31 : decode cX11_hang 31 = .ok (.iastore, 1) := by decide +kernel
theorem dX11_hang_32 : decode cX11_hang 32 = .ok (.aload_n 0, 1) := by decide +kernel
theorem dX11_hang_33 : decode cX11_hang 33 = .ok (.getfield 57, 3) := by decide +kernel
theorem dX11_hang_36 : decode cX11_hang 36 = .ok (.iconst 4, 1) := by decide +kernel
theorem dX11_hang_37 : decode cX11_hang 37 = .ok (.dup2, 1) := by decide +kernel
theorem dX11_hang_38 : decode cX11_hang 38 = .ok (.iaload, 1) := by decide +kernel
theorem dX11_hang_39 : decode cX11_hang 39 = .ok (.iconst 1, 1) := by decide +kernel
theorem dX11_hang_40 : decode cX11_hang 40 = .ok (.iadd, 1) := by decide +kernel
theorem dX11_hang_41 : decode cX11_hang 41 = .ok (.iastore, 1) := by decide +kernel
theorem dX11_hang_42 : decode cX11_hang 42 = .ok (.iload_n 3, 1) := by decide +kernel
theorem dX11_hang_43 : decode cX11_hang 43 = .ok (.ireturn, 1) := by decide +kernel
theorem dX11_moves_0 : decode cX11_moves 0 = .ok (.aload_n 0, 1) := by decide +kernel
theorem dX11_moves_1 : decode cX11_moves 1 = .ok (.iload_n 1, 1) := by decide +kernel
theorem dX11_moves_2 : decode cX11_moves 2 = .ok (.invokevirtual 122, 3) := by decide +kernel
theorem dX11_moves_5 : decode cX11_moves 5 = .ok (.ifCond .eq 10, 3) := by decide +kernel
theorem dX11_moves_8 : decode cX11_moves 8 = .ok (.iload_n 2, 1) := by decide +kernel
theorem dX11_moves_9 : decode cX11_moves 9 = .ok (.invokestatic 105, 3) := by decide +kernel
theorem dX11_moves_12 : decode cX11_moves 12 = .ok (.ifCond .ne 5, 3) := by decide +kernel
theorem dX11_moves_15 : decode cX11_moves 15 = .ok (.iconst (-1), 1) := by decide +kernel
theorem dX11_moves_16 : decode cX11_moves 16 = .ok (.ireturn, 1) := by decide +kernel
theorem dX11_moves_17 : decode cX11_moves 17 = .ok (.aload_n 0, 1) := by decide +kernel
theorem dX11_moves_18 : decode cX11_moves 18 = .ok (.getfield 21, 3) := by decide +kernel
theorem dX11_moves_21 : decode cX11_moves 21 = .ok (.iload_n 1, 1) := by decide +kernel
theorem dX11_moves_22 : decode cX11_moves 22 = .ok (.iaload, 1) := by decide +kernel
theorem dX11_moves_23 : decode cX11_moves 23 = .ok (.istore_n 3, 1) := by decide +kernel
theorem dX11_moves_24 : decode cX11_moves 24 = .ok (.aload_n 0, 1) := by decide +kernel
theorem dX11_moves_25 : decode cX11_moves 25 = .ok (.getfield 21, 3) := by decide +kernel
theorem dX11_moves_28 : decode cX11_moves 28 = .ok (.iload_n 1, 1) := by decide +kernel
theorem dX11_moves_29 : decode cX11_moves 29 = .ok (.iload_n 2, 1) := by decide +kernel
theorem dX11_moves_30 : decode cX11_moves 30 = .ok (.iastore, 1) := by decide +kernel
theorem dX11_moves_31 : decode cX11_moves 31 = .ok (.iload_n 3, 1) := by decide +kernel
theorem dX11_moves_32 : decode cX11_moves 32 = .ok (.ireturn, 1) := by decide +kernel
theorem dX11_led_0 : decode cX11_led 0 = .ok (.iload_n 1, 1) := by decide +kernel
theorem dX11_led_1 : decode cX11_led 1 = .ok (.iconst 0, 1) := by decide +kernel
theorem dX11_led_2 : decode cX11_led 2 = .ok (.iconst 4, 1) := by decide +kernel
theorem dX11_led_3 : decode cX11_led 3 = .ok (.invokestatic 97, 3) := by decide +kernel
theorem dX11_led_6 : decode cX11_led 6 = .ok (.ifCond .eq 12, 3) := by decide +kernel
theorem dX11_led_9 : decode cX11_led 9 = .ok (.aload_n 0, 1) := by decide +kernel
theorem dX11_led_10 : decode cX11_led 10 = .ok (.getfield 57, 3) := by decide +kernel
theorem dX11_led_13 : decode cX11_led 13 = .ok (.iload_n 1, 1) := by decide +kernel
theorem dX11_led_14 : decode cX11_led 14 = .ok (.iaload, 1) := by decide +kernel
theorem dX11_led_15 : decode cX11_led 15 = .ok (.goto 4, 3) := by decide +kernel
theorem dX11_led_18 : decode cX11_led 18 = .ok (.iconst (-1), 1) := by decide +kernel
theorem dX11_led_19 : decode cX11_led 19 = .ok (.ireturn, 1) := by decide +kernel
theorem dX11_image_0 : decode cX11_image 0 = .ok (.aload_n 0, 1) := by decide +kernel
theorem dX11_image_1 : decode cX11_image 1 = .ok (.iconst 1, 1) := by decide +kernel
theorem dX11_image_2 : decode cX11_image 2 = .ok (.putfield 331, 3) := by decide +kernel
theorem dX11_image_5 : decode cX11_image 5 = .ok (.aload_n 0, 1) := by decide +kernel
theorem dX11_image_6 : decode cX11_image 6 = .ok (.aload_n 0, 1) := by decide +kernel
theorem dX11_image_7 : decode cX11_image 7 = .ok (.getfield 101, 3) := by decide +kernel
theorem dX11_image_10 : decode cX11_image 10 = .ok (.putfield 334, 3) := by decide +kernel
theorem dX11_image_13 : decode cX11_image 13 = .ok (.aload_n 0, 1) := by decide +kernel
theorem dX11_image_14 : decode cX11_image 14 = .ok (.aload_n 0, 1) := by decide +kernel
theorem dX11_image_15 : decode cX11_image 15 = .ok (.getfield 60, 3) := by decide +kernel
theorem dX11_image_18 : decode cX11_image 18 = .ok (.invokevirtual 250, 3) := by decide +kernel
theorem dX11_image_21 : decode cX11_image 21 = .ok (.iconst 0, 1) := by decide +kernel
theorem dX11_image_22 : decode cX11_image 22 = .ok (.istore_n 1, 1) := by decide +kernel
theorem dX11_image_23 : decode cX11_image 23 = .ok (.iload_n 1, 1) := by decide +kernel
theorem dX11_image_24 : decode cX11_image 24 = .ok (.iconst 5, 1) := by decide +kernel
theorem dX11_image_25 : decode cX11_image 25 = .ok (.if_icmp .ge 21, 3) := by decide +kernel
theorem dX11_image_28 : decode cX11_image 28 = .ok (.aload_n 0, 1) := by decide +kernel
theorem dX11_image_29 : decode cX11_image 29 = .ok (.getfield 63, 3) := by decide +kernel
theorem dX11_image_32 : decode cX11_image 32 = .ok (.iload_n 1, 1) := by decide +kernel
theorem dX11_image_33 : decode cX11_image 33 = .ok (.aload_n 0, 1) := by decide +kernel
theorem dX11_image_34 : decode cX11_image 34 = .ok (.getfield 57, 3) := by decide +kernel
theorem dX11_image_37 : decode cX11_image 37 = .ok (.iload_n 1, 1) := by decide +kernel
theorem dX11_image_38 : decode cX11_image 38 = .ok (.iaload, 1) := by decide +kernel
theorem dX11_image_39 : decode cX11_image 39 = .ok (.iastore, 1) := by decide +kernel
theorem dX11_image_40 : decode cX11_image 40 = .ok (.iinc 1 1, 3) := by decide +kernel
theorem dX11_image_43 : decode cX11_image 43 = .ok (.goto (-20), 3) := by decide +kernel
theorem dX11_image_46 : decode cX11_image 46 = .ok (.aload_n 0, 1) := by decide +kernel
theorem dX11_image_47 : decode cX11_image 47 = .ok (.getfield 57, 3) := by decide +kernel
theorem dX11_image_50 : decode cX11_image 50 = .ok (.iconst 0, 1) := by decide +kernel
theorem dX11_image_51 : decode cX11_image 51 = .ok (.iaload, 1) := by decide +kernel
theorem dX11_image_52 : decode cX11_image 52 = .ok (.ireturn, 1) := by decide +kernel
theorem dX11_back_0 : decode cX11_back 0 = .ok (.aload_n 0, 1) := by decide +kernel
theorem dX11_back_1 : decode cX11_back 1 = .ok (.getfield 331, 3) := by decide +kernel
theorem dX11_back_4 : decode cX11_back 4 = .ok (.ifCond .ne 6, 3) := by decide +kernel
theorem dX11_back_7 : decode cX11_back 7 = .ok (.bipush (-5), 2) := by decide +kernel
theorem dX11_back_9 : decode cX11_back 9 = .ok (.ireturn, 1) := by decide +kernel
theorem dX11_back_10 : decode cX11_back 10 = .ok (.iconst 0, 1) := by decide +kernel
theorem dX11_back_11 : decode cX11_back 11 = .ok (.istore_n 1, 1) := by decide +kernel
theorem dX11_back_12 : decode cX11_back 12 = .ok (.iload_n 1, 1) := by decide +kernel
theorem dX11_back_13 : decode cX11_back 13 = .ok (.bipush 36, 2) := by decide +kernel
theorem dX11_back_15 : decode cX11_back 15 = .ok (.if_icmp .ge 36, 3) := by decide +kernel
theorem dX11_back_18 : decode cX11_back 18 = .ok (.aload_n 0, 1) := by decide +kernel
theorem dX11_back_19 : decode cX11_back 19 = .ok (.getfield 15, 3) := by decide +kernel
theorem dX11_back_22 : decode cX11_back 22 = .ok (.iload_n 1, 1) := by decide +kernel
theorem dX11_back_23 : decode cX11_back 23 = .ok (.aload_n 0, 1) := by decide +kernel
theorem dX11_back_24 : decode cX11_back 24 = .ok (.getfield 60, 3) := by decide +kernel
theorem dX11_back_27 : decode cX11_back 27 = .ok (.iload_n 1, 1) := by decide +kernel
theorem dX11_back_28 : decode cX11_back 28 = .ok (.iaload, 1) := by decide +kernel
theorem dX11_back_29 : decode cX11_back 29 = .ok (.iastore, 1) := by decide +kernel
theorem dX11_back_30 : decode cX11_back 30 = .ok (.aload_n 0, 1) := by decide +kernel
theorem dX11_back_31 : decode cX11_back 31 = .ok (.getfield 18, 3) := by decide +kernel
theorem dX11_back_34 : decode cX11_back 34 = .ok (.iload_n 1, 1) := by decide +kernel
theorem dX11_back_35 : decode cX11_back 35 = .ok (.aload_n 0, 1) := by decide +kernel
theorem dX11_back_36 : decode cX11_back 36 = .ok (.getfield 60, 3) := by decide +kernel
theorem dX11_back_39 : decode cX11_back 39 = .ok (.bipush 36, 2) := by decide +kernel
theorem dX11_back_41 : decode cX11_back 41 = .ok (.iload_n 1, 1) := by decide +kernel
theorem dX11_back_42 : decode cX11_back 42 = .ok (.iadd, 1) := by decide +kernel
theorem dX11_back_43 : decode cX11_back 43 = .ok (.iaload, 1) := by decide +kernel
theorem dX11_back_44 : decode cX11_back 44 = .ok (.iastore, 1) := by decide +kernel
theorem dX11_back_45 : decode cX11_back 45 = .ok (.iinc 1 1, 3) := by decide +kernel
theorem dX11_back_48 : decode cX11_back 48 = .ok (.goto (-36), 3) := by decide +kernel
theorem dX11_back_51 : decode cX11_back 51 = .ok (.iconst 0, 1) := by decide +kernel
theorem dX11_back_52 : decode cX11_back 52 = .ok (.istore_n 1, 1) := by decide +kernel
theorem dX11_back_53 : decode cX11_back 53 = .ok (.iload_n 1, 1) := by decide +kernel
theorem dX11_back_54 : decode cX11_back 54 = .ok (.aload_n 0, 1) := by decide +kernel
theorem dX11_back_55 : decode cX11_back 55 = .ok (.getfield 334, 3) := by decide +kernel
theorem dX11_back_58 : decode cX11_back 58 = .ok (.if_icmp .ge 42, 3) := by decide +kernel
theorem dX11_back_61 : decode cX11_back 61 = .ok (.aload_n 0, 1) := by decide +kernel
theorem dX11_back_62 : decode cX11_back 62 = .ok (.getfield 21, 3) := by decide +kernel
theorem dX11_back_65 : decode cX11_back 65 = .ok (.iload_n 1, 1) := by decide +kernel
theorem dX11_back_66 : decode cX11_back 66 = .ok (.aload_n 0, 1) := by decide +kernel
theorem dX11_back_67 : decode cX11_back 67 = .ok (.getfield 60, 3) := by decide +kernel
theorem dX11_back_70 : decode cX11_back 70 = .ok (.bipush 72, 2) := by decide +kernel
theorem dX11_back_72 : decode cX11_back 72 = .ok (.iload_n 1, 1) := by decide +kernel
theorem dX11_back_73 : decode cX11_back 73 = .ok (.iadd, 1) := by decide +kernel
theorem dX11_back_74 : decode cX11_back 74 = .ok (.iaload, 1) := by decide +kernel
theorem dX11_back_75 : decode cX11_back 75 = .ok (.iastore, 1) := by decide +kernel
theorem dX11_back_76 : decode cX11_back 76 = .ok (.aload_n 0, 1) := by decide +kernel
theorem dX11_back_77 : decode cX11_back 77 = .ok (.getfield 21, 3) := by decide +kernel
theorem dX11_back_80 : decode cX11_back 80 = .ok (.bipush 24, 2) := by decide +kernel
theorem dX11_back_82 : decode cX11_back 82 = .ok (.iload_n 1, 1) := by decide +kernel
theorem dX11_back_83 : decode cX11_back 83 = .ok (.iadd, 1) := by decide +kernel
theorem dX11_back_84 : decode cX11_back 84 = .ok (.aload_n 0, 1) := by decide +kernel
theorem dX11_back_85 : decode cX11_back 85 = .ok (.getfield 60, 3) := by decide +kernel
theorem dX11_back_88 : decode cX11_back 88 = .ok (.bipush 96, 2) := by decide +kernel
theorem dX11_back_90 : decode cX11_back 90 = .ok (.iload_n 1, 1) := by decide +kernel
theorem dX11_back_91 : decode cX11_back 91 = .ok (.iadd, 1) := by decide +kernel
theorem dX11_back_92 : decode cX11_back 92 = .ok (.iaload, 1) := by decide +kernel
theorem dX11_back_93 : decode cX11_back 93 = .ok (.iastore, 1) := by decide +kernel
theorem dX11_back_94 : decode cX11_back 94 = .ok (.iinc 1 1, 3) := by decide +kernel
theorem dX11_back_97 : decode cX11_back 97 = .ok (.goto (-44), 3) := by decide +kernel
theorem dX11_back_100 : decode cX11_back 100 = .ok (.aload_n 0, 1) := by decide +kernel
theorem dX11_back_101 : decode cX11_back 101 = .ok (.aload_n 0, 1) := by decide +kernel
theorem dX11_back_102 : decode cX11_back 102 = .ok (.getfield 60, 3) := by decide +kernel
theorem dX11_back_105 : decode cX11_back 105 = .ok (.bipush 104, 2) := by decide +kernel
theorem dX11_back_107 : decode cX11_back 107 = .ok (.iaload, 1) := by decide +kernel
theorem dX11_back_108 : decode cX11_back 108 = .ok (.putfield 125, 3) := by decide +kernel
theorem dX11_back_111 : decode cX11_back 111 = .ok (.iconst 0, 1) := by decide +kernel
theorem dX11_back_112 : decode cX11_back 112 = .ok (.istore_n 1, 1) := by decide +kernel
theorem dX11_back_113 : decode cX11_back 113 = .ok (.iload_n 1, 1) := by decide +kernel
theorem dX11_back_114 : decode cX11_back 114 = .ok (.iconst 5, 1) := by decide +kernel
theorem dX11_back_115 : decode cX11_back 115 = .ok (.if_icmp .ge 21, 3) := by decide +kernel
theorem dX11_back_118 : decode cX11_back 118 = .ok (.aload_n 0, 1) := by decide +kernel
theorem dX11_back_119 : decode cX11_back 119 = .ok (.getfield 57, 3) := by decide +kernel
theorem dX11_back_122 : decode cX11_back 122 = .ok (.iload_n 1, 1) := by decide +kernel
theorem dX11_back_123 : decode cX11_back 123 = .ok (.aload_n 0, 1) := by decide +kernel
theorem dX11_back_124 : decode cX11_back 124 = .ok (.getfield 63, 3) := by decide +kernel
theorem dX11_back_127 : decode cX11_back 127 = .ok (.iload_n 1, 1) := by decide +kernel
theorem dX11_back_128 : decode cX11_back 128 = .ok (.iaload, 1) := by decide +kernel
theorem dX11_back_129 : decode cX11_back 129 = .ok (.iastore, 1) := by decide +kernel
theorem dX11_back_130 : decode cX11_back 130 = .ok (.iinc 1 1, 3) := by decide +kernel
theorem dX11_back_133 : decode cX11_back 133 = .ok (.goto (-20), 3) := by decide +kernel
theorem dX11_back_136 : decode cX11_back 136 = .ok (.aload_n 0, 1) := by decide +kernel
theorem dX11_back_137 : decode cX11_back 137 = .ok (.getfield 57, 3) := by decide +kernel
theorem dX11_back_140 : decode cX11_back 140 = .ok (.iconst 0, 1) := by decide +kernel
theorem dX11_back_141 : decode cX11_back 141 = .ok (.iaload, 1) := by decide +kernel
theorem dX11_back_142 : decode cX11_back 142 = .ok (.ireturn, 1) := by decide +kernel
theorem dX11_above__0 : decode cX11_above_ 0 = .ok (.iload_n 0, 1) := by decide +kernel
theorem dX11_above__1 : decode cX11_above_ 1 = .ok (.tableswitch 43 3 7 #[35, 37, 39, 43, 41], 35) := by decide +kernel
theorem dX11_above__36 : decode cX11_above_ 36 = .ok (.iconst 2, 1) := by decide +kernel
theorem dX11_above__37 : decode cX11_above_ 37 = .ok (.ireturn, 1) := by decide +kernel
theorem dX11_above__38 : decode cX11_above_ 38 = .ok (.iconst 1, 1) := by decide +kernel
theorem dX11_above__39 : decode cX11_above_ 39 = .ok (.ireturn, 1) := by decide +kernel
theorem dX11_above__40 : decode cX11_above_ 40 = .ok (.iconst 3, 1) := by decide +kernel
theorem dX11_above__41 : decode cX11_above_ 41 = .ok (.ireturn, 1) := by decide +kernel
theorem dX11_above__42 : decode cX11_above_ 42 = .ok (.iconst 4, 1) := by decide +kernel
theorem dX11_above__43 : decode cX11_above_ 43 = .ok (.ireturn, 1) := by decide +kernel
theorem dX11_above__44 : decode cX11_above_ 44 = .ok (.iconst 0, 1) := by decide +kernel
theorem dX11_above__45 : decode cX11_above_ 45 = .ok (.ireturn, 1) := by decide +kernel
theorem dX11_ran_0 : decode cX11_ran 0 = .ok (.aload_n 0, 1) := by decide +kernel
theorem dX11_ran_1 : decode cX11_ran 1 = .ok (.getfield 337, 3) := by decide +kernel
theorem dX11_ran_4 : decode cX11_ran 4 = .ok (.bipush 24, 2) := by decide +kernel
theorem dX11_ran_6 : decode cX11_ran 6 = .ok (.if_icmp .ge 13, 3) := by decide +kernel
theorem dX11_ran_9 : decode cX11_ran 9 = .ok (.aload_n 0, 1) := by decide +kernel
theorem dX11_ran_10 : decode cX11_ran 10 = .ok (.getfield 72, 3) := by decide +kernel
theorem dX11_ran_13 : decode cX11_ran 13 = .ok (.aload_n 0, 1) := by decide +kernel
theorem dX11_ran_14 : decode cX11_ran 14 = .ok (.getfield 337, 3) := by decide +kernel
theorem dX11_ran_17 : decode cX11_ran 17 = .ok (.iload_n 1, 1) := by decide +kernel
theorem dX11_ran_18 : decode cX11_ran 18 = .ok (.iastore, 1) := by decide +kernel
theorem dX11_ran_19 : decode cX11_ran 19 = .ok (.aload_n 0, 1) := by decide +kernel
theorem dX11_ran_20 : decode cX11_ran 20 = .ok (.dup, 1) := by decide +kernel
theorem dX11_ran_21 : decode cX11_ran 21 = .ok (.getfield 337, 3) := by decide +kernel
theorem dX11_ran_24 : decode cX11_ran 24 = .ok (.iconst 1, 1) := by decide +kernel
theorem dX11_ran_25 : decode cX11_ran 25 = .ok (.iadd, 1) := by decide +kernel
theorem dX11_ran_26 : decode cX11_ran 26 = .ok (.putfield 337, 3) := by decide +kernel
theorem dX11_ran_29 : decode cX11_ran 29 = .ok (.return_, 1) := by decide +kernel
theorem dX11_runsBy_0 : decode cX11_runsBy 0 = .ok (.iload_n 2, 1) := by decide +kernel
theorem dX11_runsBy_1 : decode cX11_runsBy 1 = .ok (.lookupswitch 76 #[(0, 35), (1, 44), (6, 60)], 35) := by decide +kernel
theorem dX11_runsBy_36 : decode cX11_runsBy 36 = .ok (.aload_n 0, 1) := by decide +kernel
theorem dX11_runsBy_37 : decode cX11_runsBy 37 = .ok (.iconst 1, 1) := by decide +kernel
theorem dX11_runsBy_38 : decode cX11_runsBy 38 = .ok (.invokevirtual 340, 3) := by decide +kernel
theorem dX11_runsBy_41 : decode cX11_runsBy 41 = .ok (.iload_n 3, 1) := by decide +kernel
theorem dX11_runsBy_42 : decode cX11_runsBy 42 = .ok (.iload_n 1, 1) := by decide +kernel
theorem dX11_runsBy_43 : decode cX11_runsBy 43 = .ok (.iadd, 1) := by decide +kernel
theorem dX11_runsBy_44 : decode cX11_runsBy 44 = .ok (.ireturn, 1) := by decide +kernel
theorem dX11_runsBy_45 : decode cX11_runsBy 45 = .ok (.aload_n 0, 1) := by decide +kernel
theorem dX11_runsBy_46 : decode cX11_runsBy 46 = .ok (.bipush 20, 2) := by decide +kernel
theorem dX11_runsBy_48 : decode cX11_runsBy 48 = .ok (.invokevirtual 340, 3) := by decide +kernel
theorem dX11_runsBy_51 : decode cX11_runsBy 51 = .ok (.aload_n 0, 1) := by decide +kernel
theorem dX11_runsBy_52 : decode cX11_runsBy 52 = .ok (.iload_n 1, 1) := by decide +kernel
theorem dX11_runsBy_53 : decode cX11_runsBy 53 = .ok (.iconst 0, 1) := by decide +kernel
theorem dX11_runsBy_54 : decode cX11_runsBy 54 = .ok (.iload_n 3, 1) := by decide +kernel
theorem dX11_runsBy_55 : decode cX11_runsBy 55 = .ok (.invokevirtual 342, 3) := by decide +kernel
theorem dX11_runsBy_58 : decode cX11_runsBy 58 = .ok (.iconst 3, 1) := by decide +kernel
theorem dX11_runsBy_59 : decode cX11_runsBy 59 = .ok (.iadd, 1) := by decide +kernel
theorem dX11_runsBy_60 : decode cX11_runsBy 60 = .ok (.ireturn, 1) := by decide +kernel
theorem dX11_runsBy_61 : decode cX11_runsBy 61 = .ok (.aload_n 0, 1) := by decide +kernel
theorem dX11_runsBy_62 : decode cX11_runsBy 62 = .ok (.bipush 70, 2) := by decide +kernel
theorem dX11_runsBy_64 : decode cX11_runsBy 64 = .ok (.invokevirtual 340, 3) := by decide +kernel
theorem dX11_runsBy_67 : decode cX11_runsBy 67 = .ok (.aload_n 0, 1) := by decide +kernel
theorem dX11_runsBy_68 : decode cX11_runsBy 68 = .ok (.iload_n 1, 1) := by decide +kernel
theorem dX11_runsBy_69 : decode cX11_runsBy 69 = .ok (.iconst 0, 1) := by decide +kernel
theorem dX11_runsBy_70 : decode cX11_runsBy 70 = .ok (.iload_n 3, 1) := by decide +kernel
theorem dX11_runsBy_71 : decode cX11_runsBy 71 = .ok (.invokevirtual 342, 3) := by decide +kernel
theorem dX11_runsBy_74 : decode cX11_runsBy 74 = .ok (.iconst 2, 1) := by decide +kernel
theorem dX11_runsBy_75 : decode cX11_runsBy 75 = .ok (.imul, 1) := by decide +kernel
theorem dX11_runsBy_76 : decode cX11_runsBy 76 = .ok (.ireturn, 1) := by decide +kernel
theorem dX11_runsBy_77 : decode cX11_runsBy 77 = .ok (.aload_n 0, 1) := by decide +kernel
theorem dX11_runsBy_78 : decode cX11_runsBy 78 = .ok (.iload_n 1, 1) := by decide +kernel
theorem dX11_runsBy_79 : decode cX11_runsBy 79 = .ok (.iload_n 2, 1) := by decide +kernel
theorem dX11_runsBy_80 : decode cX11_runsBy 80 = .ok (.invokestatic 345, 3) := by decide +kernel
theorem dX11_runsBy_83 : decode cX11_runsBy 83 = .ok (.iload_n 3, 1) := by decide +kernel
theorem dX11_runsBy_84 : decode cX11_runsBy 84 = .ok (.invokevirtual 342, 3) := by decide +kernel
theorem dX11_runsBy_87 : decode cX11_runsBy 87 = .ok (.ireturn, 1) := by decide +kernel
theorem dX11_holdsBy_0 : decode cX11_holdsBy 0 = .ok (.iload_n 2, 1) := by decide +kernel
theorem dX11_holdsBy_1 : decode cX11_holdsBy 1 = .ok (.tableswitch 130 0 7 #[47, 130, 68, 83, 130, 130, 130, 99], 47) := by decide +kernel
theorem dX11_holdsBy_48 : decode cX11_holdsBy 48 = .ok (.aload_n 0, 1) := by decide +kernel
theorem dX11_holdsBy_49 : decode cX11_holdsBy 49 = .ok (.bipush 10, 2) := by decide +kernel
theorem dX11_holdsBy_51 : decode cX11_holdsBy 51 = .ok (.invokevirtual 340, 3) := by decide +kernel
theorem dX11_holdsBy_54 : decode cX11_holdsBy 54 = .ok (.aload_n 0, 1) := by decide +kernel
theorem dX11_holdsBy_55 : decode cX11_holdsBy 55 = .ok (.iload_n 1, 1) := by decide +kernel
theorem dX11_holdsBy_56 : decode cX11_holdsBy 56 = .ok (.aload_n 0, 1) := by decide +kernel
theorem dX11_holdsBy_57 : decode cX11_holdsBy 57 = .ok (.getfield 69, 3) := by decide +kernel
theorem dX11_holdsBy_60 : decode cX11_holdsBy 60 = .ok (.iload_n 1, 1) := by decide +kernel
theorem dX11_holdsBy_61 : decode cX11_holdsBy 61 = .ok (.iaload, 1) := by decide +kernel
theorem dX11_holdsBy_62 : decode cX11_holdsBy 62 = .ok (.iload_n 3, 1) := by decide +kernel
theorem dX11_holdsBy_63 : decode cX11_holdsBy 63 = .ok (.invokevirtual 342, 3) := by decide +kernel
theorem dX11_holdsBy_66 : decode cX11_holdsBy 66 = .ok (.iconst 2, 1) := by decide +kernel
theorem dX11_holdsBy_67 : decode cX11_holdsBy 67 = .ok (.imul, 1) := by decide +kernel
theorem dX11_holdsBy_68 : decode cX11_holdsBy 68 = .ok (.ireturn, 1) := by decide +kernel
theorem dX11_holdsBy_69 : decode cX11_holdsBy 69 = .ok (.aload_n 0, 1) := by decide +kernel
theorem dX11_holdsBy_70 : decode cX11_holdsBy 70 = .ok (.bipush 30, 2) := by decide +kernel
theorem dX11_holdsBy_72 : decode cX11_holdsBy 72 = .ok (.invokevirtual 340, 3) := by decide +kernel
theorem dX11_holdsBy_75 : decode cX11_holdsBy 75 = .ok (.aload_n 0, 1) := by decide +kernel
theorem dX11_holdsBy_76 : decode cX11_holdsBy 76 = .ok (.iload_n 1, 1) := by decide +kernel
theorem dX11_holdsBy_77 : decode cX11_holdsBy 77 = .ok (.iconst 0, 1) := by decide +kernel
theorem dX11_holdsBy_78 : decode cX11_holdsBy 78 = .ok (.iload_n 3, 1) := by decide +kernel
theorem dX11_holdsBy_79 : decode cX11_holdsBy 79 = .ok (.invokevirtual 347, 3) := by decide +kernel
theorem dX11_holdsBy_82 : decode cX11_holdsBy 82 = .ok (.ineg, 1) := by decide +kernel
theorem dX11_holdsBy_83 : decode cX11_holdsBy 83 = .ok (.ireturn, 1) := by decide +kernel
theorem dX11_holdsBy_84 : decode cX11_holdsBy 84 = .ok (.aload_n 0, 1) := by decide +kernel
theorem dX11_holdsBy_85 : decode cX11_holdsBy 85 = .ok (.bipush 41, 2) := by decide +kernel
theorem dX11_holdsBy_87 : decode cX11_holdsBy 87 = .ok (.invokevirtual 340, 3) := by decide +kernel
theorem dX11_holdsBy_90 : decode cX11_holdsBy 90 = .ok (.aload_n 0, 1) := by decide +kernel
theorem dX11_holdsBy_91 : decode cX11_holdsBy 91 = .ok (.iload_n 1, 1) := by decide +kernel
theorem dX11_holdsBy_92 : decode cX11_holdsBy 92 = .ok (.iconst 2, 1) := by decide +kernel
theorem dX11_holdsBy_93 : decode cX11_holdsBy 93 = .ok (.iload_n 3, 1) := by decide +kernel
theorem dX11_holdsBy_94 : decode cX11_holdsBy 94 = .ok (.iconst 1, 1) := by decide +kernel
theorem dX11_holdsBy_95 : decode cX11_holdsBy 95 = .ok (.iadd, 1) := by decide +kernel
theorem dX11_holdsBy_96 : decode cX11_holdsBy 96 = .ok (.invokevirtual 347, 3) := by decide +kernel
theorem dX11_holdsBy_99 : decode cX11_holdsBy 99 = .ok (.ireturn, 1) := by decide +kernel
theorem dX11_holdsBy_100 : decode cX11_holdsBy 100 = .ok (.aload_n 0, 1) := by decide +kernel
theorem dX11_holdsBy_101 : decode cX11_holdsBy 101 = .ok (.bipush 80, 2) := by decide +kernel
theorem dX11_holdsBy_103 : decode cX11_holdsBy 103 = .ok (.invokevirtual 340, 3) := by decide +kernel
theorem dX11_holdsBy_106 : decode cX11_holdsBy 106 = .ok (.aload_n 0, 1) := by decide +kernel
theorem dX11_holdsBy_107 : decode cX11_holdsBy 107 = .ok (.iload_n 1, 1) := by decide +kernel
theorem dX11_holdsBy_108 : decode cX11_holdsBy 108 = .ok (.iconst 4, 1) := by decide +kernel
theorem dX11_holdsBy_109 : decode cX11_holdsBy 109 = .ok (.iload_n 3, 1) := by decide +kernel
theorem dX11_holdsBy_110 : decode cX11_holdsBy 110 = .ok (.invokevirtual 347, 3) := by decide +kernel
theorem dX11_holdsBy_113 : decode cX11_holdsBy 113 = .ok (.istore 4, 2) := by decide +kernel
theorem dX11_holdsBy_115 : decode cX11_holdsBy 115 = .ok (.iload 4, 2) := by decide +kernel
theorem dX11_holdsBy_117 : decode cX11_holdsBy 117 = .ok (.aload_n 0, 1) := by decide +kernel
theorem dX11_holdsBy_118 : decode cX11_holdsBy 118 = .ok (.iload_n 1, 1) := by decide +kernel
theorem dX11_holdsBy_119 : decode cX11_holdsBy 119 = .ok (.aload_n 0, 1) := by decide +kernel
theorem dX11_holdsBy_120 : decode cX11_holdsBy 120 = .ok (.getfield 69, 3) := by decide +kernel
theorem dX11_holdsBy_123 : decode cX11_holdsBy 123 = .ok (.iload_n 1, 1) := by decide +kernel
theorem dX11_holdsBy_124 : decode cX11_holdsBy 124 = .ok (.iaload, 1) := by decide +kernel
theorem dX11_holdsBy_125 : decode cX11_holdsBy 125 = .ok (.iconst 2, 1) := by decide +kernel
theorem dX11_holdsBy_126 : decode cX11_holdsBy 126 = .ok (.invokevirtual 350, 3) := by decide +kernel
theorem dX11_holdsBy_129 : decode cX11_holdsBy 129 = .ok (.iadd, 1) := by decide +kernel
theorem dX11_holdsBy_130 : decode cX11_holdsBy 130 = .ok (.ireturn, 1) := by decide +kernel
theorem dX11_holdsBy_131 : decode cX11_holdsBy 131 = .ok (.aload_n 0, 1) := by decide +kernel
theorem dX11_holdsBy_132 : decode cX11_holdsBy 132 = .ok (.iload_n 1, 1) := by decide +kernel
theorem dX11_holdsBy_133 : decode cX11_holdsBy 133 = .ok (.iload_n 2, 1) := by decide +kernel
theorem dX11_holdsBy_134 : decode cX11_holdsBy 134 = .ok (.invokestatic 345, 3) := by decide +kernel
theorem dX11_holdsBy_137 : decode cX11_holdsBy 137 = .ok (.iload_n 3, 1) := by decide +kernel
theorem dX11_holdsBy_138 : decode cX11_holdsBy 138 = .ok (.invokevirtual 347, 3) := by decide +kernel
theorem dX11_holdsBy_141 : decode cX11_holdsBy 141 = .ok (.ireturn, 1) := by decide +kernel
theorem dX11_drinksBy_0 : decode cX11_drinksBy 0 = .ok (.iload_n 2, 1) := by decide +kernel
theorem dX11_drinksBy_1 : decode cX11_drinksBy 1 = .ok (.tableswitch 92 0 4 #[35, 92, 92, 45, 61], 35) := by decide +kernel
theorem dX11_drinksBy_36 : decode cX11_drinksBy 36 = .ok (.aload_n 0, 1) := by decide +kernel
theorem dX11_drinksBy_37 : decode cX11_drinksBy 37 = .ok (.bipush 11, 2) := by decide +kernel
theorem dX11_drinksBy_39 : decode cX11_drinksBy 39 = .ok (.invokevirtual 340, 3) := by decide +kernel
theorem dX11_drinksBy_42 : decode cX11_drinksBy 42 = .ok (.iload_n 3, 1) := by decide +kernel
theorem dX11_drinksBy_43 : decode cX11_drinksBy 43 = .ok (.iload_n 1, 1) := by decide +kernel
theorem dX11_drinksBy_44 : decode cX11_drinksBy 44 = .ok (.ixor, 1) := by decide +kernel
theorem dX11_drinksBy_45 : decode cX11_drinksBy 45 = .ok (.ireturn, 1) := by decide +kernel
theorem dX11_drinksBy_46 : decode cX11_drinksBy 46 = .ok (.aload_n 0, 1) := by decide +kernel
theorem dX11_drinksBy_47 : decode cX11_drinksBy 47 = .ok (.bipush 40, 2) := by decide +kernel
theorem dX11_drinksBy_49 : decode cX11_drinksBy 49 = .ok (.invokevirtual 340, 3) := by decide +kernel
theorem dX11_drinksBy_52 : decode cX11_drinksBy 52 = .ok (.aload_n 0, 1) := by decide +kernel
theorem dX11_drinksBy_53 : decode cX11_drinksBy 53 = .ok (.iload_n 1, 1) := by decide +kernel
theorem dX11_drinksBy_54 : decode cX11_drinksBy 54 = .ok (.iconst 2, 1) := by decide +kernel
theorem dX11_drinksBy_55 : decode cX11_drinksBy 55 = .ok (.iload_n 3, 1) := by decide +kernel
theorem dX11_drinksBy_56 : decode cX11_drinksBy 56 = .ok (.invokevirtual 350, 3) := by decide +kernel
theorem dX11_drinksBy_59 : decode cX11_drinksBy 59 = .ok (.iconst 3, 1) := by decide +kernel
theorem dX11_drinksBy_60 : decode cX11_drinksBy 60 = .ok (.imul, 1) := by decide +kernel
theorem dX11_drinksBy_61 : decode cX11_drinksBy 61 = .ok (.ireturn, 1) := by decide +kernel
theorem dX11_drinksBy_62 : decode cX11_drinksBy 62 = .ok (.aload_n 0, 1) := by decide +kernel
theorem dX11_drinksBy_63 : decode cX11_drinksBy 63 = .ok (.bipush 50, 2) := by decide +kernel
theorem dX11_drinksBy_65 : decode cX11_drinksBy 65 = .ok (.invokevirtual 340, 3) := by decide +kernel
theorem dX11_drinksBy_68 : decode cX11_drinksBy 68 = .ok (.aload_n 0, 1) := by decide +kernel
theorem dX11_drinksBy_69 : decode cX11_drinksBy 69 = .ok (.iload_n 1, 1) := by decide +kernel
theorem dX11_drinksBy_70 : decode cX11_drinksBy 70 = .ok (.iconst 1, 1) := by decide +kernel
theorem dX11_drinksBy_71 : decode cX11_drinksBy 71 = .ok (.iload_n 3, 1) := by decide +kernel
theorem dX11_drinksBy_72 : decode cX11_drinksBy 72 = .ok (.invokevirtual 350, 3) := by decide +kernel
theorem dX11_drinksBy_75 : decode cX11_drinksBy 75 = .ok (.istore 4, 2) := by decide +kernel
theorem dX11_drinksBy_77 : decode cX11_drinksBy 77 = .ok (.iload 4, 2) := by decide +kernel
theorem dX11_drinksBy_79 : decode cX11_drinksBy 79 = .ok (.aload_n 0, 1) := by decide +kernel
theorem dX11_drinksBy_80 : decode cX11_drinksBy 80 = .ok (.iload_n 1, 1) := by decide +kernel
theorem dX11_drinksBy_81 : decode cX11_drinksBy 81 = .ok (.aload_n 0, 1) := by decide +kernel
theorem dX11_drinksBy_82 : decode cX11_drinksBy 82 = .ok (.getfield 69, 3) := by decide +kernel
theorem dX11_drinksBy_85 : decode cX11_drinksBy 85 = .ok (.iload_n 1, 1) := by decide +kernel
theorem dX11_drinksBy_86 : decode cX11_drinksBy 86 = .ok (.iaload, 1) := by decide +kernel
theorem dX11_drinksBy_87 : decode cX11_drinksBy 87 = .ok (.iconst 2, 1) := by decide +kernel
theorem dX11_drinksBy_88 : decode cX11_drinksBy 88 = .ok (.invokevirtual 342, 3) := by decide +kernel
theorem dX11_drinksBy_91 : decode cX11_drinksBy 91 = .ok (.isub, 1) := by decide +kernel
theorem dX11_drinksBy_92 : decode cX11_drinksBy 92 = .ok (.ireturn, 1) := by decide +kernel
theorem dX11_drinksBy_93 : decode cX11_drinksBy 93 = .ok (.aload_n 0, 1) := by decide +kernel
theorem dX11_drinksBy_94 : decode cX11_drinksBy 94 = .ok (.iload_n 1, 1) := by decide +kernel
theorem dX11_drinksBy_95 : decode cX11_drinksBy 95 = .ok (.iload_n 2, 1) := by decide +kernel
theorem dX11_drinksBy_96 : decode cX11_drinksBy 96 = .ok (.invokestatic 345, 3) := by decide +kernel
theorem dX11_drinksBy_99 : decode cX11_drinksBy 99 = .ok (.iload_n 3, 1) := by decide +kernel
theorem dX11_drinksBy_100 : decode cX11_drinksBy 100 = .ok (.invokevirtual 350, 3) := by decide +kernel
theorem dX11_drinksBy_103 : decode cX11_drinksBy 103 = .ok (.ireturn, 1) := by decide +kernel
theorem dX11_tells_0 : decode cX11_tells 0 = .ok (.iload_n 2, 1) := by decide +kernel
theorem dX11_tells_1 : decode cX11_tells 1 = .ok (.lookupswitch 102 #[(0, 35), (5, 70), (7, 86)], 35) := by decide +kernel
theorem dX11_tells_36 : decode cX11_tells 36 = .ok (.aload_n 0, 1) := by decide +kernel
theorem dX11_tells_37 : decode cX11_tells 37 = .ok (.iconst 2, 1) := by decide +kernel
theorem dX11_tells_38 : decode cX11_tells 38 = .ok (.invokevirtual 340, 3) := by decide +kernel
theorem dX11_tells_41 : decode cX11_tells 41 = .ok (.aload_n 0, 1) := by decide +kernel
theorem dX11_tells_42 : decode cX11_tells 42 = .ok (.iload_n 1, 1) := by decide +kernel
theorem dX11_tells_43 : decode cX11_tells 43 = .ok (.aload_n 0, 1) := by decide +kernel
theorem dX11_tells_44 : decode cX11_tells 44 = .ok (.getfield 69, 3) := by decide +kernel
theorem dX11_tells_47 : decode cX11_tells 47 = .ok (.iload_n 1, 1) := by decide +kernel
theorem dX11_tells_48 : decode cX11_tells 48 = .ok (.iaload, 1) := by decide +kernel
theorem dX11_tells_49 : decode cX11_tells 49 = .ok (.iload_n 3, 1) := by decide +kernel
theorem dX11_tells_50 : decode cX11_tells 50 = .ok (.invokevirtual 347, 3) := by decide +kernel
theorem dX11_tells_53 : decode cX11_tells 53 = .ok (.istore 4, 2) := by decide +kernel
theorem dX11_tells_55 : decode cX11_tells 55 = .ok (.iload 4, 2) := by decide +kernel
theorem dX11_tells_57 : decode cX11_tells 57 = .ok (.aload_n 0, 1) := by decide +kernel
theorem dX11_tells_58 : decode cX11_tells 58 = .ok (.iload_n 1, 1) := by decide +kernel
theorem dX11_tells_59 : decode cX11_tells 59 = .ok (.aload_n 0, 1) := by decide +kernel
theorem dX11_tells_60 : decode cX11_tells 60 = .ok (.getfield 69, 3) := by decide +kernel
theorem dX11_tells_63 : decode cX11_tells 63 = .ok (.iload_n 1, 1) := by decide +kernel
theorem dX11_tells_64 : decode cX11_tells 64 = .ok (.iaload, 1) := by decide +kernel
theorem dX11_tells_65 : decode cX11_tells 65 = .ok (.iconst 1, 1) := by decide +kernel
theorem dX11_tells_66 : decode cX11_tells 66 = .ok (.invokevirtual 350, 3) := by decide +kernel
theorem dX11_tells_69 : decode cX11_tells 69 = .ok (.isub, 1) := by decide +kernel
theorem dX11_tells_70 : decode cX11_tells 70 = .ok (.ireturn, 1) := by decide +kernel
theorem dX11_tells_71 : decode cX11_tells 71 = .ok (.aload_n 0, 1) := by decide +kernel
theorem dX11_tells_72 : decode cX11_tells 72 = .ok (.bipush 60, 2) := by decide +kernel
theorem dX11_tells_74 : decode cX11_tells 74 = .ok (.invokevirtual 340, 3) := by decide +kernel
theorem dX11_tells_77 : decode cX11_tells 77 = .ok (.aload_n 0, 1) := by decide +kernel
theorem dX11_tells_78 : decode cX11_tells 78 = .ok (.iload_n 1, 1) := by decide +kernel
theorem dX11_tells_79 : decode cX11_tells 79 = .ok (.iconst 3, 1) := by decide +kernel
theorem dX11_tells_80 : decode cX11_tells 80 = .ok (.iload_n 3, 1) := by decide +kernel
theorem dX11_tells_81 : decode cX11_tells 81 = .ok (.invokevirtual 353, 3) := by decide +kernel
theorem dX11_tells_84 : decode cX11_tells 84 = .ok (.iconst 5, 1) := by decide +kernel
theorem dX11_tells_85 : decode cX11_tells 85 = .ok (.ixor, 1) := by decide +kernel
theorem dX11_tells_86 : decode cX11_tells 86 = .ok (.ireturn, 1) := by decide +kernel
theorem dX11_tells_87 : decode cX11_tells 87 = .ok (.aload_n 0, 1) := by decide +kernel
theorem dX11_tells_88 : decode cX11_tells 88 = .ok (.bipush 81, 2) := by decide +kernel
theorem dX11_tells_90 : decode cX11_tells 90 = .ok (.invokevirtual 340, 3) := by decide +kernel
theorem dX11_tells_93 : decode cX11_tells 93 = .ok (.aload_n 0, 1) := by decide +kernel
theorem dX11_tells_94 : decode cX11_tells 94 = .ok (.iload_n 1, 1) := by decide +kernel
theorem dX11_tells_95 : decode cX11_tells 95 = .ok (.iconst 4, 1) := by decide +kernel
theorem dX11_tells_96 : decode cX11_tells 96 = .ok (.iload_n 3, 1) := by decide +kernel
theorem dX11_tells_97 : decode cX11_tells 97 = .ok (.invokevirtual 353, 3) := by decide +kernel
theorem dX11_tells_100 : decode cX11_tells 100 = .ok (.iconst 1, 1) := by decide +kernel
theorem dX11_tells_101 : decode cX11_tells 101 = .ok (.isub, 1) := by decide +kernel
theorem dX11_tells_102 : decode cX11_tells 102 = .ok (.ireturn, 1) := by decide +kernel
theorem dX11_tells_103 : decode cX11_tells 103 = .ok (.aload_n 0, 1) := by decide +kernel
theorem dX11_tells_104 : decode cX11_tells 104 = .ok (.iload_n 1, 1) := by decide +kernel
theorem dX11_tells_105 : decode cX11_tells 105 = .ok (.iload_n 2, 1) := by decide +kernel
theorem dX11_tells_106 : decode cX11_tells 106 = .ok (.invokestatic 345, 3) := by decide +kernel
theorem dX11_tells_109 : decode cX11_tells 109 = .ok (.iload_n 3, 1) := by decide +kernel
theorem dX11_tells_110 : decode cX11_tells 110 = .ok (.invokevirtual 353, 3) := by decide +kernel
theorem dX11_tells_113 : decode cX11_tells 113 = .ok (.ireturn, 1) := by decide +kernel
theorem dX11_body_0 : decode cX11_body 0 = .ok (.iload_n 1, 1) := by decide +kernel
theorem dX11_body_1 : decode cX11_body 1 = .ok (.iconst 0, 1) := by decide +kernel
theorem dX11_body_2 : decode cX11_body 2 = .ok (.bipush 7, 2) := by decide +kernel
theorem dX11_body_4 : decode cX11_body 4 = .ok (.invokestatic 97, 3) := by decide +kernel
theorem dX11_body_7 : decode cX11_body 7 = .ok (.ifCond .ne 5, 3) := by decide +kernel
theorem dX11_body_10 : decode cX11_body 10 = .ok (.iconst (-1), 1) := by decide +kernel
theorem dX11_body_11 : decode cX11_body 11 = .ok (.ireturn, 1) := by decide +kernel
theorem dX11_body_12 : decode cX11_body 12 = .ok (.aload_n 0, 1) := by decide +kernel
theorem dX11_body_13 : decode cX11_body 13 = .ok (.getfield 356, 3) := by decide +kernel
theorem dX11_body_16 : decode cX11_body 16 = .ok (.bipush 50, 2) := by decide +kernel
theorem dX11_body_18 : decode cX11_body 18 = .ok (.if_icmp .ne 6, 3) := by decide +kernel
theorem dX11_body_21 : decode cX11_body 21 = .ok (.bipush (-3), 2) := by decide +kernel
theorem dX11_body_23 : decode cX11_body 23 = .ok (.ireturn, 1) := by decide +kernel
theorem dX11_body_24 : decode cX11_body 24 = .ok (.aload_n 0, 1) := by decide +kernel
theorem dX11_body_25 : decode cX11_body 25 = .ok (.getfield 69, 3) := by decide +kernel
theorem dX11_body_28 : decode cX11_body 28 = .ok (.aload_n 0, 1) := by decide +kernel
theorem dX11_body_29 : decode cX11_body 29 = .ok (.getfield 356, 3) := by decide +kernel
theorem dX11_body_32 : decode cX11_body 32 = .ok (.iload_n 1, 1) := by decide +kernel
theorem dX11_body_33 : decode cX11_body 33 = .ok (.iastore, 1) := by decide +kernel
theorem dX11_body_34 : decode cX11_body 34 = .ok (.aload_n 0, 1) := by decide +kernel
theorem dX11_body_35 : decode cX11_body 35 = .ok (.dup, 1) := by decide +kernel
theorem dX11_body_36 : decode cX11_body 36 = .ok (.getfield 356, 3) := by decide +kernel
theorem dX11_body_39 : decode cX11_body 39 = .ok (.dup_x1, 1) := by decide +kernel
theorem dX11_body_40 : decode cX11_body 40 = .ok (.iconst 1, 1) := by decide +kernel
theorem dX11_body_41 : decode cX11_body 41 = .ok (.iadd, 1) := by decide +kernel
theorem dX11_body_42 : decode cX11_body 42 = .ok (.putfield 356, 3) := by decide +kernel
theorem dX11_body_45 : decode cX11_body 45 = .ok (.ireturn, 1) := by decide +kernel
theorem dX11_act_0 : decode cX11_act 0 = .ok (.aload_n 0, 1) := by decide +kernel
theorem dX11_act_1 : decode cX11_act 1 = .ok (.iconst 0, 1) := by decide +kernel
theorem dX11_act_2 : decode cX11_act 2 = .ok (.putfield 337, 3) := by decide +kernel
theorem dX11_act_5 : decode cX11_act 5 = .ok (.iload_n 1, 1) := by decide +kernel
theorem dX11_act_6 : decode cX11_act 6 = .ok (.iconst 0, 1) := by decide +kernel
theorem dX11_act_7 : decode cX11_act 7 = .ok (.aload_n 0, 1) := by decide +kernel
theorem dX11_act_8 : decode cX11_act 8 = .ok (.getfield 356, 3) := by decide +kernel
theorem dX11_act_11 : decode cX11_act 11 = .ok (.iconst 1, 1) := by decide +kernel
theorem dX11_act_12 : decode cX11_act 12 = .ok (.isub, 1) := by decide +kernel
theorem dX11_act_13 : decode cX11_act 13 = .ok (.invokestatic 97, 3) := by decide +kernel
theorem dX11_act_16 : decode cX11_act 16 = .ok (.ifCond .eq 12, 3) := by decide +kernel
theorem dX11_act_19 : decode cX11_act 19 = .ok (.iload_n 2, 1) := by decide +kernel
theorem dX11_act_20 : decode cX11_act 20 = .ok (.iconst 0, 1) := by decide +kernel
theorem dX11_act_21 : decode cX11_act 21 = .ok (.iconst 3, 1) := by decide +kernel
theorem dX11_act_22 : decode cX11_act 22 = .ok (.invokestatic 97, 3) := by decide +kernel
theorem dX11_act_25 : decode cX11_act 25 = .ok (.ifCond .ne 5, 3) := by decide +kernel
theorem dX11_act_28 : decode cX11_act 28 = .ok (.iconst 0, 1) := by decide +kernel
theorem dX11_act_29 : decode cX11_act 29 = .ok (.ireturn, 1) := by decide +kernel
theorem dX11_act_30 : decode cX11_act 30 = .ok (.aload_n 0, 1) := by decide +kernel
theorem dX11_act_31 : decode cX11_act 31 = .ok (.getfield 69, 3) := by decide +kernel
theorem dX11_act_34 : decode cX11_act 34 = .ok (.iload_n 1, 1) := by decide +kernel
theorem dX11_act_35 : decode cX11_act 35 = .ok (.iaload, 1) := by decide +kernel
theorem dX11_act_36 : decode cX11_act 36 = .ok (.istore 4, 2) := by decide +kernel
theorem dX11_act_38 : decode cX11_act 38 = .ok (.iload_n 2, 1) := by decide +kernel
theorem dX11_act_39 : decode cX11_act 39 = .ok (.ifCond .ne 14, 3) := by decide +kernel
theorem dX11_act_42 : decode cX11_act 42 = .ok (.aload_n 0, 1) := by decide +kernel
theorem dX11_act_43 : decode cX11_act 43 = .ok (.iload_n 1, 1) := by decide +kernel
theorem dX11_act_44 : decode cX11_act 44 = .ok (.iload 4, 2) := by decide +kernel
theorem dX11_act_46 : decode cX11_act 46 = .ok (.iload_n 3, 1) := by decide +kernel
theorem dX11_act_47 : decode cX11_act 47 = .ok (.invokevirtual 342, 3) := by decide +kernel
theorem dX11_act_50 : decode cX11_act 50 = .ok (.goto 43, 3) := by decide +kernel
theorem dX11_act_53 : decode cX11_act 53 = .ok (.iload_n 2, 1) := by decide +kernel
theorem dX11_act_54 : decode cX11_act 54 = .ok (.iconst 1, 1) := by decide +kernel
theorem dX11_act_55 : decode cX11_act 55 = .ok (.if_icmp .ne 14, 3) := by decide +kernel
theorem dX11_act_58 : decode cX11_act 58 = .ok (.aload_n 0, 1) := by decide +kernel
theorem dX11_act_59 : decode cX11_act 59 = .ok (.iload_n 1, 1) := by decide +kernel
theorem dX11_act_60 : decode cX11_act 60 = .ok (.iload 4, 2) := by decide +kernel
theorem dX11_act_62 : decode cX11_act 62 = .ok (.iload_n 3, 1) := by decide +kernel
theorem dX11_act_63 : decode cX11_act 63 = .ok (.invokevirtual 347, 3) := by decide +kernel
theorem dX11_act_66 : decode cX11_act 66 = .ok (.goto 27, 3) := by decide +kernel
theorem dX11_act_69 : decode cX11_act 69 = .ok (.iload_n 2, 1) := by decide +kernel
theorem dX11_act_70 : decode cX11_act 70 = .ok (.iconst 2, 1) := by decide +kernel
theorem dX11_act_71 : decode cX11_act 71 = .ok (.if_icmp .ne 14, 3) := by decide +kernel
theorem dX11_act_74 : decode cX11_act 74 = .ok (.aload_n 0, 1) := by decide +kernel
theorem dX11_act_75 : decode cX11_act 75 = .ok (.iload_n 1, 1) := by decide +kernel
theorem dX11_act_76 : decode cX11_act 76 = .ok (.iload 4, 2) := by decide +kernel
theorem dX11_act_78 : decode cX11_act 78 = .ok (.iload_n 3, 1) := by decide +kernel
theorem dX11_act_79 : decode cX11_act 79 = .ok (.invokevirtual 350, 3) := by decide +kernel
theorem dX11_act_82 : decode cX11_act 82 = .ok (.goto 11, 3) := by decide +kernel
theorem dX11_act_85 : decode cX11_act 85 = .ok (.aload_n 0, 1) := by decide +kernel
theorem dX11_act_86 : decode cX11_act 86 = .ok (.iload_n 1, 1) := by decide +kernel
theorem dX11_act_87 : decode cX11_act 87 = .ok (.iload 4, 2) := by decide +kernel
theorem dX11_act_89 : decode cX11_act 89 = .ok (.iload_n 3, 1) := by decide +kernel
theorem dX11_act_90 : decode cX11_act 90 = .ok (.invokevirtual 353, 3) := by decide +kernel
theorem dX11_act_93 : decode cX11_act 93 = .ok (.ireturn, 1) := by decide +kernel
theorem dX11_trace_0 : decode cX11_trace 0 = .ok (.iload_n 1, 1) := by decide +kernel
theorem dX11_trace_1 : decode cX11_trace 1 = .ok (.iconst 0, 1) := by decide +kernel
theorem dX11_trace_2 : decode cX11_trace 2 = .ok (.bipush 24, 2) := by decide +kernel
theorem dX11_trace_4 : decode cX11_trace 4 = .ok (.aload_n 0, 1) := by decide +kernel
theorem dX11_trace_5 : decode cX11_trace 5 = .ok (.getfield 337, 3) := by decide +kernel
theorem dX11_trace_8 : decode cX11_trace 8 = .ok (.invokestatic 227, 3) := by decide +kernel
theorem dX11_trace_11 : decode cX11_trace 11 = .ok (.iconst 1, 1) := by decide +kernel
theorem dX11_trace_12 : decode cX11_trace 12 = .ok (.isub, 1) := by decide +kernel
theorem dX11_trace_13 : decode cX11_trace 13 = .ok (.invokestatic 97, 3) := by decide +kernel
theorem dX11_trace_16 : decode cX11_trace 16 = .ok (.ifCond .eq 12, 3) := by decide +kernel
theorem dX11_trace_19 : decode cX11_trace 19 = .ok (.aload_n 0, 1) := by decide +kernel
theorem dX11_trace_20 : decode cX11_trace 20 = .ok (.getfield 72, 3) := by decide +kernel
theorem dX11_trace_23 : decode cX11_trace 23 = .ok (.iload_n 1, 1) := by decide +kernel
theorem dX11_trace_24 : decode cX11_trace 24 = .ok (.iaload, 1) := by decide +kernel
theorem dX11_trace_25 : decode cX11_trace 25 = .ok (.goto 4, 3) := by decide +kernel
theorem dX11_trace_28 : decode cX11_trace 28 = .ok (.iconst (-1), 1) := by decide +kernel
theorem dX11_trace_29 : decode cX11_trace 29 = .ok (.ireturn, 1) := by decide +kernel
theorem dX11_keep_0 : decode cX11_keep 0 = .ok (.iload_n 1, 1) := by decide +kernel
theorem dX11_keep_1 : decode cX11_keep 1 = .ok (.invokestatic 113, 3) := by decide +kernel
theorem dX11_keep_4 : decode cX11_keep 4 = .ok (.ifCond .eq 17, 3) := by decide +kernel
theorem dX11_keep_7 : decode cX11_keep 7 = .ok (.iload_n 2, 1) := by decide +kernel
theorem dX11_keep_8 : decode cX11_keep 8 = .ok (.iconst (-1), 1) := by decide +kernel
theorem dX11_keep_9 : decode cX11_keep 9 = .ok (.aload_n 0, 1) := by decide +kernel
theorem dX11_keep_10 : decode cX11_keep 10 = .ok (.getfield 356, 3) := by decide +kernel
theorem dX11_keep_13 : decode cX11_keep 13 = .ok (.iconst 1, 1) := by decide +kernel
theorem dX11_keep_14 : decode cX11_keep 14 = .ok (.isub, 1) := by decide +kernel
theorem dX11_keep_15 : decode cX11_keep 15 = .ok (.invokestatic 97, 3) := by decide +kernel
theorem dX11_keep_18 : decode cX11_keep 18 = .ok (.ifCond .ne 5, 3) := by decide +kernel
theorem dX11_keep_21 : decode cX11_keep 21 = .ok (.iconst (-1), 1) := by decide +kernel
theorem dX11_keep_22 : decode cX11_keep 22 = .ok (.ireturn, 1) := by decide +kernel
theorem dX11_keep_23 : decode cX11_keep 23 = .ok (.aload_n 0, 1) := by decide +kernel
theorem dX11_keep_24 : decode cX11_keep 24 = .ok (.getfield 75, 3) := by decide +kernel
theorem dX11_keep_27 : decode cX11_keep 27 = .ok (.iload_n 1, 1) := by decide +kernel
theorem dX11_keep_28 : decode cX11_keep 28 = .ok (.iload_n 2, 1) := by decide +kernel
theorem dX11_keep_29 : decode cX11_keep 29 = .ok (.ifCond .ge 7, 3) := by decide +kernel
theorem dX11_keep_32 : decode cX11_keep 32 = .ok (.iconst (-1), 1) := by decide +kernel
theorem dX11_keep_33 : decode cX11_keep 33 = .ok (.goto 7, 3) := by decide +kernel
theorem dX11_keep_36 : decode cX11_keep 36 = .ok (.bipush 10, 2) := by decide +kernel
theorem dX11_keep_38 : decode cX11_keep 38 = .ok (.iload_n 2, 1) := by decide +kernel
theorem dX11_keep_39 : decode cX11_keep 39 = .ok (.iadd, 1) := by decide +kernel
theorem dX11_keep_40 : decode cX11_keep 40 = .ok (.iastore, 1) := by decide +kernel
theorem dX11_keep_41 : decode cX11_keep 41 = .ok (.aload_n 0, 1) := by decide +kernel
theorem dX11_keep_42 : decode cX11_keep 42 = .ok (.getfield 78, 3) := by decide +kernel
theorem dX11_keep_45 : decode cX11_keep 45 = .ok (.iload_n 1, 1) := by decide +kernel
theorem dX11_keep_46 : decode cX11_keep 46 = .ok (.iconst 0, 1) := by decide +kernel
theorem dX11_keep_47 : decode cX11_keep 47 = .ok (.iastore, 1) := by decide +kernel
theorem dX11_keep_48 : decode cX11_keep 48 = .ok (.iconst 1, 1) := by decide +kernel
theorem dX11_keep_49 : decode cX11_keep 49 = .ok (.ireturn, 1) := by decide +kernel
theorem dX11_row_0 : decode cX11_row 0 = .ok (.iload_n 1, 1) := by decide +kernel
theorem dX11_row_1 : decode cX11_row 1 = .ok (.invokestatic 113, 3) := by decide +kernel
theorem dX11_row_4 : decode cX11_row 4 = .ok (.ifCond .eq 18, 3) := by decide +kernel
theorem dX11_row_7 : decode cX11_row 7 = .ok (.iload_n 2, 1) := by decide +kernel
theorem dX11_row_8 : decode cX11_row 8 = .ok (.iconst 0, 1) := by decide +kernel
theorem dX11_row_9 : decode cX11_row 9 = .ok (.iconst 4, 1) := by decide +kernel
theorem dX11_row_10 : decode cX11_row 10 = .ok (.invokestatic 97, 3) := by decide +kernel
theorem dX11_row_13 : decode cX11_row 13 = .ok (.ifCond .eq 9, 3) := by decide +kernel
theorem dX11_row_16 : decode cX11_row 16 = .ok (.iload_n 3, 1) := by decide +kernel
theorem dX11_row_17 : decode cX11_row 17 = .ok (.bipush 60, 2) := by decide +kernel
theorem dX11_row_19 : decode cX11_row 19 = .ok (.if_icmp .le 5, 3) := by decide +kernel
theorem dX11_row_22 : decode cX11_row 22 = .ok (.iconst (-1), 1) := by decide +kernel
theorem dX11_row_23 : decode cX11_row 23 = .ok (.ireturn, 1) := by decide +kernel
theorem dX11_row_24 : decode cX11_row 24 = .ok (.iload_n 3, 1) := by decide +kernel
theorem dX11_row_25 : decode cX11_row 25 = .ok (.ifCond .ge 6, 3) := by decide +kernel
theorem dX11_row_28 : decode cX11_row 28 = .ok (.bipush (-14), 2) := by decide +kernel
theorem dX11_row_30 : decode cX11_row 30 = .ok (.ireturn, 1) := by decide +kernel
theorem dX11_row_31 : decode cX11_row 31 = .ok (.aload_n 0, 1) := by decide +kernel
theorem dX11_row_32 : decode cX11_row 32 = .ok (.getfield 75, 3) := by decide +kernel
theorem dX11_row_35 : decode cX11_row 35 = .ok (.iload_n 1, 1) := by decide +kernel
theorem dX11_row_36 : decode cX11_row 36 = .ok (.iload_n 2, 1) := by decide +kernel
theorem dX11_row_37 : decode cX11_row 37 = .ok (.iastore, 1) := by decide +kernel
theorem dX11_row_38 : decode cX11_row 38 = .ok (.aload_n 0, 1) := by decide +kernel
theorem dX11_row_39 : decode cX11_row 39 = .ok (.getfield 78, 3) := by decide +kernel
theorem dX11_row_42 : decode cX11_row 42 = .ok (.iload_n 1, 1) := by decide +kernel
theorem dX11_row_43 : decode cX11_row 43 = .ok (.iload_n 3, 1) := by decide +kernel
theorem dX11_row_44 : decode cX11_row 44 = .ok (.iastore, 1) := by decide +kernel
theorem dX11_row_45 : decode cX11_row 45 = .ok (.iconst 0, 1) := by decide +kernel
theorem dX11_row_46 : decode cX11_row 46 = .ok (.istore 4, 2) := by decide +kernel
theorem dX11_row_48 : decode cX11_row 48 = .ok (.iload 4, 2) := by decide +kernel
theorem dX11_row_50 : decode cX11_row 50 = .ok (.bipush 60, 2) := by decide +kernel
theorem dX11_row_52 : decode cX11_row 52 = .ok (.if_icmp .ge 22, 3) := by decide +kernel
theorem dX11_row_55 : decode cX11_row 55 = .ok (.aload_n 0, 1) := by decide +kernel
theorem dX11_row_56 : decode cX11_row 56 = .ok (.getfield 81, 3) := by decide +kernel
theorem dX11_row_59 : decode cX11_row 59 = .ok (.bipush 60, 2) := by decide +kernel
theorem dX11_row_61 : decode cX11_row 61 = .ok (.iload_n 1, 1) := by decide +kernel
theorem dX11_row_62 : decode cX11_row 62 = .ok (.imul, 1) := by decide +kernel
theorem dX11_row_63 : decode cX11_row 63 = .ok (.iload 4, 2) := by decide +kernel
theorem dX11_row_65 : decode cX11_row 65 = .ok (.iadd, 1) := by decide +kernel
theorem dX11_row_66 : decode cX11_row 66 = .ok (.lconst 0, 1) := by decide +kernel
theorem dX11_row_67 : decode cX11_row 67 = .ok (.lastore, 1) := by decide +kernel
theorem dX11_row_68 : decode cX11_row 68 = .ok (.iinc 4 1, 3) := by decide +kernel
theorem dX11_row_71 : decode cX11_row 71 = .ok (.goto (-23), 3) := by decide +kernel
theorem dX11_row_74 : decode cX11_row 74 = .ok (.iconst 1, 1) := by decide +kernel
theorem dX11_row_75 : decode cX11_row 75 = .ok (.ireturn, 1) := by decide +kernel
theorem dX11_isRow_0 : decode cX11_isRow 0 = .ok (.aload_n 0, 1) := by decide +kernel
theorem dX11_isRow_1 : decode cX11_isRow 1 = .ok (.getfield 75, 3) := by decide +kernel
theorem dX11_isRow_4 : decode cX11_isRow 4 = .ok (.iload_n 1, 1) := by decide +kernel
theorem dX11_isRow_5 : decode cX11_isRow 5 = .ok (.iaload, 1) := by decide +kernel
theorem dX11_isRow_6 : decode cX11_isRow 6 = .ok (.iconst 0, 1) := by decide +kernel
theorem dX11_isRow_7 : decode cX11_isRow 7 = .ok (.iconst 4, 1) := by decide +kernel
theorem dX11_isRow_8 : decode cX11_isRow 8 = .ok (.invokestatic 97, 3) := by decide +kernel
theorem dX11_isRow_11 : decode cX11_isRow 11 = .ok (.ireturn, 1) := by decide +kernel
theorem dX11_kept_0 : decode cX11_kept 0 = .ok (.iload_n 0, 1) := by decide +kernel
theorem dX11_kept_1 : decode cX11_kept 1 = .ok (.tableswitch 47 0 3 #[31, 36, 41, 45], 31) := by decide +kernel
theorem dX11_kept_32 : decode cX11_kept 32 = .ok (.lload_n 1, 1) := by decide +kernel
theorem dX11_kept_33 : decode cX11_kept 33 = .ok (.l2i, 1) := by decide +kernel
theorem dX11_kept_34 : decode cX11_kept 34 = .ok (.i2b, 1) := by decide +kernel
theorem dX11_kept_35 : decode cX11_kept 35 = .ok (.i2l, 1) := by decide +kernel
theorem dX11_kept_36 : decode cX11_kept 36 = .ok (.lreturn, 1) := by decide +kernel
theorem dX11_kept_37 : decode cX11_kept 37 = .ok (.lload_n 1, 1) := by decide +kernel
theorem dX11_kept_38 : decode cX11_kept 38 = .ok (.l2i, 1) := by decide +kernel
theorem dX11_kept_39 : decode cX11_kept 39 = .ok (.i2s, 1) := by decide +kernel
theorem dX11_kept_40 : decode cX11_kept 40 = .ok (.i2l, 1) := by decide +kernel
theorem dX11_kept_41 : decode cX11_kept 41 = .ok (.lreturn, 1) := by decide +kernel
theorem dX11_kept_42 : decode cX11_kept 42 = .ok (.lload_n 1, 1) := by decide +kernel
theorem dX11_kept_43 : decode cX11_kept 43 = .ok (.l2i, 1) := by decide +kernel
theorem dX11_kept_44 : decode cX11_kept 44 = .ok (.i2l, 1) := by decide +kernel
theorem dX11_kept_45 : decode cX11_kept 45 = .ok (.lreturn, 1) := by decide +kernel
theorem dX11_kept_46 : decode cX11_kept 46 = .ok (.lload_n 1, 1) := by decide +kernel
theorem dX11_kept_47 : decode cX11_kept 47 = .ok (.lreturn, 1) := by decide +kernel
theorem dX11_kept_48 : decode cX11_kept 48 = .ok (.lload_n 1, 1) := by decide +kernel
theorem dX11_kept_49 : decode cX11_kept 49 = .ok (.lconst 0, 1) := by decide +kernel
theorem dX11_kept_50 : decode cX11_kept 50 = .ok (.lcmp, 1) := by decide +kernel
theorem dX11_kept_51 : decode cX11_kept 51 = .ok (.ifCond .eq 7, 3) := by decide +kernel
theorem dX11_kept_54 : decode cX11_kept 54 = .ok (.lconst 1, 1) := by decide +kernel
theorem dX11_kept_55 : decode cX11_kept 55 = .ok (.goto 4, 3) := by decide +kernel
theorem dX11_kept_58 : decode cX11_kept 58 = .ok (.lconst 0, 1) := by decide +kernel
theorem dX11_kept_59 : decode cX11_kept 59 = .ok (.lreturn, 1) := by decide +kernel
theorem dX11_put_0 : decode cX11_put 0 = .ok (.iload_n 1, 1) := by decide +kernel
theorem dX11_put_1 : decode cX11_put 1 = .ok (.invokestatic 113, 3) := by decide +kernel
theorem dX11_put_4 : decode cX11_put 4 = .ok (.ifCond .ne 5, 3) := by decide +kernel
theorem dX11_put_7 : decode cX11_put 7 = .ok (.iconst (-1), 1) := by decide +kernel
theorem dX11_put_8 : decode cX11_put 8 = .ok (.ireturn, 1) := by decide +kernel
theorem dX11_put_9 : decode cX11_put 9 = .ok (.aload_n 0, 1) := by decide +kernel
theorem dX11_put_10 : decode cX11_put 10 = .ok (.getfield 75, 3) := by decide +kernel
theorem dX11_put_13 : decode cX11_put 13 = .ok (.iload_n 1, 1) := by decide +kernel
theorem dX11_put_14 : decode cX11_put 14 = .ok (.iaload, 1) := by decide +kernel
theorem dX11_put_15 : decode cX11_put 15 = .ok (.iconst (-1), 1) := by decide +kernel
theorem dX11_put_16 : decode cX11_put 16 = .ok (.if_icmp .ne 6, 3) := by decide +kernel
theorem dX11_put_19 : decode cX11_put 19 = .ok (.bipush (-11), 2) := by decide +kernel
theorem dX11_put_21 : decode cX11_put 21 = .ok (.ireturn, 1) := by decide +kernel
theorem dX11_put_22 : decode cX11_put 22 = .ok (.aload_n 0, 1) := by decide +kernel
theorem dX11_put_23 : decode cX11_put 23 = .ok (.iload_n 1, 1) := by decide +kernel
theorem dX11_put_24 : decode cX11_put 24 = .ok (.invokevirtual 359, 3) := by decide +kernel
theorem dX11_put_27 : decode cX11_put 27 = .ok (.ifCond .ne 6, 3) := by decide +kernel
theorem dX11_put_30 : decode cX11_put 30 = .ok (.bipush (-12), 2) := by decide +kernel
theorem dX11_put_32 : decode cX11_put 32 = .ok (.ireturn, 1) := by decide +kernel
theorem dX11_put_33 : decode cX11_put 33 = .ok (.iload_n 2, 1) := by decide +kernel
theorem dX11_put_34 : decode cX11_put 34 = .ok (.iconst 0, 1) := by decide +kernel
theorem dX11_put_35 : decode cX11_put 35 = .ok (.aload_n 0, 1) := by decide +kernel
theorem dX11_put_36 : decode cX11_put 36 = .ok (.getfield 78, 3) := by decide +kernel
theorem dX11_put_39 : decode cX11_put 39 = .ok (.iload_n 1, 1) := by decide +kernel
theorem dX11_put_40 : decode cX11_put 40 = .ok (.iaload, 1) := by decide +kernel
theorem dX11_put_41 : decode cX11_put 41 = .ok (.iconst 1, 1) := by decide +kernel
theorem dX11_put_42 : decode cX11_put 42 = .ok (.isub, 1) := by decide +kernel
theorem dX11_put_43 : decode cX11_put 43 = .ok (.invokestatic 97, 3) := by decide +kernel
theorem dX11_put_46 : decode cX11_put 46 = .ok (.ifCond .ne 6, 3) := by decide +kernel
theorem dX11_put_49 : decode cX11_put 49 = .ok (.bipush (-13), 2) := by decide +kernel
theorem dX11_put_51 : decode cX11_put 51 = .ok (.ireturn, 1) := by decide +kernel
theorem dX11_put_52 : decode cX11_put 52 = .ok (.aload_n 0, 1) := by decide +kernel
theorem dX11_put_53 : decode cX11_put 53 = .ok (.getfield 81, 3) := by decide +kernel
theorem dX11_put_56 : decode cX11_put 56 = .ok (.bipush 60, 2) := by decide +kernel
theorem dX11_put_58 : decode cX11_put 58 = .ok (.iload_n 1, 1) := by decide +kernel
theorem dX11_put_59 : decode cX11_put 59 = .ok (.imul, 1) := by decide +kernel
theorem dX11_put_60 : decode cX11_put 60 = .ok (.iload_n 2, 1) := by decide +kernel
theorem dX11_put_61 : decode cX11_put 61 = .ok (.iadd, 1) := by decide +kernel
theorem dX11_put_62 : decode cX11_put 62 = .ok (.aload_n 0, 1) := by decide +kernel
theorem dX11_put_63 : decode cX11_put 63 = .ok (.getfield 75, 3) := by decide +kernel
theorem dX11_put_66 : decode cX11_put 66 = .ok (.iload_n 1, 1) := by decide +kernel
theorem dX11_put_67 : decode cX11_put 67 = .ok (.iaload, 1) := by decide +kernel
theorem dX11_put_68 : decode cX11_put 68 = .ok (.lload_n 3, 1) := by decide +kernel
theorem dX11_put_69 : decode cX11_put 69 = .ok (.invokestatic 362, 3) := by decide +kernel
theorem dX11_put_72 : decode cX11_put 72 = .ok (.lastore, 1) := by decide +kernel
theorem dX11_put_73 : decode cX11_put 73 = .ok (.iconst 1, 1) := by decide +kernel
theorem dX11_put_74 : decode cX11_put 74 = .ok (.ireturn, 1) := by decide +kernel
theorem dX11_element_0 : decode cX11_element 0 = .ok (.iload_n 1, 1) := by decide +kernel
theorem dX11_element_1 : decode cX11_element 1 = .ok (.invokestatic 113, 3) := by decide +kernel
theorem dX11_element_4 : decode cX11_element 4 = .ok (.ifCond .eq 41, 3) := by decide +kernel
theorem dX11_element_7 : decode cX11_element 7 = .ok (.aload_n 0, 1) := by decide +kernel
theorem dX11_element_8 : decode cX11_element 8 = .ok (.iload_n 1, 1) := by decide +kernel
theorem dX11_element_9 : decode cX11_element 9 = .ok (.invokevirtual 359, 3) := by decide +kernel
theorem dX11_element_12 : decode cX11_element 12 = .ok (.ifCond .eq 33, 3) := by decide +kernel
theorem dX11_element_15 : decode cX11_element 15 = .ok (.iload_n 2, 1) := by decide +kernel
theorem dX11_element_16 : decode cX11_element 16 = .ok (.iconst 0, 1) := by decide +kernel
theorem dX11_element_17 : decode cX11_element 17 = .ok (.aload_n 0, 1) := by decide +kernel
theorem dX11_element_18 : decode cX11_element 18 = .ok (.getfield 78, 3) := by decide +kernel
theorem dX11_element_21 : decode cX11_element 21 = .ok (.iload_n 1, 1) := by decide +kernel
theorem dX11_element_22 : decode cX11_element 22 = .ok (.iaload, 1) := by decide +kernel
theorem dX11_element_23 : decode cX11_element 23 = .ok (.iconst 1, 1) := by decide +kernel
theorem dX11_element_24 : decode cX11_element 24 = .ok (.isub, 1) := by decide +kernel
theorem dX11_element_25 : decode cX11_element 25 = .ok (.invokestatic 97, 3) := by decide +kernel
theorem dX11_element_28 : decode cX11_element 28 = .ok (.ifCond .eq 17, 3) := by decide +kernel
theorem dX11_element_31 : decode cX11_element 31 = .ok (.aload_n 0, 1) := by decide +kernel
theorem dX11_element_32 : decode cX11_element 32 = .ok (.getfield 81, 3) := by decide +kernel
theorem dX11_element_35 : decode cX11_element 35 = .ok (.bipush 60, 2) := by decide +kernel
theorem dX11_element_37 : decode cX11_element 37 = .ok (.iload_n 1, 1) := by decide +kernel
theorem dX11_element_38 : decode cX11_element 38 = .ok (.imul, 1) := by decide +kernel
theorem dX11_element_39 : decode cX11_element 39 = .ok (.iload_n 2, 1) := by decide +kernel
theorem dX11_element_40 : decode cX11_element 40 = .ok (.iadd, 1) := by decide +kernel
theorem dX11_element_41 : decode cX11_element 41 = .ok (.laload, 1) := by decide +kernel
theorem dX11_element_42 : decode cX11_element 42 = .ok (.goto 6, 3) := by decide +kernel
theorem dX11_element_45 : decode cX11_element 45 = .ok (.ldc2_w 273, 3) := by decide +kernel
theorem dX11_element_48 : decode cX11_element 48 = .ok (.lreturn, 1) := by decide +kernel
theorem dX11_shift_0 : decode cX11_shift 0 = .ok (.iload_n 1, 1) := by decide +kernel
theorem dX11_shift_1 : decode cX11_shift 1 = .ok (.invokestatic 113, 3) := by decide +kernel
theorem dX11_shift_4 : decode cX11_shift 4 = .ok (.ifCond .eq 10, 3) := by decide +kernel
theorem dX11_shift_7 : decode cX11_shift 7 = .ok (.iload_n 3, 1) := by decide +kernel
theorem dX11_shift_8 : decode cX11_shift 8 = .ok (.invokestatic 113, 3) := by decide +kernel
theorem dX11_shift_11 : decode cX11_shift 11 = .ok (.ifCond .ne 5, 3) := by decide +kernel
theorem dX11_shift_14 : decode cX11_shift 14 = .ok (.iconst (-1), 1) := by decide +kernel
theorem dX11_shift_15 : decode cX11_shift 15 = .ok (.ireturn, 1) := by decide +kernel
theorem dX11_shift_16 : decode cX11_shift 16 = .ok (.aload_n 0, 1) := by decide +kernel
theorem dX11_shift_17 : decode cX11_shift 17 = .ok (.getfield 75, 3) := by decide +kernel
theorem dX11_shift_20 : decode cX11_shift 20 = .ok (.iload_n 1, 1) := by decide +kernel
theorem dX11_shift_21 : decode cX11_shift 21 = .ok (.iaload, 1) := by decide +kernel
theorem dX11_shift_22 : decode cX11_shift 22 = .ok (.iconst (-1), 1) := by decide +kernel
theorem dX11_shift_23 : decode cX11_shift 23 = .ok (.if_icmp .eq 13, 3) := by decide +kernel
theorem dX11_shift_26 : decode cX11_shift 26 = .ok (.aload_n 0, 1) := by decide +kernel
theorem dX11_shift_27 : decode cX11_shift 27 = .ok (.getfield 75, 3) := by decide +kernel
theorem dX11_shift_30 : decode cX11_shift 30 = .ok (.iload_n 3, 1) := by decide +kernel
theorem dX11_shift_31 : decode cX11_shift 31 = .ok (.iaload, 1) := by decide +kernel
theorem dX11_shift_32 : decode cX11_shift 32 = .ok (.iconst (-1), 1) := by decide +kernel
theorem dX11_shift_33 : decode cX11_shift 33 = .ok (.if_icmp .ne 6, 3) := by decide +kernel
theorem dX11_shift_36 : decode cX11_shift 36 = .ok (.bipush (-11), 2) := by decide +kernel
theorem dX11_shift_38 : decode cX11_shift 38 = .ok (.ireturn, 1) := by decide +kernel
theorem dX11_shift_39 : decode cX11_shift 39 = .ok (.aload_n 0, 1) := by decide +kernel
theorem dX11_shift_40 : decode cX11_shift 40 = .ok (.iload_n 1, 1) := by decide +kernel
theorem dX11_shift_41 : decode cX11_shift 41 = .ok (.invokevirtual 359, 3) := by decide +kernel
theorem dX11_shift_44 : decode cX11_shift 44 = .ok (.ifCond .eq 26, 3) := by decide +kernel
theorem dX11_shift_47 : decode cX11_shift 47 = .ok (.aload_n 0, 1) := by decide +kernel
theorem dX11_shift_48 : decode cX11_shift 48 = .ok (.iload_n 3, 1) := by decide +kernel
theorem dX11_shift_49 : decode cX11_shift 49 = .ok (.invokevirtual 359, 3) := by decide +kernel
theorem dX11_shift_52 : decode cX11_shift 52 = .ok (.ifCond .eq 18, 3) := by decide +kernel
theorem dX11_shift_55 : decode cX11_shift 55 = .ok (.aload_n 0, 1) := by decide +kernel
theorem dX11_shift_56 : decode cX11_shift 56 = .ok (.getfield 75, 3) := by decide +kernel
theorem dX11_shift_59 : decode cX11_shift 59 = .ok (.iload_n 1, 1) := by decide +kernel
theorem dX11_shift_60 : decode cX11_shift 60 = .ok (.iaload, 1) := by decide +kernel
theorem dX11_shift_61 : decode cX11_shift 61 = .ok (.aload_n 0, 1) := by decide +kernel
theorem dX11_shift_62 : decode cX11_shift 62 = .ok (.getfield 75, 3) := by decide +kernel
theorem dX11_shift_65 : decode cX11_shift 65 = .ok (.iload_n 3, 1) := by decide +kernel
theorem dX11_shift_66 : decode cX11_shift 66 = .ok (.iaload, 1) := by decide +kernel
theorem dX11_shift_67 : decode cX11_shift 67 = .ok (.if_icmp .eq 6, 3) := by decide +kernel
theorem dX11_shift_70 : decode cX11_shift 70 = .ok (.bipush (-12), 2) := by decide +kernel
theorem dX11_shift_72 : decode cX11_shift 72 = .ok (.ireturn, 1) := by decide +kernel
theorem dX11_shift_73 : decode cX11_shift 73 = .ok (.iload 5, 2) := by decide +kernel
theorem dX11_shift_75 : decode cX11_shift 75 = .ok (.ifCond .lt 47, 3) := by decide +kernel
theorem dX11_shift_78 : decode cX11_shift 78 = .ok (.iload_n 2, 1) := by decide +kernel
theorem dX11_shift_79 : decode cX11_shift 79 = .ok (.ifCond .lt 43, 3) := by decide +kernel
theorem dX11_shift_82 : decode cX11_shift 82 = .ok (.iload 4, 2) := by decide +kernel
theorem dX11_shift_84 : decode cX11_shift 84 = .ok (.ifCond .lt 38, 3) := by decide +kernel
theorem dX11_shift_87 : decode cX11_shift 87 = .ok (.iload_n 2, 1) := by decide +kernel
theorem dX11_shift_88 : decode cX11_shift 88 = .ok (.i2l, 1) := by decide +kernel
theorem dX11_shift_89 : decode cX11_shift 89 = .ok (.iload 5, 2) := by decide +kernel
theorem dX11_shift_91 : decode cX11_shift 91 = .ok (.i2l, 1) := by decide +kernel
theorem dX11_shift_92 : decode cX11_shift 92 = .ok (.ladd, 1) := by decide +kernel
theorem dX11_shift_93 : decode cX11_shift 93 = .ok (.aload_n 0, 1) := by decide +kernel
theorem dX11_shift_94 : decode cX11_shift 94 = .ok (.getfield 78, 3) := by decide +kernel
theorem dX11_shift_97 : decode cX11_shift 97 = .ok (.iload_n 1, 1) := by decide +kernel
theorem dX11_shift_98 : decode cX11_shift 98 = .ok (.iaload, 1) := by decide +kernel
theorem dX11_shift_99 : decode cX11_shift 99 = .ok (.i2l, 1) := by decide +kernel
theorem dX11_shift_100 : decode cX11_shift 100 = .ok (.lcmp, 1) := by decide +kernel
theorem dX11_shift_101 : decode cX11_shift 101 = .ok (.ifCond .gt 21, 3) := by decide +kernel
theorem dX11_shift_104 : decode cX11_shift 104 = .ok (.iload 4, 2) := by decide +kernel
theorem dX11_shift_106 : decode cX11_shift 106 = .ok (.i2l, 1) := by decide +kernel
theorem dX11_shift_107 : decode cX11_shift 107 = .ok (.iload 5, 2) := by decide +kernel
theorem dX11_shift_109 : decode cX11_shift 109 = .ok (.i2l, 1) := by decide +kernel
theorem dX11_shift_110 : decode cX11_shift 110 = .ok (.ladd, 1) := by decide +kernel
theorem dX11_shift_111 : decode cX11_shift 111 = .ok (.aload_n 0, 1) := by decide +kernel
theorem dX11_shift_112 : decode cX11_shift 112 = .ok (.getfield 78, 3) := by decide +kernel
theorem dX11_shift_115 : decode cX11_shift 115 = .ok (.iload_n 3, 1) := by decide +kernel
theorem dX11_shift_116 : decode cX11_shift 116 = .ok (.iaload, 1) := by decide +kernel
theorem dX11_shift_117 : decode cX11_shift 117 = .ok (.i2l, 1) := by decide +kernel
theorem dX11_shift_118 : decode cX11_shift 118 = .ok (.lcmp, 1) := by decide +kernel
theorem dX11_shift_119 : decode cX11_shift 119 = .ok (.ifCond .le 6, 3) := by decide +kernel
theorem dX11_shift_122 : decode cX11_shift 122 = .ok (.bipush (-13), 2) := by decide +kernel
theorem dX11_shift_124 : decode cX11_shift 124 = .ok (.ireturn, 1) := by decide +kernel
theorem dX11_shift_125 : decode cX11_shift 125 = .ok (.iload_n 1, 1) := by decide +kernel
theorem dX11_shift_126 : decode cX11_shift 126 = .ok (.iload_n 3, 1) := by decide +kernel
theorem dX11_shift_127 : decode cX11_shift 127 = .ok (.if_icmp .ne 58, 3) := by decide +kernel
theorem dX11_shift_130 : decode cX11_shift 130 = .ok (.iload_n 2, 1) := by decide +kernel
theorem dX11_shift_131 : decode cX11_shift 131 = .ok (.iload 4, 2) := by decide +kernel
theorem dX11_shift_133 : decode cX11_shift 133 = .ok (.if_icmp .ge 52, 3) := by decide +kernel
theorem dX11_shift_136 : decode cX11_shift 136 = .ok (.iload 5, 2) := by decide +kernel
theorem dX11_shift_138 : decode cX11_shift 138 = .ok (.iconst 1, 1) := by decide +kernel
theorem dX11_shift_139 : decode cX11_shift 139 = .ok (.isub, 1) := by decide +kernel
theorem dX11_shift_140 : decode cX11_shift 140 = .ok (.istore 6, 2) := by decide +kernel
theorem dX11_shift_142 : decode cX11_shift 142 = .ok (.iload 6, 2) := by decide +kernel
theorem dX11_shift_144 : decode cX11_shift 144 = .ok (.ifCond .lt 38, 3) := by decide +kernel
theorem dX11_shift_147 : decode cX11_shift 147 = .ok (.aload_n 0, 1) := by decide +kernel
theorem dX11_shift_148 : decode cX11_shift 148 = .ok (.getfield 81, 3) := by decide +kernel
theorem dX11_shift_151 : decode cX11_shift 151 = .ok (.bipush 60, 2) := by decide +kernel
theorem dX11_shift_153 : decode cX11_shift 153 = .ok (.iload_n 3, 1) := by decide +kernel
theorem dX11_shift_154 : decode cX11_shift 154 = .ok (.imul, 1) := by decide +kernel
theorem dX11_shift_155 : decode cX11_shift 155 = .ok (.iload 4, 2) := by decide +kernel
theorem dX11_shift_157 : decode cX11_shift 157 = .ok (.iadd, 1) := by decide +kernel
theorem dX11_shift_158 : decode cX11_shift 158 = .ok (.iload 6, 2) := by decide +kernel
theorem dX11_shift_160 : decode cX11_shift 160 = .ok (.iadd, 1) := by decide +kernel
theorem dX11_shift_161 : decode cX11_shift 161 = .ok (.aload_n 0, 1) := by decide +kernel
theorem dX11_shift_162 : decode cX11_shift 162 = .ok (.getfield 81, 3) := by decide +kernel
theorem dX11_shift_165 : decode cX11_shift 165 = .ok (.bipush 60, 2) := by decide +kernel
theorem dX11_shift_167 : decode cX11_shift 167 = .ok (.iload_n 1, 1) := by decide +kernel
theorem dX11_shift_168 : decode cX11_shift 168 = .ok (.imul, 1) := by decide +kernel
theorem dX11_shift_169 : decode cX11_shift 169 = .ok (.iload_n 2, 1) := by decide +kernel
theorem dX11_shift_170 : decode cX11_shift 170 = .ok (.iadd, 1) := by decide +kernel
theorem dX11_shift_171 : decode cX11_shift 171 = .ok (.iload 6, 2) := by decide +kernel
theorem dX11_shift_173 : decode cX11_shift 173 = .ok (.iadd, 1) := by decide +kernel
theorem dX11_shift_174 : decode cX11_shift 174 = .ok (.laload, 1) := by decide +kernel
theorem dX11_shift_175 : decode cX11_shift 175 = .ok (.lastore, 1) := by decide +kernel
theorem dX11_shift_176 : decode cX11_shift 176 = .ok (.iinc 6 (-1), 3) := by decide +kernel
theorem dX11_shift_179 : decode cX11_shift 179 = .ok (.goto (-37), 3) := by decide +kernel
theorem dX11_shift_182 : decode cX11_shift 182 = .ok (.goto 48, 3) := by decide +kernel
theorem dX11_shift_185 : decode cX11_shift 185 = .ok (.iconst 0, 1) := by decide +kernel
theorem dX11_shift_186 : decode cX11_shift 186 = .ok (.istore 6, 2) := by decide +kernel
theorem dX11_shift_188 : decode cX11_shift 188 = .ok (.iload 6, 2) := by decide +kernel
theorem dX11_shift_190 : decode cX11_shift 190 = .ok (.iload 5, 2) := by decide +kernel
theorem dX11_shift_192 : decode cX11_shift 192 = .ok (.if_icmp .ge 38, 3) := by decide +kernel
theorem dX11_shift_195 : decode cX11_shift 195 = .ok (.aload_n 0, 1) := by decide +kernel
theorem dX11_shift_196 : decode cX11_shift 196 = .ok (.getfield 81, 3) := by decide +kernel
theorem dX11_shift_199 : decode cX11_shift 199 = .ok (.bipush 60, 2) := by decide +kernel
theorem dX11_shift_201 : decode cX11_shift 201 = .ok (.iload_n 3, 1) := by decide +kernel
theorem dX11_shift_202 : decode cX11_shift 202 = .ok (.imul, 1) := by decide +kernel
theorem dX11_shift_203 : decode cX11_shift 203 = .ok (.iload 4, 2) := by decide +kernel
theorem dX11_shift_205 : decode cX11_shift 205 = .ok (.iadd, 1) := by decide +kernel
theorem dX11_shift_206 : decode cX11_shift 206 = .ok (.iload 6, 2) := by decide +kernel
theorem dX11_shift_208 : decode cX11_shift 208 = .ok (.iadd, 1) := by decide +kernel
theorem dX11_shift_209 : decode cX11_shift 209 = .ok (.aload_n 0, 1) := by decide +kernel
theorem dX11_shift_210 : decode cX11_shift 210 = .ok (.getfield 81, 3) := by decide +kernel
theorem dX11_shift_213 : decode cX11_shift 213 = .ok (.bipush 60, 2) := by decide +kernel
theorem dX11_shift_215 : decode cX11_shift 215 = .ok (.iload_n 1, 1) := by decide +kernel
theorem dX11_shift_216 : decode cX11_shift 216 = .ok (.imul, 1) := by decide +kernel
theorem dX11_shift_217 : decode cX11_shift 217 = .ok (.iload_n 2, 1) := by decide +kernel
theorem dX11_shift_218 : decode cX11_shift 218 = .ok (.iadd, 1) := by decide +kernel
theorem dX11_shift_219 : decode cX11_shift 219 = .ok (.iload 6, 2) := by decide +kernel
theorem dX11_shift_221 : decode cX11_shift 221 = .ok (.iadd, 1) := by decide +kernel
theorem dX11_shift_222 : decode cX11_shift 222 = .ok (.laload, 1) := by decide +kernel
theorem dX11_shift_223 : decode cX11_shift 223 = .ok (.lastore, 1) := by decide +kernel
theorem dX11_shift_224 : decode cX11_shift 224 = .ok (.iinc 6 1, 3) := by decide +kernel
theorem dX11_shift_227 : decode cX11_shift 227 = .ok (.goto (-39), 3) := by decide +kernel
theorem dX11_shift_230 : decode cX11_shift 230 = .ok (.iload 5, 2) := by decide +kernel
theorem dX11_shift_232 : decode cX11_shift 232 = .ok (.ireturn, 1) := by decide +kernel
theorem dX11_taken_0 : decode cX11_taken 0 = .ok (.iload_n 1, 1) := by decide +kernel
theorem dX11_taken_1 : decode cX11_taken 1 = .ok (.invokestatic 113, 3) := by decide +kernel
theorem dX11_taken_4 : decode cX11_taken 4 = .ok (.ifCond .eq 13, 3) := by decide +kernel
theorem dX11_taken_7 : decode cX11_taken 7 = .ok (.iload_n 2, 1) := by decide +kernel
theorem dX11_taken_8 : decode cX11_taken 8 = .ok (.iconst 0, 1) := by decide +kernel
theorem dX11_taken_9 : decode cX11_taken 9 = .ok (.bipush 7, 2) := by decide +kernel
theorem dX11_taken_11 : decode cX11_taken 11 = .ok (.invokestatic 97, 3) := by decide +kernel
theorem dX11_taken_14 : decode cX11_taken 14 = .ok (.ifCond .ne 5, 3) := by decide +kernel
theorem dX11_taken_17 : decode cX11_taken 17 = .ok (.iconst (-1), 1) := by decide +kernel
theorem dX11_taken_18 : decode cX11_taken 18 = .ok (.ireturn, 1) := by decide +kernel
theorem dX11_taken_19 : decode cX11_taken 19 = .ok (.aload_n 0, 1) := by decide +kernel
theorem dX11_taken_20 : decode cX11_taken 20 = .ok (.getfield 75, 3) := by decide +kernel
theorem dX11_taken_23 : decode cX11_taken 23 = .ok (.iload_n 1, 1) := by decide +kernel
theorem dX11_taken_24 : decode cX11_taken 24 = .ok (.iaload, 1) := by decide +kernel
theorem dX11_taken_25 : decode cX11_taken 25 = .ok (.iconst (-1), 1) := by decide +kernel
theorem dX11_taken_26 : decode cX11_taken 26 = .ok (.if_icmp .ne 6, 3) := by decide +kernel
theorem dX11_taken_29 : decode cX11_taken 29 = .ok (.bipush (-11), 2) := by decide +kernel
theorem dX11_taken_31 : decode cX11_taken 31 = .ok (.ireturn, 1) := by decide +kernel
theorem dX11_taken_32 : decode cX11_taken 32 = .ok (.aload_n 0, 1) := by decide +kernel
theorem dX11_taken_33 : decode cX11_taken 33 = .ok (.iload_n 1, 1) := by decide +kernel
theorem dX11_taken_34 : decode cX11_taken 34 = .ok (.invokevirtual 359, 3) := by decide +kernel
theorem dX11_taken_37 : decode cX11_taken 37 = .ok (.ifCond .eq 6, 3) := by decide +kernel
theorem dX11_taken_40 : decode cX11_taken 40 = .ok (.bipush (-12), 2) := by decide +kernel
theorem dX11_taken_42 : decode cX11_taken 42 = .ok (.ireturn, 1) := by decide +kernel
theorem dX11_taken_43 : decode cX11_taken 43 = .ok (.aload_n 0, 1) := by decide +kernel
theorem dX11_taken_44 : decode cX11_taken 44 = .ok (.getfield 69, 3) := by decide +kernel
theorem dX11_taken_47 : decode cX11_taken 47 = .ok (.aload_n 0, 1) := by decide +kernel
theorem dX11_taken_48 : decode cX11_taken 48 = .ok (.getfield 75, 3) := by decide +kernel
theorem dX11_taken_51 : decode cX11_taken 51 = .ok (.iload_n 1, 1) := by decide +kernel
theorem dX11_taken_52 : decode cX11_taken 52 = .ok (.iaload, 1) := by decide +kernel
theorem dX11_taken_53 : decode cX11_taken 53 = .ok (.bipush 10, 2) := by decide +kernel
theorem dX11_taken_55 : decode cX11_taken 55 = .ok (.isub, 1) := by decide +kernel
theorem dX11_taken_56 : decode cX11_taken 56 = .ok (.iaload, 1) := by decide +kernel
theorem dX11_taken_57 : decode cX11_taken 57 = .ok (.istore_n 3, 1) := by decide +kernel
theorem dX11_taken_58 : decode cX11_taken 58 = .ok (.iload_n 3, 1) := by decide +kernel
theorem dX11_taken_59 : decode cX11_taken 59 = .ok (.istore 4, 2) := by decide +kernel
theorem dX11_taken_61 : decode cX11_taken 61 = .ok (.iload 4, 2) := by decide +kernel
theorem dX11_taken_63 : decode cX11_taken 63 = .ok (.iload_n 2, 1) := by decide +kernel
theorem dX11_taken_64 : decode cX11_taken 64 = .ok (.if_icmp .eq 18, 3) := by decide +kernel
theorem dX11_taken_67 : decode cX11_taken 67 = .ok (.iload 4, 2) := by decide +kernel
theorem dX11_taken_69 : decode cX11_taken 69 = .ok (.ifCond .le 13, 3) := by decide +kernel
theorem dX11_taken_72 : decode cX11_taken 72 = .ok (.iload 4, 2) := by decide +kernel
theorem dX11_taken_74 : decode cX11_taken 74 = .ok (.invokestatic 345, 3) := by decide +kernel
theorem dX11_taken_77 : decode cX11_taken 77 = .ok (.istore 4, 2) := by decide +kernel
theorem dX11_taken_79 : decode cX11_taken 79 = .ok (.goto (-18), 3) := by decide +kernel
theorem dX11_taken_82 : decode cX11_taken 82 = .ok (.iload 4, 2) := by decide +kernel
theorem dX11_taken_84 : decode cX11_taken 84 = .ok (.iload_n 2, 1) := by decide +kernel
theorem dX11_taken_85 : decode cX11_taken 85 = .ok (.if_icmp .ne 7, 3) := by decide +kernel
theorem dX11_taken_88 : decode cX11_taken 88 = .ok (.iload_n 3, 1) := by decide +kernel
theorem dX11_taken_89 : decode cX11_taken 89 = .ok (.goto 5, 3) := by decide +kernel
theorem dX11_taken_92 : decode cX11_taken 92 = .ok (.bipush (-12), 2) := by decide +kernel
theorem dX11_taken_94 : decode cX11_taken 94 = .ok (.ireturn, 1) := by decide +kernel
theorem dX11_count_0 : decode cX11_count 0 = .ok (.iconst 0, 1) := by decide +kernel
theorem dX11_count_1 : decode cX11_count 1 = .ok (.istore_n 2, 1) := by decide +kernel
theorem dX11_count_2 : decode cX11_count 2 = .ok (.iload_n 1, 1) := by decide +kernel
theorem dX11_count_3 : decode cX11_count 3 = .ok (.tableswitch 90 0 5 #[37, 42, 70, 75, 80, 85], 37) := by decide +kernel
theorem dX11_count_40 : decode cX11_count 40 = .ok (.aload_n 0, 1) := by decide +kernel
theorem dX11_count_41 : decode cX11_count 41 = .ok (.getfield 101, 3) := by decide +kernel
theorem dX11_count_44 : decode cX11_count 44 = .ok (.ireturn, 1) := by decide +kernel
theorem dX11_count_45 : decode cX11_count 45 = .ok (.iconst 0, 1) := by decide +kernel
theorem dX11_count_46 : decode cX11_count 46 = .ok (.istore_n 3, 1) := by decide +kernel
theorem dX11_count_47 : decode cX11_count 47 = .ok (.iload_n 3, 1) := by decide +kernel
theorem dX11_count_48 : decode cX11_count 48 = .ok (.bipush 36, 2) := by decide +kernel
theorem dX11_count_50 : decode cX11_count 50 = .ok (.if_icmp .ge 21, 3) := by decide +kernel
theorem dX11_count_53 : decode cX11_count 53 = .ok (.aload_n 0, 1) := by decide +kernel
theorem dX11_count_54 : decode cX11_count 54 = .ok (.getfield 15, 3) := by decide +kernel
theorem dX11_count_57 : decode cX11_count 57 = .ok (.iload_n 3, 1) := by decide +kernel
theorem dX11_count_58 : decode cX11_count 58 = .ok (.iaload, 1) := by decide +kernel
theorem dX11_count_59 : decode cX11_count 59 = .ok (.ifCond .le 6, 3) := by decide +kernel
theorem dX11_count_62 : decode cX11_count 62 = .ok (.iinc 2 1, 3) := by decide +kernel
theorem dX11_count_65 : decode cX11_count 65 = .ok (.iinc 3 1, 3) := by decide +kernel
theorem dX11_count_68 : decode cX11_count 68 = .ok (.goto (-21), 3) := by decide +kernel
theorem dX11_count_71 : decode cX11_count 71 = .ok (.iload_n 2, 1) := by decide +kernel
theorem dX11_count_72 : decode cX11_count 72 = .ok (.ireturn, 1) := by decide +kernel
theorem dX11_count_73 : decode cX11_count 73 = .ok (.aload_n 0, 1) := by decide +kernel
theorem dX11_count_74 : decode cX11_count 74 = .ok (.getfield 148, 3) := by decide +kernel
theorem dX11_count_77 : decode cX11_count 77 = .ok (.ireturn, 1) := by decide +kernel
theorem dX11_count_78 : decode cX11_count 78 = .ok (.aload_n 0, 1) := by decide +kernel
theorem dX11_count_79 : decode cX11_count 79 = .ok (.getfield 142, 3) := by decide +kernel
theorem dX11_count_82 : decode cX11_count 82 = .ok (.ireturn, 1) := by decide +kernel
theorem dX11_count_83 : decode cX11_count 83 = .ok (.aload_n 0, 1) := by decide +kernel
theorem dX11_count_84 : decode cX11_count 84 = .ok (.getfield 356, 3) := by decide +kernel
theorem dX11_count_87 : decode cX11_count 87 = .ok (.ireturn, 1) := by decide +kernel
theorem dX11_count_88 : decode cX11_count 88 = .ok (.aload_n 0, 1) := by decide +kernel
theorem dX11_count_89 : decode cX11_count 89 = .ok (.getfield 337, 3) := by decide +kernel
theorem dX11_count_92 : decode cX11_count 92 = .ok (.ireturn, 1) := by decide +kernel
theorem dX11_count_93 : decode cX11_count 93 = .ok (.iconst (-1), 1) := by decide +kernel
theorem dX11_count_94 : decode cX11_count 94 = .ok (.ireturn, 1) := by decide +kernel
theorem dJ9_max_7cf53_0 : decode cJ9_max_7cf53 0 = .ok (.iload_n 0, 1) := by decide +kernel
theorem dJ9_max_7cf53_1 : decode cJ9_max_7cf53 1 = .ok (.iload_n 1, 1) := by decide +kernel
theorem dJ9_max_7cf53_2 : decode cJ9_max_7cf53 2 = .ok (.if_icmp .lt 7, 3) := by decide +kernel
theorem dJ9_max_7cf53_5 : decode cJ9_max_7cf53 5 = .ok (.iload_n 0, 1) := by decide +kernel
theorem dJ9_max_7cf53_6 : decode cJ9_max_7cf53 6 = .ok (.goto 4, 3) := by decide +kernel
theorem dJ9_max_7cf53_9 : decode cJ9_max_7cf53 9 = .ok (.iload_n 1, 1) := by decide +kernel
theorem dJ9_max_7cf53_10 : decode cJ9_max_7cf53 10 = .ok (.ireturn, 1) := by decide +kernel
theorem dJ9_min_7cf53_0 : decode cJ9_min_7cf53 0 = .ok (.iload_n 0, 1) := by decide +kernel
theorem dJ9_min_7cf53_1 : decode cJ9_min_7cf53 1 = .ok (.iload_n 1, 1) := by decide +kernel
theorem dJ9_min_7cf53_2 : decode cJ9_min_7cf53 2 = .ok (.if_icmp .gt 7, 3) := by decide +kernel
theorem dJ9_min_7cf53_5 : decode cJ9_min_7cf53 5 = .ok (.iload_n 0, 1) := by decide +kernel
theorem dJ9_min_7cf53_6 : decode cJ9_min_7cf53 6 = .ok (.goto 4, 3) := by decide +kernel
theorem dJ9_min_7cf53_9 : decode cJ9_min_7cf53 9 = .ok (.iload_n 1, 1) := by decide +kernel
theorem dJ9_min_7cf53_10 : decode cJ9_min_7cf53 10 = .ok (.ireturn, 1) := by decide +kernel
theorem dJ7_fill_d0a16_0 : decode cJ7_fill_d0a16 0 = .ok (.iconst 0, 1) := by decide +kernel
theorem dJ7_fill_d0a16_1 : decode cJ7_fill_d0a16 1 = .ok (.istore_n 3, 1) := by decide +kernel
theorem dJ7_fill_d0a16_2 : decode cJ7_fill_d0a16 2 = .ok (.aload_n 0, 1) := by decide +kernel
theorem dJ7_fill_d0a16_3 : decode cJ7_fill_d0a16 3 = .ok (.arraylength, 1) := by decide +kernel
theorem dJ7_fill_d0a16_4 : decode cJ7_fill_d0a16 4 = .ok (.istore 4, 2) := by decide +kernel
theorem dJ7_fill_d0a16_6 : decode cJ7_fill_d0a16 6 = .ok (.iload_n 3, 1) := by decide +kernel
theorem dJ7_fill_d0a16_7 : decode cJ7_fill_d0a16 7 = .ok (.iload 4, 2) := by decide +kernel
theorem dJ7_fill_d0a16_9 : decode cJ7_fill_d0a16 9 = .ok (.if_icmp .ge 13, 3) := by decide +kernel
theorem dJ7_fill_d0a16_12 : decode cJ7_fill_d0a16 12 = .ok (.aload_n 0, 1) := by decide +kernel
theorem dJ7_fill_d0a16_13 : decode cJ7_fill_d0a16 13 = .ok (.iload_n 3, 1) := by decide +kernel
theorem dJ7_fill_d0a16_14 : decode cJ7_fill_d0a16 14 = .ok (.lload_n 1, 1) := by decide +kernel
theorem dJ7_fill_d0a16_15 : decode cJ7_fill_d0a16 15 = .ok (.lastore, 1) := by decide +kernel
theorem dJ7_fill_d0a16_16 : decode cJ7_fill_d0a16 16 = .ok (.iinc 3 1, 3) := by decide +kernel
theorem dJ7_fill_d0a16_19 : decode cJ7_fill_d0a16 19 = .ok (.goto (-13), 3) := by decide +kernel
theorem dJ7_fill_d0a16_22 : decode cJ7_fill_d0a16 22 = .ok (.return_, 1) := by decide +kernel
theorem dJ7_fill_53178_0 : decode cJ7_fill_53178 0 = .ok (.iconst 0, 1) := by decide +kernel
theorem dJ7_fill_53178_1 : decode cJ7_fill_53178 1 = .ok (.istore_n 2, 1) := by decide +kernel
theorem dJ7_fill_53178_2 : decode cJ7_fill_53178 2 = .ok (.aload_n 0, 1) := by decide +kernel
theorem dJ7_fill_53178_3 : decode cJ7_fill_53178 3 = .ok (.arraylength, 1) := by decide +kernel
theorem dJ7_fill_53178_4 : decode cJ7_fill_53178 4 = .ok (.istore_n 3, 1) := by decide +kernel
theorem dJ7_fill_53178_5 : decode cJ7_fill_53178 5 = .ok (.iload_n 2, 1) := by decide +kernel
theorem dJ7_fill_53178_6 : decode cJ7_fill_53178 6 = .ok (.iload_n 3, 1) := by decide +kernel
theorem dJ7_fill_53178_7 : decode cJ7_fill_53178 7 = .ok (.if_icmp .ge 13, 3) := by decide +kernel
theorem dJ7_fill_53178_10 : decode cJ7_fill_53178 10 = .ok (.aload_n 0, 1) := by decide +kernel
theorem dJ7_fill_53178_11 : decode cJ7_fill_53178 11 = .ok (.iload_n 2, 1) := by decide +kernel
theorem dJ7_fill_53178_12 : decode cJ7_fill_53178 12 = .ok (.iload_n 1, 1) := by decide +kernel
theorem dJ7_fill_53178_13 : decode cJ7_fill_53178 13 = .ok (.iastore, 1) := by decide +kernel
theorem dJ7_fill_53178_14 : decode cJ7_fill_53178 14 = .ok (.iinc 2 1, 3) := by decide +kernel
theorem dJ7_fill_53178_17 : decode cJ7_fill_53178 17 = .ok (.goto (-12), 3) := by decide +kernel
theorem dJ7_fill_53178_20 : decode cJ7_fill_53178 20 = .ok (.return_, 1) := by decide +kernel
theorem dL_law_0 : decode cL_law 0 = .ok (.new 7, 3) := by decide +kernel
theorem dL_law_3 : decode cL_law 3 = .ok (.dup, 1) := by decide +kernel
theorem dL_law_4 : decode cL_law 4 = .ok (.invokespecial 9, 3) := by decide +kernel
theorem dL_law_7 : decode cL_law 7 = .ok (.astore_n 1, 1) := by decide +kernel
theorem dL_law_8 : decode cL_law 8 = .ok (.new 10, 3) := by decide +kernel
theorem dL_law_11 : decode cL_law 11 = .ok (.dup, 1) := by decide +kernel
theorem dL_law_12 : decode cL_law 12 = .ok (.invokespecial 12, 3) := by decide +kernel
theorem dL_law_15 : decode cL_law 15 = .ok (.astore_n 2, 1) := by decide +kernel
theorem dL_law_16 : decode cL_law 16 = .ok (.iconst 0, 1) := by decide +kernel
theorem dL_law_17 : decode cL_law 17 = .ok (.istore_n 3, 1) := by decide +kernel
theorem dL_law_18 : decode cL_law 18 = .ok (.iload_n 3, 1) := by decide +kernel
theorem dL_law_19 : decode cL_law 19 = .ok (.aload_n 0, 1) := by decide +kernel
theorem dL_law_20 : decode cL_law 20 = .ok (.arraylength, 1) := by decide +kernel
theorem dL_law_21 : decode cL_law 21 = .ok (.bipush 6, 2) := by decide +kernel
theorem dL_law_23 : decode cL_law 23 = .ok (.isub, 1) := by decide +kernel
theorem dL_law_24 : decode cL_law 24 = .ok (.if_icmp .gt 1510, 3) := by decide +kernel
theorem dL_law_27 : decode cL_law 27 = .ok (.aload_n 0, 1) := by decide +kernel
theorem dL_law_28 : decode cL_law 28 = .ok (.iload_n 3, 1) := by decide +kernel
theorem dL_law_29 : decode cL_law 29 = .ok (.iaload, 1) := by decide +kernel
theorem dL_law_30 : decode cL_law 30 = .ok (.bipush 63, 2) := by decide +kernel
theorem dL_law_32 : decode cL_law 32 = .ok (.iand, 1) := by decide +kernel
theorem dL_law_33 : decode cL_law 33 = .ok (.tableswitch 1495 0 40 #[179, 202, 245, 288, 321, 344, 357, 380, 423, 456, 469, 502, 535, 559, 602, 645, 688, 721, 764, 797, 831, 874, 917, 930, 963, 996, 1029, 1052, 1065, 1078, 1091, 1104, 1127, 1170, 1193, 1226, 1269, 1342, 1376, 1439, 1472], 179) := by decide +kernel
theorem dL_law_212 : decode cL_law 212 = .ok (.aload_n 1, 1) := by decide +kernel
theorem dL_law_213 : decode cL_law 213 = .ok (.aload_n 0, 1) := by decide +kernel
theorem dL_law_214 : decode cL_law 214 = .ok (.iload_n 3, 1) := by decide +kernel
theorem dL_law_215 : decode cL_law 215 = .ok (.iconst 1, 1) := by decide +kernel
theorem dL_law_216 : decode cL_law 216 = .ok (.iadd, 1) := by decide +kernel
theorem dL_law_217 : decode cL_law 217 = .ok (.iaload, 1) := by decide +kernel
theorem dL_law_218 : decode cL_law 218 = .ok (.invokevirtual 13, 3) := by decide +kernel
theorem dL_law_221 : decode cL_law 221 = .ok (.aload_n 2, 1) := by decide +kernel
theorem dL_law_222 : decode cL_law 222 = .ok (.aload_n 0, 1) := by decide +kernel
theorem dL_law_223 : decode cL_law 223 = .ok (.iload_n 3, 1) := by decide +kernel
theorem dL_law_224 : decode cL_law 224 = .ok (.iconst 1, 1) := by decide +kernel
theorem dL_law_225 : decode cL_law 225 = .ok (.iadd, 1) := by decide +kernel
theorem dL_law_226 : decode cL_law 226 = .ok (.iaload, 1) := by decide +kernel
theorem dL_law_227 : decode cL_law 227 = .ok (.invokevirtual 17, 3) := by decide +kernel
theorem dL_law_230 : decode cL_law 230 = .ok (.if_icmp .eq 1298, 3) := by decide +kernel
theorem dL_law_233 : decode cL_law 233 = .ok (.iconst 0, 1) := by decide +kernel
theorem dL_law_234 : decode cL_law 234 = .ok (.ireturn, 1) := by decide +kernel
theorem dL_law_235 : decode cL_law 235 = .ok (.aload_n 1, 1) := by decide +kernel
theorem dL_law_236 : decode cL_law 236 = .ok (.aload_n 0, 1) := by decide +kernel
theorem dL_law_237 : decode cL_law 237 = .ok (.iload_n 3, 1) := by decide +kernel
theorem dL_law_238 : decode cL_law 238 = .ok (.iconst 1, 1) := by decide +kernel
theorem dL_law_239 : decode cL_law 239 = .ok (.iadd, 1) := by decide +kernel
theorem dL_law_240 : decode cL_law 240 = .ok (.iaload, 1) := by decide +kernel
theorem dL_law_241 : decode cL_law 241 = .ok (.aload_n 0, 1) := by decide +kernel
theorem dL_law_242 : decode cL_law 242 = .ok (.iload_n 3, 1) := by decide +kernel
theorem dL_law_243 : decode cL_law 243 = .ok (.iconst 2, 1) := by decide +kernel
theorem dL_law_244 : decode cL_law 244 = .ok (.iadd, 1) := by decide +kernel
theorem dL_law_245 : decode cL_law 245 = .ok (.iaload, 1) := by decide +kernel
theorem dL_law_246 : decode cL_law 246 = .ok (.aload_n 0, 1) := by decide +kernel
theorem dL_law_247 : decode cL_law 247 = .ok (.iload_n 3, 1) := by decide +kernel
theorem dL_law_248 : decode cL_law 248 = .ok (.iconst 3, 1) := by decide +kernel
theorem dL_law_249 : decode cL_law 249 = .ok (.iadd, 1) := by decide +kernel
theorem dL_law_250 : decode cL_law 250 = .ok (.iaload, 1) := by decide +kernel
theorem dL_law_251 : decode cL_law 251 = .ok (.invokevirtual 18, 3) := by decide +kernel
theorem dL_law_254 : decode cL_law 254 = .ok (.aload_n 2, 1) := by decide +kernel
theorem dL_law_255 : decode cL_law 255 = .ok (.aload_n 0, 1) := by decide +kernel
theorem dL_law_256 : decode cL_law 256 = .ok (.iload_n 3, 1) := by decide +kernel
theorem dL_law_257 : decode cL_law 257 = .ok (.iconst 1, 1) := by decide +kernel
theorem dL_law_258 : decode cL_law 258 = .ok (.iadd, 1) := by decide +kernel
theorem dL_law_259 : decode cL_law 259 = .ok (.iaload, 1) := by decide +kernel
theorem dL_law_260 : decode cL_law 260 = .ok (.aload_n 0, 1) := by decide +kernel
theorem dL_law_261 : decode cL_law 261 = .ok (.iload_n 3, 1) := by decide +kernel
theorem dL_law_262 : decode cL_law 262 = .ok (.iconst 2, 1) := by decide +kernel
theorem dL_law_263 : decode cL_law 263 = .ok (.iadd, 1) := by decide +kernel
theorem dL_law_264 : decode cL_law 264 = .ok (.iaload, 1) := by decide +kernel
theorem dL_law_265 : decode cL_law 265 = .ok (.aload_n 0, 1) := by decide +kernel
theorem dL_law_266 : decode cL_law 266 = .ok (.iload_n 3, 1) := by decide +kernel
theorem dL_law_267 : decode cL_law 267 = .ok (.iconst 3, 1) := by decide +kernel
theorem dL_law_268 : decode cL_law 268 = .ok (.iadd, 1) := by decide +kernel
theorem dL_law_269 : decode cL_law 269 = .ok (.iaload, 1) := by decide +kernel
theorem dL_law_270 : decode cL_law 270 = .ok (.invokevirtual 22, 3) := by decide +kernel
theorem dL_law_273 : decode cL_law 273 = .ok (.if_icmp .eq 1255, 3) := by decide +kernel
theorem dL_law_276 : decode cL_law 276 = .ok (.iconst 0, 1) := by decide +kernel
theorem dL_law_277 : decode cL_law 277 = .ok (.ireturn, 1) := by decide +kernel
theorem dL_law_278 : decode cL_law 278 = .ok (.aload_n 1, 1) := by decide +kernel
theorem dL_law_279 : decode cL_law 279 = .ok (.aload_n 0, 1) := by decide +kernel
theorem dL_law_280 : decode cL_law 280 = .ok (.iload_n 3, 1) := by decide +kernel
theorem dL_law_281 : decode cL_law 281 = .ok (.iconst 1, 1) := by decide +kernel
theorem dL_law_282 : decode cL_law 282 = .ok (.iadd, 1) := by decide +kernel
theorem dL_law_283 : decode cL_law 283 = .ok (.iaload, 1) := by decide +kernel
theorem dL_law_284 : decode cL_law 284 = .ok (.aload_n 0, 1) := by decide +kernel
theorem dL_law_285 : decode cL_law 285 = .ok (.iload_n 3, 1) := by decide +kernel
theorem dL_law_286 : decode cL_law 286 = .ok (.iconst 2, 1) := by decide +kernel
theorem dL_law_287 : decode cL_law 287 = .ok (.iadd, 1) := by decide +kernel
theorem dL_law_288 : decode cL_law 288 = .ok (.iaload, 1) := by decide +kernel
theorem dL_law_289 : decode cL_law 289 = .ok (.aload_n 0, 1) := by decide +kernel
theorem dL_law_290 : decode cL_law 290 = .ok (.iload_n 3, 1) := by decide +kernel
theorem dL_law_291 : decode cL_law 291 = .ok (.iconst 3, 1) := by decide +kernel
theorem dL_law_292 : decode cL_law 292 = .ok (.iadd, 1) := by decide +kernel
theorem dL_law_293 : decode cL_law 293 = .ok (.iaload, 1) := by decide +kernel
theorem dL_law_294 : decode cL_law 294 = .ok (.invokevirtual 23, 3) := by decide +kernel
theorem dL_law_297 : decode cL_law 297 = .ok (.aload_n 2, 1) := by decide +kernel
theorem dL_law_298 : decode cL_law 298 = .ok (.aload_n 0, 1) := by decide +kernel
theorem dL_law_299 : decode cL_law 299 = .ok (.iload_n 3, 1) := by decide +kernel
theorem dL_law_300 : decode cL_law 300 = .ok (.iconst 1, 1) := by decide +kernel
theorem dL_law_301 : decode cL_law 301 = .ok (.iadd, 1) := by decide +kernel
theorem dL_law_302 : decode cL_law 302 = .ok (.iaload, 1) := by decide +kernel
theorem dL_law_303 : decode cL_law 303 = .ok (.aload_n 0, 1) := by decide +kernel
theorem dL_law_304 : decode cL_law 304 = .ok (.iload_n 3, 1) := by decide +kernel
theorem dL_law_305 : decode cL_law 305 = .ok (.iconst 2, 1) := by decide +kernel
theorem dL_law_306 : decode cL_law 306 = .ok (.iadd, 1) := by decide +kernel
theorem dL_law_307 : decode cL_law 307 = .ok (.iaload, 1) := by decide +kernel
theorem dL_law_308 : decode cL_law 308 = .ok (.aload_n 0, 1) := by decide +kernel
theorem dL_law_309 : decode cL_law 309 = .ok (.iload_n 3, 1) := by decide +kernel
theorem dL_law_310 : decode cL_law 310 = .ok (.iconst 3, 1) := by decide +kernel
theorem dL_law_311 : decode cL_law 311 = .ok (.iadd, 1) := by decide +kernel
theorem dL_law_312 : decode cL_law 312 = .ok (.iaload, 1) := by decide +kernel
theorem dL_law_313 : decode cL_law 313 = .ok (.invokevirtual 26, 3) := by decide +kernel
theorem dL_law_316 : decode cL_law 316 = .ok (.if_icmp .eq 1212, 3) := by decide +kernel
theorem dL_law_319 : decode cL_law 319 = .ok (.iconst 0, 1) := by decide +kernel
theorem dL_law_320 : decode cL_law 320 = .ok (.ireturn, 1) := by decide +kernel
theorem dL_law_321 : decode cL_law 321 = .ok (.aload_n 1, 1) := by decide +kernel
theorem dL_law_322 : decode cL_law 322 = .ok (.aload_n 0, 1) := by decide +kernel
theorem dL_law_323 : decode cL_law 323 = .ok (.iload_n 3, 1) := by decide +kernel
theorem dL_law_324 : decode cL_law 324 = .ok (.iconst 1, 1) := by decide +kernel
theorem dL_law_325 : decode cL_law 325 = .ok (.iadd, 1) := by decide +kernel
theorem dL_law_326 : decode cL_law 326 = .ok (.iaload, 1) := by decide +kernel
theorem dL_law_327 : decode cL_law 327 = .ok (.aload_n 0, 1) := by decide +kernel
theorem dL_law_328 : decode cL_law 328 = .ok (.iload_n 3, 1) := by decide +kernel
theorem dL_law_329 : decode cL_law 329 = .ok (.iconst 2, 1) := by decide +kernel
theorem dL_law_330 : decode cL_law 330 = .ok (.iadd, 1) := by decide +kernel
theorem dL_law_331 : decode cL_law 331 = .ok (.iaload, 1) := by decide +kernel
theorem dL_law_332 : decode cL_law 332 = .ok (.invokevirtual 27, 3) := by decide +kernel
theorem dL_law_335 : decode cL_law 335 = .ok (.aload_n 2, 1) := by decide +kernel
theorem dL_law_336 : decode cL_law 336 = .ok (.aload_n 0, 1) := by decide +kernel
theorem dL_law_337 : decode cL_law 337 = .ok (.iload_n 3, 1) := by decide +kernel
theorem dL_law_338 : decode cL_law 338 = .ok (.iconst 1, 1) := by decide +kernel
theorem dL_law_339 : decode cL_law 339 = .ok (.iadd, 1) := by decide +kernel
theorem dL_law_340 : decode cL_law 340 = .ok (.iaload, 1) := by decide +kernel
theorem dL_law_341 : decode cL_law 341 = .ok (.aload_n 0, 1) := by decide +kernel
theorem dL_law_342 : decode cL_law 342 = .ok (.iload_n 3, 1) := by decide +kernel
theorem dL_law_343 : decode cL_law 343 = .ok (.iconst 2, 1) := by decide +kernel
theorem dL_law_344 : decode cL_law 344 = .ok (.iadd, 1) := by decide +kernel
theorem dL_law_345 : decode cL_law 345 = .ok (.iaload, 1) := by decide +kernel
theorem dL_law_346 : decode cL_law 346 = .ok (.invokevirtual 31, 3) := by decide +kernel
theorem dL_law_349 : decode cL_law 349 = .ok (.if_icmp .eq 1179, 3) := by decide +kernel
theorem dL_law_352 : decode cL_law 352 = .ok (.iconst 0, 1) := by decide +kernel
theorem dL_law_353 : decode cL_law 353 = .ok (.ireturn, 1) := by decide +kernel
theorem dL_law_354 : decode cL_law 354 = .ok (.aload_n 1, 1) := by decide +kernel
theorem dL_law_355 : decode cL_law 355 = .ok (.aload_n 0, 1) := by decide +kernel
theorem dL_law_356 : decode cL_law 356 = .ok (.iload_n 3, 1) := by decide +kernel
theorem dL_law_357 : decode cL_law 357 = .ok (.iconst 1, 1) := by decide +kernel
theorem dL_law_358 : decode cL_law 358 = .ok (.iadd, 1) := by decide +kernel
theorem dL_law_359 : decode cL_law 359 = .ok (.iaload, 1) := by decide +kernel
theorem dL_law_360 : decode cL_law 360 = .ok (.invokevirtual 32, 3) := by decide +kernel
theorem dL_law_363 : decode cL_law 363 = .ok (.aload_n 2, 1) := by decide +kernel
theorem dL_law_364 : decode cL_law 364 = .ok (.aload_n 0, 1) := by decide +kernel
theorem dL_law_365 : decode cL_law 365 = .ok (.iload_n 3, 1) := by decide +kernel
theorem dL_law_366 : decode cL_law 366 = .ok (.iconst 1, 1) := by decide +kernel
theorem dL_law_367 : decode cL_law 367 = .ok (.iadd, 1) := by decide +kernel
theorem dL_law_368 : decode cL_law 368 = .ok (.iaload, 1) := by decide +kernel
theorem dL_law_369 : decode cL_law 369 = .ok (.invokevirtual 35, 3) := by decide +kernel
theorem dL_law_372 : decode cL_law 372 = .ok (.if_icmp .eq 1156, 3) := by decide +kernel
theorem dL_law_375 : decode cL_law 375 = .ok (.iconst 0, 1) := by decide +kernel
theorem dL_law_376 : decode cL_law 376 = .ok (.ireturn, 1) := by decide +kernel
theorem dL_law_377 : decode cL_law 377 = .ok (.aload_n 1, 1) := by decide +kernel
theorem dL_law_378 : decode cL_law 378 = .ok (.invokevirtual 36, 3) := by decide +kernel
theorem dL_law_381 : decode cL_law 381 = .ok (.aload_n 2, 1) := by decide +kernel
theorem dL_law_382 : decode cL_law 382 = .ok (.invokevirtual 40, 3) := by decide +kernel
theorem dL_law_385 : decode cL_law 385 = .ok (.if_icmp .eq 1143, 3) := by decide +kernel
theorem dL_law_388 : decode cL_law 388 = .ok (.iconst 0, 1) := by decide +kernel
theorem dL_law_389 : decode cL_law 389 = .ok (.ireturn, 1) := by decide +kernel
theorem dL_law_390 : decode cL_law 390 = .ok (.aload_n 1, 1) := by decide +kernel
theorem dL_law_391 : decode cL_law 391 = .ok (.aload_n 0, 1) := by decide +kernel
theorem dL_law_392 : decode cL_law 392 = .ok (.iload_n 3, 1) := by decide +kernel
theorem dL_law_393 : decode cL_law 393 = .ok (.iconst 1, 1) := by decide +kernel
theorem dL_law_394 : decode cL_law 394 = .ok (.iadd, 1) := by decide +kernel
theorem dL_law_395 : decode cL_law 395 = .ok (.iaload, 1) := by decide +kernel
theorem dL_law_396 : decode cL_law 396 = .ok (.invokevirtual 41, 3) := by decide +kernel
theorem dL_law_399 : decode cL_law 399 = .ok (.aload_n 2, 1) := by decide +kernel
theorem dL_law_400 : decode cL_law 400 = .ok (.aload_n 0, 1) := by decide +kernel
theorem dL_law_401 : decode cL_law 401 = .ok (.iload_n 3, 1) := by decide +kernel
theorem dL_law_402 : decode cL_law 402 = .ok (.iconst 1, 1) := by decide +kernel
theorem dL_law_403 : decode cL_law 403 = .ok (.iadd, 1) := by decide +kernel
theorem dL_law_404 : decode cL_law 404 = .ok (.iaload, 1) := by decide +kernel
theorem dL_law_405 : decode cL_law 405 = .ok (.invokevirtual 44, 3) := by decide +kernel
theorem dL_law_408 : decode cL_law 408 = .ok (.if_icmp .eq 1120, 3) := by decide +kernel
theorem dL_law_411 : decode cL_law 411 = .ok (.iconst 0, 1) := by decide +kernel
theorem dL_law_412 : decode cL_law 412 = .ok (.ireturn, 1) := by decide +kernel
theorem dL_law_413 : decode cL_law 413 = .ok (.aload_n 1, 1) := by decide +kernel
theorem dL_law_414 : decode cL_law 414 = .ok (.aload_n 0, 1) := by decide +kernel
theorem dL_law_415 : decode cL_law 415 = .ok (.iload_n 3, 1) := by decide +kernel
theorem dL_law_416 : decode cL_law 416 = .ok (.iconst 1, 1) := by decide +kernel
theorem dL_law_417 : decode cL_law 417 = .ok (.iadd, 1) := by decide +kernel
theorem dL_law_418 : decode cL_law 418 = .ok (.iaload, 1) := by decide +kernel
theorem dL_law_419 : decode cL_law 419 = .ok (.aload_n 0, 1) := by decide +kernel
theorem dL_law_420 : decode cL_law 420 = .ok (.iload_n 3, 1) := by decide +kernel
theorem dL_law_421 : decode cL_law 421 = .ok (.iconst 2, 1) := by decide +kernel
theorem dL_law_422 : decode cL_law 422 = .ok (.iadd, 1) := by decide +kernel
theorem dL_law_423 : decode cL_law 423 = .ok (.iaload, 1) := by decide +kernel
theorem dL_law_424 : decode cL_law 424 = .ok (.aload_n 0, 1) := by decide +kernel
theorem dL_law_425 : decode cL_law 425 = .ok (.iload_n 3, 1) := by decide +kernel
theorem dL_law_426 : decode cL_law 426 = .ok (.iconst 3, 1) := by decide +kernel
theorem dL_law_427 : decode cL_law 427 = .ok (.iadd, 1) := by decide +kernel
theorem dL_law_428 : decode cL_law 428 = .ok (.iaload, 1) := by decide +kernel
theorem dL_law_429 : decode cL_law 429 = .ok (.invokevirtual 45, 3) := by decide +kernel
theorem dL_law_432 : decode cL_law 432 = .ok (.aload_n 2, 1) := by decide +kernel
theorem dL_law_433 : decode cL_law 433 = .ok (.aload_n 0, 1) := by decide +kernel
theorem dL_law_434 : decode cL_law 434 = .ok (.iload_n 3, 1) := by decide +kernel
theorem dL_law_435 : decode cL_law 435 = .ok (.iconst 1, 1) := by decide +kernel
theorem dL_law_436 : decode cL_law 436 = .ok (.iadd, 1) := by decide +kernel
theorem dL_law_437 : decode cL_law 437 = .ok (.iaload, 1) := by decide +kernel
theorem dL_law_438 : decode cL_law 438 = .ok (.aload_n 0, 1) := by decide +kernel
theorem dL_law_439 : decode cL_law 439 = .ok (.iload_n 3, 1) := by decide +kernel
theorem dL_law_440 : decode cL_law 440 = .ok (.iconst 2, 1) := by decide +kernel
theorem dL_law_441 : decode cL_law 441 = .ok (.iadd, 1) := by decide +kernel
theorem dL_law_442 : decode cL_law 442 = .ok (.iaload, 1) := by decide +kernel
theorem dL_law_443 : decode cL_law 443 = .ok (.aload_n 0, 1) := by decide +kernel
theorem dL_law_444 : decode cL_law 444 = .ok (.iload_n 3, 1) := by decide +kernel
theorem dL_law_445 : decode cL_law 445 = .ok (.iconst 3, 1) := by decide +kernel
theorem dL_law_446 : decode cL_law 446 = .ok (.iadd, 1) := by decide +kernel
theorem dL_law_447 : decode cL_law 447 = .ok (.iaload, 1) := by decide +kernel
theorem dL_law_448 : decode cL_law 448 = .ok (.invokevirtual 48, 3) := by decide +kernel
theorem dL_law_451 : decode cL_law 451 = .ok (.if_icmp .eq 1077, 3) := by decide +kernel
theorem dL_law_454 : decode cL_law 454 = .ok (.iconst 0, 1) := by decide +kernel
theorem dL_law_455 : decode cL_law 455 = .ok (.ireturn, 1) := by decide +kernel
theorem dL_law_456 : decode cL_law 456 = .ok (.aload_n 1, 1) := by decide +kernel
theorem dL_law_457 : decode cL_law 457 = .ok (.aload_n 0, 1) := by decide +kernel
theorem dL_law_458 : decode cL_law 458 = .ok (.iload_n 3, 1) := by decide +kernel
theorem dL_law_459 : decode cL_law 459 = .ok (.iconst 1, 1) := by decide +kernel
theorem dL_law_460 : decode cL_law 460 = .ok (.iadd, 1) := by decide +kernel
theorem dL_law_461 : decode cL_law 461 = .ok (.iaload, 1) := by decide +kernel
theorem dL_law_462 : decode cL_law 462 = .ok (.aload_n 0, 1) := by decide +kernel
theorem dL_law_463 : decode cL_law 463 = .ok (.iload_n 3, 1) := by decide +kernel
theorem dL_law_464 : decode cL_law 464 = .ok (.iconst 2, 1) := by decide +kernel
theorem dL_law_465 : decode cL_law 465 = .ok (.iadd, 1) := by decide +kernel
theorem dL_law_466 : decode cL_law 466 = .ok (.iaload, 1) := by decide +kernel
theorem dL_law_467 : decode cL_law 467 = .ok (.invokevirtual 49, 3) := by decide +kernel
theorem dL_law_470 : decode cL_law 470 = .ok (.aload_n 2, 1) := by decide +kernel
theorem dL_law_471 : decode cL_law 471 = .ok (.aload_n 0, 1) := by decide +kernel
theorem dL_law_472 : decode cL_law 472 = .ok (.iload_n 3, 1) := by decide +kernel
theorem dL_law_473 : decode cL_law 473 = .ok (.iconst 1, 1) := by decide +kernel
theorem dL_law_474 : decode cL_law 474 = .ok (.iadd, 1) := by decide +kernel
theorem dL_law_475 : decode cL_law 475 = .ok (.iaload, 1) := by decide +kernel
theorem dL_law_476 : decode cL_law 476 = .ok (.aload_n 0, 1) := by decide +kernel
theorem dL_law_477 : decode cL_law 477 = .ok (.iload_n 3, 1) := by decide +kernel
theorem dL_law_478 : decode cL_law 478 = .ok (.iconst 2, 1) := by decide +kernel
theorem dL_law_479 : decode cL_law 479 = .ok (.iadd, 1) := by decide +kernel
theorem dL_law_480 : decode cL_law 480 = .ok (.iaload, 1) := by decide +kernel
theorem dL_law_481 : decode cL_law 481 = .ok (.invokevirtual 52, 3) := by decide +kernel
theorem dL_law_484 : decode cL_law 484 = .ok (.if_icmp .eq 1044, 3) := by decide +kernel
theorem dL_law_487 : decode cL_law 487 = .ok (.iconst 0, 1) := by decide +kernel
theorem dL_law_488 : decode cL_law 488 = .ok (.ireturn, 1) := by decide +kernel
theorem dL_law_489 : decode cL_law 489 = .ok (.aload_n 1, 1) := by decide +kernel
theorem dL_law_490 : decode cL_law 490 = .ok (.invokevirtual 53, 3) := by decide +kernel
theorem dL_law_493 : decode cL_law 493 = .ok (.aload_n 2, 1) := by decide +kernel
theorem dL_law_494 : decode cL_law 494 = .ok (.invokevirtual 56, 3) := by decide +kernel
theorem dL_law_497 : decode cL_law 497 = .ok (.if_icmp .eq 1031, 3) := by decide +kernel
theorem dL_law_500 : decode cL_law 500 = .ok (.iconst 0, 1) := by decide +kernel
theorem dL_law_501 : decode cL_law 501 = .ok (.ireturn, 1) := by decide +kernel
theorem dL_law_502 : decode cL_law 502 = .ok (.aload_n 1, 1) := by decide +kernel
theorem dL_law_503 : decode cL_law 503 = .ok (.aload_n 0, 1) := by decide +kernel
theorem dL_law_504 : decode cL_law 504 = .ok (.iload_n 3, 1) := by decide +kernel
theorem dL_law_505 : decode cL_law 505 = .ok (.iconst 1, 1) := by decide +kernel
theorem dL_law_506 : decode cL_law 506 = .ok (.iadd, 1) := by decide +kernel
theorem dL_law_507 : decode cL_law 507 = .ok (.iaload, 1) := by decide +kernel
theorem dL_law_508 : decode cL_law 508 = .ok (.aload_n 0, 1) := by decide +kernel
theorem dL_law_509 : decode cL_law 509 = .ok (.iload_n 3, 1) := by decide +kernel
theorem dL_law_510 : decode cL_law 510 = .ok (.iconst 2, 1) := by decide +kernel
theorem dL_law_511 : decode cL_law 511 = .ok (.iadd, 1) := by decide +kernel
theorem dL_law_512 : decode cL_law 512 = .ok (.iaload, 1) := by decide +kernel
theorem dL_law_513 : decode cL_law 513 = .ok (.invokevirtual 57, 3) := by decide +kernel
theorem dL_law_516 : decode cL_law 516 = .ok (.aload_n 2, 1) := by decide +kernel
theorem dL_law_517 : decode cL_law 517 = .ok (.aload_n 0, 1) := by decide +kernel
theorem dL_law_518 : decode cL_law 518 = .ok (.iload_n 3, 1) := by decide +kernel
theorem dL_law_519 : decode cL_law 519 = .ok (.iconst 1, 1) := by decide +kernel
theorem dL_law_520 : decode cL_law 520 = .ok (.iadd, 1) := by decide +kernel
theorem dL_law_521 : decode cL_law 521 = .ok (.iaload, 1) := by decide +kernel
theorem dL_law_522 : decode cL_law 522 = .ok (.aload_n 0, 1) := by decide +kernel
theorem dL_law_523 : decode cL_law 523 = .ok (.iload_n 3, 1) := by decide +kernel
theorem dL_law_524 : decode cL_law 524 = .ok (.iconst 2, 1) := by decide +kernel
theorem dL_law_525 : decode cL_law 525 = .ok (.iadd, 1) := by decide +kernel
theorem dL_law_526 : decode cL_law 526 = .ok (.iaload, 1) := by decide +kernel
theorem dL_law_527 : decode cL_law 527 = .ok (.invokevirtual 60, 3) := by decide +kernel
theorem dL_law_530 : decode cL_law 530 = .ok (.if_icmp .eq 998, 3) := by decide +kernel
theorem dL_law_533 : decode cL_law 533 = .ok (.iconst 0, 1) := by decide +kernel
theorem dL_law_534 : decode cL_law 534 = .ok (.ireturn, 1) := by decide +kernel
theorem dL_law_535 : decode cL_law 535 = .ok (.aload_n 1, 1) := by decide +kernel
theorem dL_law_536 : decode cL_law 536 = .ok (.aload_n 0, 1) := by decide +kernel
theorem dL_law_537 : decode cL_law 537 = .ok (.iload_n 3, 1) := by decide +kernel
theorem dL_law_538 : decode cL_law 538 = .ok (.iconst 1, 1) := by decide +kernel
theorem dL_law_539 : decode cL_law 539 = .ok (.iadd, 1) := by decide +kernel
theorem dL_law_540 : decode cL_law 540 = .ok (.iaload, 1) := by decide +kernel
theorem dL_law_541 : decode cL_law 541 = .ok (.aload_n 0, 1) := by decide +kernel
theorem dL_law_542 : decode cL_law 542 = .ok (.iload_n 3, 1) := by decide +kernel
theorem dL_law_543 : decode cL_law 543 = .ok (.iconst 2, 1) := by decide +kernel
theorem dL_law_544 : decode cL_law 544 = .ok (.iadd, 1) := by decide +kernel
theorem dL_law_545 : decode cL_law 545 = .ok (.iaload, 1) := by decide +kernel
theorem dL_law_546 : decode cL_law 546 = .ok (.invokevirtual 61, 3) := by decide +kernel
theorem dL_law_549 : decode cL_law 549 = .ok (.aload_n 2, 1) := by decide +kernel
theorem dL_law_550 : decode cL_law 550 = .ok (.aload_n 0, 1) := by decide +kernel
theorem dL_law_551 : decode cL_law 551 = .ok (.iload_n 3, 1) := by decide +kernel
theorem dL_law_552 : decode cL_law 552 = .ok (.iconst 1, 1) := by decide +kernel
theorem dL_law_553 : decode cL_law 553 = .ok (.iadd, 1) := by decide +kernel
theorem dL_law_554 : decode cL_law 554 = .ok (.iaload, 1) := by decide +kernel
theorem dL_law_555 : decode cL_law 555 = .ok (.aload_n 0, 1) := by decide +kernel
theorem dL_law_556 : decode cL_law 556 = .ok (.iload_n 3, 1) := by decide +kernel
theorem dL_law_557 : decode cL_law 557 = .ok (.iconst 2, 1) := by decide +kernel
theorem dL_law_558 : decode cL_law 558 = .ok (.iadd, 1) := by decide +kernel
theorem dL_law_559 : decode cL_law 559 = .ok (.iaload, 1) := by decide +kernel
theorem dL_law_560 : decode cL_law 560 = .ok (.invokevirtual 64, 3) := by decide +kernel
theorem dL_law_563 : decode cL_law 563 = .ok (.if_icmp .eq 965, 3) := by decide +kernel
theorem dL_law_566 : decode cL_law 566 = .ok (.iconst 0, 1) := by decide +kernel
theorem dL_law_567 : decode cL_law 567 = .ok (.ireturn, 1) := by decide +kernel
theorem dL_law_568 : decode cL_law 568 = .ok (.aload_n 1, 1) := by decide +kernel
theorem dL_law_569 : decode cL_law 569 = .ok (.aload_n 0, 1) := by decide +kernel
theorem dL_law_570 : decode cL_law 570 = .ok (.iload_n 3, 1) := by decide +kernel
theorem dL_law_571 : decode cL_law 571 = .ok (.iconst 1, 1) := by decide +kernel
theorem dL_law_572 : decode cL_law 572 = .ok (.iadd, 1) := by decide +kernel
theorem dL_law_573 : decode cL_law 573 = .ok (.iaload, 1) := by decide +kernel
theorem dL_law_574 : decode cL_law 574 = .ok (.invokevirtual 65, 3) := by decide +kernel
theorem dL_law_577 : decode cL_law 577 = .ok (.aload_n 2, 1) := by decide +kernel
theorem dL_law_578 : decode cL_law 578 = .ok (.aload_n 0, 1) := by decide +kernel
theorem dL_law_579 : decode cL_law 579 = .ok (.iload_n 3, 1) := by decide +kernel
theorem dL_law_580 : decode cL_law 580 = .ok (.iconst 1, 1) := by decide +kernel
theorem dL_law_581 : decode cL_law 581 = .ok (.iadd, 1) := by decide +kernel
theorem dL_law_582 : decode cL_law 582 = .ok (.iaload, 1) := by decide +kernel
theorem dL_law_583 : decode cL_law 583 = .ok (.invokevirtual 69, 3) := by decide +kernel
theorem dL_law_586 : decode cL_law 586 = .ok (.lcmp, 1) := by decide +kernel
theorem dL_law_587 : decode cL_law 587 = .ok (.ifCond .eq 941, 3) := by decide +kernel
theorem dL_law_590 : decode cL_law 590 = .ok (.iconst 0, 1) := by decide +kernel
theorem dL_law_591 : decode cL_law 591 = .ok (.ireturn, 1) := by decide +kernel
theorem dL_law_592 : decode cL_law 592 = .ok (.aload_n 1, 1) := by decide +kernel
theorem dL_law_593 : decode cL_law 593 = .ok (.aload_n 0, 1) := by decide +kernel
theorem dL_law_594 : decode cL_law 594 = .ok (.iload_n 3, 1) := by decide +kernel
theorem dL_law_595 : decode cL_law 595 = .ok (.iconst 1, 1) := by decide +kernel
theorem dL_law_596 : decode cL_law 596 = .ok (.iadd, 1) := by decide +kernel
theorem dL_law_597 : decode cL_law 597 = .ok (.iaload, 1) := by decide +kernel
theorem dL_law_598 : decode cL_law 598 = .ok (.aload_n 0, 1) := by decide +kernel
theorem dL_law_599 : decode cL_law 599 = .ok (.iload_n 3, 1) := by decide +kernel
theorem dL_law_600 : decode cL_law 600 = .ok (.iconst 2, 1) := by decide +kernel
theorem dL_law_601 : decode cL_law 601 = .ok (.iadd, 1) := by decide +kernel
theorem dL_law_602 : decode cL_law 602 = .ok (.iaload, 1) := by decide +kernel
theorem dL_law_603 : decode cL_law 603 = .ok (.aload_n 0, 1) := by decide +kernel
theorem dL_law_604 : decode cL_law 604 = .ok (.iload_n 3, 1) := by decide +kernel
theorem dL_law_605 : decode cL_law 605 = .ok (.iconst 3, 1) := by decide +kernel
theorem dL_law_606 : decode cL_law 606 = .ok (.iadd, 1) := by decide +kernel
theorem dL_law_607 : decode cL_law 607 = .ok (.iaload, 1) := by decide +kernel
theorem dL_law_608 : decode cL_law 608 = .ok (.invokevirtual 70, 3) := by decide +kernel
theorem dL_law_611 : decode cL_law 611 = .ok (.aload_n 2, 1) := by decide +kernel
theorem dL_law_612 : decode cL_law 612 = .ok (.aload_n 0, 1) := by decide +kernel
theorem dL_law_613 : decode cL_law 613 = .ok (.iload_n 3, 1) := by decide +kernel
theorem dL_law_614 : decode cL_law 614 = .ok (.iconst 1, 1) := by decide +kernel
theorem dL_law_615 : decode cL_law 615 = .ok (.iadd, 1) := by decide +kernel
theorem dL_law_616 : decode cL_law 616 = .ok (.iaload, 1) := by decide +kernel
theorem dL_law_617 : decode cL_law 617 = .ok (.aload_n 0, 1) := by decide +kernel
theorem dL_law_618 : decode cL_law 618 = .ok (.iload_n 3, 1) := by decide +kernel
theorem dL_law_619 : decode cL_law 619 = .ok (.iconst 2, 1) := by decide +kernel
theorem dL_law_620 : decode cL_law 620 = .ok (.iadd, 1) := by decide +kernel
theorem dL_law_621 : decode cL_law 621 = .ok (.iaload, 1) := by decide +kernel
theorem dL_law_622 : decode cL_law 622 = .ok (.aload_n 0, 1) := by decide +kernel
theorem dL_law_623 : decode cL_law 623 = .ok (.iload_n 3, 1) := by decide +kernel
theorem dL_law_624 : decode cL_law 624 = .ok (.iconst 3, 1) := by decide +kernel
theorem dL_law_625 : decode cL_law 625 = .ok (.iadd, 1) := by decide +kernel
theorem dL_law_626 : decode cL_law 626 = .ok (.iaload, 1) := by decide +kernel
theorem dL_law_627 : decode cL_law 627 = .ok (.invokevirtual 73, 3) := by decide +kernel
theorem dL_law_630 : decode cL_law 630 = .ok (.if_icmp .eq 898, 3) := by decide +kernel
theorem dL_law_633 : decode cL_law 633 = .ok (.iconst 0, 1) := by decide +kernel
theorem dL_law_634 : decode cL_law 634 = .ok (.ireturn, 1) := by decide +kernel
theorem dL_law_635 : decode cL_law 635 = .ok (.aload_n 1, 1) := by decide +kernel
theorem dL_law_636 : decode cL_law 636 = .ok (.aload_n 0, 1) := by decide +kernel
theorem dL_law_637 : decode cL_law 637 = .ok (.iload_n 3, 1) := by decide +kernel
theorem dL_law_638 : decode cL_law 638 = .ok (.iconst 1, 1) := by decide +kernel
theorem dL_law_639 : decode cL_law 639 = .ok (.iadd, 1) := by decide +kernel
theorem dL_law_640 : decode cL_law 640 = .ok (.iaload, 1) := by decide +kernel
theorem dL_law_641 : decode cL_law 641 = .ok (.aload_n 0, 1) := by decide +kernel
theorem dL_law_642 : decode cL_law 642 = .ok (.iload_n 3, 1) := by decide +kernel
theorem dL_law_643 : decode cL_law 643 = .ok (.iconst 2, 1) := by decide +kernel
theorem dL_law_644 : decode cL_law 644 = .ok (.iadd, 1) := by decide +kernel
theorem dL_law_645 : decode cL_law 645 = .ok (.iaload, 1) := by decide +kernel
theorem dL_law_646 : decode cL_law 646 = .ok (.aload_n 0, 1) := by decide +kernel
theorem dL_law_647 : decode cL_law 647 = .ok (.iload_n 3, 1) := by decide +kernel
theorem dL_law_648 : decode cL_law 648 = .ok (.iconst 3, 1) := by decide +kernel
theorem dL_law_649 : decode cL_law 649 = .ok (.iadd, 1) := by decide +kernel
theorem dL_law_650 : decode cL_law 650 = .ok (.iaload, 1) := by decide +kernel
theorem dL_law_651 : decode cL_law 651 = .ok (.invokevirtual 74, 3) := by decide +kernel
theorem dL_law_654 : decode cL_law 654 = .ok (.aload_n 2, 1) := by decide +kernel
theorem dL_law_655 : decode cL_law 655 = .ok (.aload_n 0, 1) := by decide +kernel
theorem dL_law_656 : decode cL_law 656 = .ok (.iload_n 3, 1) := by decide +kernel
theorem dL_law_657 : decode cL_law 657 = .ok (.iconst 1, 1) := by decide +kernel
theorem dL_law_658 : decode cL_law 658 = .ok (.iadd, 1) := by decide +kernel
theorem dL_law_659 : decode cL_law 659 = .ok (.iaload, 1) := by decide +kernel
theorem dL_law_660 : decode cL_law 660 = .ok (.aload_n 0, 1) := by decide +kernel
theorem dL_law_661 : decode cL_law 661 = .ok (.iload_n 3, 1) := by decide +kernel
theorem dL_law_662 : decode cL_law 662 = .ok (.iconst 2, 1) := by decide +kernel
theorem dL_law_663 : decode cL_law 663 = .ok (.iadd, 1) := by decide +kernel
theorem dL_law_664 : decode cL_law 664 = .ok (.iaload, 1) := by decide +kernel
theorem dL_law_665 : decode cL_law 665 = .ok (.aload_n 0, 1) := by decide +kernel
theorem dL_law_666 : decode cL_law 666 = .ok (.iload_n 3, 1) := by decide +kernel
theorem dL_law_667 : decode cL_law 667 = .ok (.iconst 3, 1) := by decide +kernel
theorem dL_law_668 : decode cL_law 668 = .ok (.iadd, 1) := by decide +kernel
theorem dL_law_669 : decode cL_law 669 = .ok (.iaload, 1) := by decide +kernel
theorem dL_law_670 : decode cL_law 670 = .ok (.invokevirtual 77, 3) := by decide +kernel
theorem dL_law_673 : decode cL_law 673 = .ok (.if_icmp .eq 855, 3) := by decide +kernel
theorem dL_law_676 : decode cL_law 676 = .ok (.iconst 0, 1) := by decide +kernel
theorem dL_law_677 : decode cL_law 677 = .ok (.ireturn, 1) := by decide +kernel
theorem dL_law_678 : decode cL_law 678 = .ok (.aload_n 1, 1) := by decide +kernel
theorem dL_law_679 : decode cL_law 679 = .ok (.aload_n 0, 1) := by decide +kernel
theorem dL_law_680 : decode cL_law 680 = .ok (.iload_n 3, 1) := by decide +kernel
theorem dL_law_681 : decode cL_law 681 = .ok (.iconst 1, 1) := by decide +kernel
theorem dL_law_682 : decode cL_law 682 = .ok (.iadd, 1) := by decide +kernel
theorem dL_law_683 : decode cL_law 683 = .ok (.iaload, 1) := by decide +kernel
theorem dL_law_684 : decode cL_law 684 = .ok (.aload_n 0, 1) := by decide +kernel
theorem dL_law_685 : decode cL_law 685 = .ok (.iload_n 3, 1) := by decide +kernel
theorem dL_law_686 : decode cL_law 686 = .ok (.iconst 2, 1) := by decide +kernel
theorem dL_law_687 : decode cL_law 687 = .ok (.iadd, 1) := by decide +kernel
theorem dL_law_688 : decode cL_law 688 = .ok (.iaload, 1) := by decide +kernel
theorem dL_law_689 : decode cL_law 689 = .ok (.aload_n 0, 1) := by decide +kernel
theorem dL_law_690 : decode cL_law 690 = .ok (.iload_n 3, 1) := by decide +kernel
theorem dL_law_691 : decode cL_law 691 = .ok (.iconst 3, 1) := by decide +kernel
theorem dL_law_692 : decode cL_law 692 = .ok (.iadd, 1) := by decide +kernel
theorem dL_law_693 : decode cL_law 693 = .ok (.iaload, 1) := by decide +kernel
theorem dL_law_694 : decode cL_law 694 = .ok (.invokevirtual 78, 3) := by decide +kernel
theorem dL_law_697 : decode cL_law 697 = .ok (.aload_n 2, 1) := by decide +kernel
theorem dL_law_698 : decode cL_law 698 = .ok (.aload_n 0, 1) := by decide +kernel
theorem dL_law_699 : decode cL_law 699 = .ok (.iload_n 3, 1) := by decide +kernel
theorem dL_law_700 : decode cL_law 700 = .ok (.iconst 1, 1) := by decide +kernel
theorem dL_law_701 : decode cL_law 701 = .ok (.iadd, 1) := by decide +kernel
theorem dL_law_702 : decode cL_law 702 = .ok (.iaload, 1) := by decide +kernel
theorem dL_law_703 : decode cL_law 703 = .ok (.aload_n 0, 1) := by decide +kernel
theorem dL_law_704 : decode cL_law 704 = .ok (.iload_n 3, 1) := by decide +kernel
theorem dL_law_705 : decode cL_law 705 = .ok (.iconst 2, 1) := by decide +kernel
theorem dL_law_706 : decode cL_law 706 = .ok (.iadd, 1) := by decide +kernel
theorem dL_law_707 : decode cL_law 707 = .ok (.iaload, 1) := by decide +kernel
theorem dL_law_708 : decode cL_law 708 = .ok (.aload_n 0, 1) := by decide +kernel
theorem dL_law_709 : decode cL_law 709 = .ok (.iload_n 3, 1) := by decide +kernel
theorem dL_law_710 : decode cL_law 710 = .ok (.iconst 3, 1) := by decide +kernel
theorem dL_law_711 : decode cL_law 711 = .ok (.iadd, 1) := by decide +kernel
theorem dL_law_712 : decode cL_law 712 = .ok (.iaload, 1) := by decide +kernel
theorem dL_law_713 : decode cL_law 713 = .ok (.invokevirtual 81, 3) := by decide +kernel
theorem dL_law_716 : decode cL_law 716 = .ok (.if_icmp .eq 812, 3) := by decide +kernel
theorem dL_law_719 : decode cL_law 719 = .ok (.iconst 0, 1) := by decide +kernel
theorem dL_law_720 : decode cL_law 720 = .ok (.ireturn, 1) := by decide +kernel
theorem dL_law_721 : decode cL_law 721 = .ok (.aload_n 1, 1) := by decide +kernel
theorem dL_law_722 : decode cL_law 722 = .ok (.aload_n 0, 1) := by decide +kernel
theorem dL_law_723 : decode cL_law 723 = .ok (.iload_n 3, 1) := by decide +kernel
theorem dL_law_724 : decode cL_law 724 = .ok (.iconst 1, 1) := by decide +kernel
theorem dL_law_725 : decode cL_law 725 = .ok (.iadd, 1) := by decide +kernel
theorem dL_law_726 : decode cL_law 726 = .ok (.iaload, 1) := by decide +kernel
theorem dL_law_727 : decode cL_law 727 = .ok (.aload_n 0, 1) := by decide +kernel
theorem dL_law_728 : decode cL_law 728 = .ok (.iload_n 3, 1) := by decide +kernel
theorem dL_law_729 : decode cL_law 729 = .ok (.iconst 2, 1) := by decide +kernel
theorem dL_law_730 : decode cL_law 730 = .ok (.iadd, 1) := by decide +kernel
theorem dL_law_731 : decode cL_law 731 = .ok (.iaload, 1) := by decide +kernel
theorem dL_law_732 : decode cL_law 732 = .ok (.invokevirtual 82, 3) := by decide +kernel
theorem dL_law_735 : decode cL_law 735 = .ok (.aload_n 2, 1) := by decide +kernel
theorem dL_law_736 : decode cL_law 736 = .ok (.aload_n 0, 1) := by decide +kernel
theorem dL_law_737 : decode cL_law 737 = .ok (.iload_n 3, 1) := by decide +kernel
theorem dL_law_738 : decode cL_law 738 = .ok (.iconst 1, 1) := by decide +kernel
theorem dL_law_739 : decode cL_law 739 = .ok (.iadd, 1) := by decide +kernel
theorem dL_law_740 : decode cL_law 740 = .ok (.iaload, 1) := by decide +kernel
theorem dL_law_741 : decode cL_law 741 = .ok (.aload_n 0, 1) := by decide +kernel
theorem dL_law_742 : decode cL_law 742 = .ok (.iload_n 3, 1) := by decide +kernel
theorem dL_law_743 : decode cL_law 743 = .ok (.iconst 2, 1) := by decide +kernel
theorem dL_law_744 : decode cL_law 744 = .ok (.iadd, 1) := by decide +kernel
theorem dL_law_745 : decode cL_law 745 = .ok (.iaload, 1) := by decide +kernel
theorem dL_law_746 : decode cL_law 746 = .ok (.invokevirtual 85, 3) := by decide +kernel
theorem dL_law_749 : decode cL_law 749 = .ok (.if_icmp .eq 779, 3) := by decide +kernel
theorem dL_law_752 : decode cL_law 752 = .ok (.iconst 0, 1) := by decide +kernel
theorem dL_law_753 : decode cL_law 753 = .ok (.ireturn, 1) := by decide +kernel
theorem dL_law_754 : decode cL_law 754 = .ok (.aload_n 1, 1) := by decide +kernel
theorem dL_law_755 : decode cL_law 755 = .ok (.aload_n 0, 1) := by decide +kernel
theorem dL_law_756 : decode cL_law 756 = .ok (.iload_n 3, 1) := by decide +kernel
theorem dL_law_757 : decode cL_law 757 = .ok (.iconst 1, 1) := by decide +kernel
theorem dL_law_758 : decode cL_law 758 = .ok (.iadd, 1) := by decide +kernel
theorem dL_law_759 : decode cL_law 759 = .ok (.iaload, 1) := by decide +kernel
theorem dL_law_760 : decode cL_law 760 = .ok (.aload_n 0, 1) := by decide +kernel
theorem dL_law_761 : decode cL_law 761 = .ok (.iload_n 3, 1) := by decide +kernel
theorem dL_law_762 : decode cL_law 762 = .ok (.iconst 2, 1) := by decide +kernel
theorem dL_law_763 : decode cL_law 763 = .ok (.iadd, 1) := by decide +kernel
theorem dL_law_764 : decode cL_law 764 = .ok (.iaload, 1) := by decide +kernel
theorem dL_law_765 : decode cL_law 765 = .ok (.aload_n 0, 1) := by decide +kernel
theorem dL_law_766 : decode cL_law 766 = .ok (.iload_n 3, 1) := by decide +kernel
theorem dL_law_767 : decode cL_law 767 = .ok (.iconst 3, 1) := by decide +kernel
theorem dL_law_768 : decode cL_law 768 = .ok (.iadd, 1) := by decide +kernel
theorem dL_law_769 : decode cL_law 769 = .ok (.iaload, 1) := by decide +kernel
theorem dL_law_770 : decode cL_law 770 = .ok (.invokevirtual 86, 3) := by decide +kernel
theorem dL_law_773 : decode cL_law 773 = .ok (.aload_n 2, 1) := by decide +kernel
theorem dL_law_774 : decode cL_law 774 = .ok (.aload_n 0, 1) := by decide +kernel
theorem dL_law_775 : decode cL_law 775 = .ok (.iload_n 3, 1) := by decide +kernel
theorem dL_law_776 : decode cL_law 776 = .ok (.iconst 1, 1) := by decide +kernel
theorem dL_law_777 : decode cL_law 777 = .ok (.iadd, 1) := by decide +kernel
theorem dL_law_778 : decode cL_law 778 = .ok (.iaload, 1) := by decide +kernel
theorem dL_law_779 : decode cL_law 779 = .ok (.aload_n 0, 1) := by decide +kernel
theorem dL_law_780 : decode cL_law 780 = .ok (.iload_n 3, 1) := by decide +kernel
theorem dL_law_781 : decode cL_law 781 = .ok (.iconst 2, 1) := by decide +kernel
theorem dL_law_782 : decode cL_law 782 = .ok (.iadd, 1) := by decide +kernel
theorem dL_law_783 : decode cL_law 783 = .ok (.iaload, 1) := by decide +kernel
theorem dL_law_784 : decode cL_law 784 = .ok (.aload_n 0, 1) := by decide +kernel
theorem dL_law_785 : decode cL_law 785 = .ok (.iload_n 3, 1) := by decide +kernel
theorem dL_law_786 : decode cL_law 786 = .ok (.iconst 3, 1) := by decide +kernel
theorem dL_law_787 : decode cL_law 787 = .ok (.iadd, 1) := by decide +kernel
theorem dL_law_788 : decode cL_law 788 = .ok (.iaload, 1) := by decide +kernel
theorem dL_law_789 : decode cL_law 789 = .ok (.invokevirtual 89, 3) := by decide +kernel
theorem dL_law_792 : decode cL_law 792 = .ok (.if_icmp .eq 736, 3) := by decide +kernel
theorem dL_law_795 : decode cL_law 795 = .ok (.iconst 0, 1) := by decide +kernel
theorem dL_law_796 : decode cL_law 796 = .ok (.ireturn, 1) := by decide +kernel
theorem dL_law_797 : decode cL_law 797 = .ok (.aload_n 1, 1) := by decide +kernel
theorem dL_law_798 : decode cL_law 798 = .ok (.aload_n 0, 1) := by decide +kernel
theorem dL_law_799 : decode cL_law 799 = .ok (.iload_n 3, 1) := by decide +kernel
theorem dL_law_800 : decode cL_law 800 = .ok (.iconst 1, 1) := by decide +kernel
theorem dL_law_801 : decode cL_law 801 = .ok (.iadd, 1) := by decide +kernel
theorem dL_law_802 : decode cL_law 802 = .ok (.iaload, 1) := by decide +kernel
theorem dL_law_803 : decode cL_law 803 = .ok (.aload_n 0, 1) := by decide +kernel
theorem dL_law_804 : decode cL_law 804 = .ok (.iload_n 3, 1) := by decide +kernel
theorem dL_law_805 : decode cL_law 805 = .ok (.iconst 2, 1) := by decide +kernel
theorem dL_law_806 : decode cL_law 806 = .ok (.iadd, 1) := by decide +kernel
theorem dL_law_807 : decode cL_law 807 = .ok (.iaload, 1) := by decide +kernel
theorem dL_law_808 : decode cL_law 808 = .ok (.invokevirtual 90, 3) := by decide +kernel
theorem dL_law_811 : decode cL_law 811 = .ok (.aload_n 2, 1) := by decide +kernel
theorem dL_law_812 : decode cL_law 812 = .ok (.aload_n 0, 1) := by decide +kernel
theorem dL_law_813 : decode cL_law 813 = .ok (.iload_n 3, 1) := by decide +kernel
theorem dL_law_814 : decode cL_law 814 = .ok (.iconst 1, 1) := by decide +kernel
theorem dL_law_815 : decode cL_law 815 = .ok (.iadd, 1) := by decide +kernel
theorem dL_law_816 : decode cL_law 816 = .ok (.iaload, 1) := by decide +kernel
theorem dL_law_817 : decode cL_law 817 = .ok (.aload_n 0, 1) := by decide +kernel
theorem dL_law_818 : decode cL_law 818 = .ok (.iload_n 3, 1) := by decide +kernel
theorem dL_law_819 : decode cL_law 819 = .ok (.iconst 2, 1) := by decide +kernel
theorem dL_law_820 : decode cL_law 820 = .ok (.iadd, 1) := by decide +kernel
theorem dL_law_821 : decode cL_law 821 = .ok (.iaload, 1) := by decide +kernel
theorem dL_law_822 : decode cL_law 822 = .ok (.invokevirtual 93, 3) := by decide +kernel
theorem dL_law_825 : decode cL_law 825 = .ok (.if_icmp .eq 703, 3) := by decide +kernel
theorem dL_law_828 : decode cL_law 828 = .ok (.iconst 0, 1) := by decide +kernel
theorem dL_law_829 : decode cL_law 829 = .ok (.ireturn, 1) := by decide +kernel
theorem dL_law_830 : decode cL_law 830 = .ok (.aload_n 1, 1) := by decide +kernel
theorem dL_law_831 : decode cL_law 831 = .ok (.aload_n 0, 1) := by decide +kernel
theorem dL_law_832 : decode cL_law 832 = .ok (.iload_n 3, 1) := by decide +kernel
theorem dL_law_833 : decode cL_law 833 = .ok (.iconst 1, 1) := by decide +kernel
theorem dL_law_834 : decode cL_law 834 = .ok (.iadd, 1) := by decide +kernel
theorem dL_law_835 : decode cL_law 835 = .ok (.iaload, 1) := by decide +kernel
theorem dL_law_836 : decode cL_law 836 = .ok (.aload_n 0, 1) := by decide +kernel
theorem dL_law_837 : decode cL_law 837 = .ok (.iload_n 3, 1) := by decide +kernel
theorem dL_law_838 : decode cL_law 838 = .ok (.iconst 2, 1) := by decide +kernel
theorem dL_law_839 : decode cL_law 839 = .ok (.iadd, 1) := by decide +kernel
theorem dL_law_840 : decode cL_law 840 = .ok (.iaload, 1) := by decide +kernel
theorem dL_law_841 : decode cL_law 841 = .ok (.invokevirtual 94, 3) := by decide +kernel
theorem dL_law_844 : decode cL_law 844 = .ok (.aload_n 2, 1) := by decide +kernel
theorem dL_law_845 : decode cL_law 845 = .ok (.aload_n 0, 1) := by decide +kernel
theorem dL_law_846 : decode cL_law 846 = .ok (.iload_n 3, 1) := by decide +kernel
theorem dL_law_847 : decode cL_law 847 = .ok (.iconst 1, 1) := by decide +kernel
theorem dL_law_848 : decode cL_law 848 = .ok (.iadd, 1) := by decide +kernel
theorem dL_law_849 : decode cL_law 849 = .ok (.iaload, 1) := by decide +kernel
theorem dL_law_850 : decode cL_law 850 = .ok (.aload_n 0, 1) := by decide +kernel
theorem dL_law_851 : decode cL_law 851 = .ok (.iload_n 3, 1) := by decide +kernel
theorem dL_law_852 : decode cL_law 852 = .ok (.iconst 2, 1) := by decide +kernel
theorem dL_law_853 : decode cL_law 853 = .ok (.iadd, 1) := by decide +kernel
theorem dL_law_854 : decode cL_law 854 = .ok (.iaload, 1) := by decide +kernel
theorem dL_law_855 : decode cL_law 855 = .ok (.invokevirtual 98, 3) := by decide +kernel
theorem dL_law_858 : decode cL_law 858 = .ok (.lcmp, 1) := by decide +kernel
theorem dL_law_859 : decode cL_law 859 = .ok (.ifCond .eq 669, 3) := by decide +kernel
theorem dL_law_862 : decode cL_law 862 = .ok (.iconst 0, 1) := by decide +kernel
theorem dL_law_863 : decode cL_law 863 = .ok (.ireturn, 1) := by decide +kernel
theorem dL_law_864 : decode cL_law 864 = .ok (.aload_n 1, 1) := by decide +kernel
theorem dL_law_865 : decode cL_law 865 = .ok (.aload_n 0, 1) := by decide +kernel
theorem dL_law_866 : decode cL_law 866 = .ok (.iload_n 3, 1) := by decide +kernel
theorem dL_law_867 : decode cL_law 867 = .ok (.iconst 1, 1) := by decide +kernel
theorem dL_law_868 : decode cL_law 868 = .ok (.iadd, 1) := by decide +kernel
theorem dL_law_869 : decode cL_law 869 = .ok (.iaload, 1) := by decide +kernel
theorem dL_law_870 : decode cL_law 870 = .ok (.aload_n 0, 1) := by decide +kernel
theorem dL_law_871 : decode cL_law 871 = .ok (.iload_n 3, 1) := by decide +kernel
theorem dL_law_872 : decode cL_law 872 = .ok (.iconst 2, 1) := by decide +kernel
theorem dL_law_873 : decode cL_law 873 = .ok (.iadd, 1) := by decide +kernel
theorem dL_law_874 : decode cL_law 874 = .ok (.iaload, 1) := by decide +kernel
theorem dL_law_875 : decode cL_law 875 = .ok (.aload_n 0, 1) := by decide +kernel
theorem dL_law_876 : decode cL_law 876 = .ok (.iload_n 3, 1) := by decide +kernel
theorem dL_law_877 : decode cL_law 877 = .ok (.iconst 3, 1) := by decide +kernel
theorem dL_law_878 : decode cL_law 878 = .ok (.iadd, 1) := by decide +kernel
theorem dL_law_879 : decode cL_law 879 = .ok (.iaload, 1) := by decide +kernel
theorem dL_law_880 : decode cL_law 880 = .ok (.invokevirtual 99, 3) := by decide +kernel
theorem dL_law_883 : decode cL_law 883 = .ok (.aload_n 2, 1) := by decide +kernel
theorem dL_law_884 : decode cL_law 884 = .ok (.aload_n 0, 1) := by decide +kernel
theorem dL_law_885 : decode cL_law 885 = .ok (.iload_n 3, 1) := by decide +kernel
theorem dL_law_886 : decode cL_law 886 = .ok (.iconst 1, 1) := by decide +kernel
theorem dL_law_887 : decode cL_law 887 = .ok (.iadd, 1) := by decide +kernel
theorem dL_law_888 : decode cL_law 888 = .ok (.iaload, 1) := by decide +kernel
theorem dL_law_889 : decode cL_law 889 = .ok (.aload_n 0, 1) := by decide +kernel
theorem dL_law_890 : decode cL_law 890 = .ok (.iload_n 3, 1) := by decide +kernel
theorem dL_law_891 : decode cL_law 891 = .ok (.iconst 2, 1) := by decide +kernel
theorem dL_law_892 : decode cL_law 892 = .ok (.iadd, 1) := by decide +kernel
theorem dL_law_893 : decode cL_law 893 = .ok (.iaload, 1) := by decide +kernel
theorem dL_law_894 : decode cL_law 894 = .ok (.aload_n 0, 1) := by decide +kernel
theorem dL_law_895 : decode cL_law 895 = .ok (.iload_n 3, 1) := by decide +kernel
theorem dL_law_896 : decode cL_law 896 = .ok (.iconst 3, 1) := by decide +kernel
theorem dL_law_897 : decode cL_law 897 = .ok (.iadd, 1) := by decide +kernel
theorem dL_law_898 : decode cL_law 898 = .ok (.iaload, 1) := by decide +kernel
theorem dL_law_899 : decode cL_law 899 = .ok (.invokevirtual 102, 3) := by decide +kernel
theorem dL_law_902 : decode cL_law 902 = .ok (.if_icmp .eq 626, 3) := by decide +kernel
theorem dL_law_905 : decode cL_law 905 = .ok (.iconst 0, 1) := by decide +kernel
theorem dL_law_906 : decode cL_law 906 = .ok (.ireturn, 1) := by decide +kernel
theorem dL_law_907 : decode cL_law 907 = .ok (.aload_n 1, 1) := by decide +kernel
theorem dL_law_908 : decode cL_law 908 = .ok (.aload_n 0, 1) := by decide +kernel
theorem dL_law_909 : decode cL_law 909 = .ok (.iload_n 3, 1) := by decide +kernel
theorem dL_law_910 : decode cL_law 910 = .ok (.iconst 1, 1) := by decide +kernel
theorem dL_law_911 : decode cL_law 911 = .ok (.iadd, 1) := by decide +kernel
theorem dL_law_912 : decode cL_law 912 = .ok (.iaload, 1) := by decide +kernel
theorem dL_law_913 : decode cL_law 913 = .ok (.aload_n 0, 1) := by decide +kernel
theorem dL_law_914 : decode cL_law 914 = .ok (.iload_n 3, 1) := by decide +kernel
theorem dL_law_915 : decode cL_law 915 = .ok (.iconst 2, 1) := by decide +kernel
theorem dL_law_916 : decode cL_law 916 = .ok (.iadd, 1) := by decide +kernel
theorem dL_law_917 : decode cL_law 917 = .ok (.iaload, 1) := by decide +kernel
theorem dL_law_918 : decode cL_law 918 = .ok (.aload_n 0, 1) := by decide +kernel
theorem dL_law_919 : decode cL_law 919 = .ok (.iload_n 3, 1) := by decide +kernel
theorem dL_law_920 : decode cL_law 920 = .ok (.iconst 3, 1) := by decide +kernel
theorem dL_law_921 : decode cL_law 921 = .ok (.iadd, 1) := by decide +kernel
theorem dL_law_922 : decode cL_law 922 = .ok (.iaload, 1) := by decide +kernel
theorem dL_law_923 : decode cL_law 923 = .ok (.invokevirtual 103, 3) := by decide +kernel
theorem dL_law_926 : decode cL_law 926 = .ok (.aload_n 2, 1) := by decide +kernel
theorem dL_law_927 : decode cL_law 927 = .ok (.aload_n 0, 1) := by decide +kernel
theorem dL_law_928 : decode cL_law 928 = .ok (.iload_n 3, 1) := by decide +kernel
theorem dL_law_929 : decode cL_law 929 = .ok (.iconst 1, 1) := by decide +kernel
theorem dL_law_930 : decode cL_law 930 = .ok (.iadd, 1) := by decide +kernel
theorem dL_law_931 : decode cL_law 931 = .ok (.iaload, 1) := by decide +kernel
theorem dL_law_932 : decode cL_law 932 = .ok (.aload_n 0, 1) := by decide +kernel
theorem dL_law_933 : decode cL_law 933 = .ok (.iload_n 3, 1) := by decide +kernel
theorem dL_law_934 : decode cL_law 934 = .ok (.iconst 2, 1) := by decide +kernel
theorem dL_law_935 : decode cL_law 935 = .ok (.iadd, 1) := by decide +kernel
theorem dL_law_936 : decode cL_law 936 = .ok (.iaload, 1) := by decide +kernel
theorem dL_law_937 : decode cL_law 937 = .ok (.aload_n 0, 1) := by decide +kernel
theorem dL_law_938 : decode cL_law 938 = .ok (.iload_n 3, 1) := by decide +kernel
theorem dL_law_939 : decode cL_law 939 = .ok (.iconst 3, 1) := by decide +kernel
theorem dL_law_940 : decode cL_law 940 = .ok (.iadd, 1) := by decide +kernel
theorem dL_law_941 : decode cL_law 941 = .ok (.iaload, 1) := by decide +kernel
theorem dL_law_942 : decode cL_law 942 = .ok (.invokevirtual 106, 3) := by decide +kernel
theorem dL_law_945 : decode cL_law 945 = .ok (.if_icmp .eq 583, 3) := by decide +kernel
theorem dL_law_948 : decode cL_law 948 = .ok (.iconst 0, 1) := by decide +kernel
theorem dL_law_949 : decode cL_law 949 = .ok (.ireturn, 1) := by decide +kernel
theorem dL_law_950 : decode cL_law 950 = .ok (.aload_n 1, 1) := by decide +kernel
theorem dL_law_951 : decode cL_law 951 = .ok (.invokevirtual 107, 3) := by decide +kernel
theorem dL_law_954 : decode cL_law 954 = .ok (.aload_n 2, 1) := by decide +kernel
theorem dL_law_955 : decode cL_law 955 = .ok (.invokevirtual 110, 3) := by decide +kernel
theorem dL_law_958 : decode cL_law 958 = .ok (.if_icmp .eq 570, 3) := by decide +kernel
theorem dL_law_961 : decode cL_law 961 = .ok (.iconst 0, 1) := by decide +kernel
theorem dL_law_962 : decode cL_law 962 = .ok (.ireturn, 1) := by decide +kernel
theorem dL_law_963 : decode cL_law 963 = .ok (.aload_n 1, 1) := by decide +kernel
theorem dL_law_964 : decode cL_law 964 = .ok (.aload_n 0, 1) := by decide +kernel
theorem dL_law_965 : decode cL_law 965 = .ok (.iload_n 3, 1) := by decide +kernel
theorem dL_law_966 : decode cL_law 966 = .ok (.iconst 1, 1) := by decide +kernel
theorem dL_law_967 : decode cL_law 967 = .ok (.iadd, 1) := by decide +kernel
theorem dL_law_968 : decode cL_law 968 = .ok (.iaload, 1) := by decide +kernel
theorem dL_law_969 : decode cL_law 969 = .ok (.aload_n 0, 1) := by decide +kernel
theorem dL_law_970 : decode cL_law 970 = .ok (.iload_n 3, 1) := by decide +kernel
theorem dL_law_971 : decode cL_law 971 = .ok (.iconst 2, 1) := by decide +kernel
theorem dL_law_972 : decode cL_law 972 = .ok (.iadd, 1) := by decide +kernel
theorem dL_law_973 : decode cL_law 973 = .ok (.iaload, 1) := by decide +kernel
theorem dL_law_974 : decode cL_law 974 = .ok (.invokevirtual 111, 3) := by decide +kernel
theorem dL_law_977 : decode cL_law 977 = .ok (.aload_n 2, 1) := by decide +kernel
theorem dL_law_978 : decode cL_law 978 = .ok (.aload_n 0, 1) := by decide +kernel
theorem dL_law_979 : decode cL_law 979 = .ok (.iload_n 3, 1) := by decide +kernel
theorem dL_law_980 : decode cL_law 980 = .ok (.iconst 1, 1) := by decide +kernel
theorem dL_law_981 : decode cL_law 981 = .ok (.iadd, 1) := by decide +kernel
theorem dL_law_982 : decode cL_law 982 = .ok (.iaload, 1) := by decide +kernel
theorem dL_law_983 : decode cL_law 983 = .ok (.aload_n 0, 1) := by decide +kernel
theorem dL_law_984 : decode cL_law 984 = .ok (.iload_n 3, 1) := by decide +kernel
theorem dL_law_985 : decode cL_law 985 = .ok (.iconst 2, 1) := by decide +kernel
theorem dL_law_986 : decode cL_law 986 = .ok (.iadd, 1) := by decide +kernel
theorem dL_law_987 : decode cL_law 987 = .ok (.iaload, 1) := by decide +kernel
theorem dL_law_988 : decode cL_law 988 = .ok (.invokevirtual 114, 3) := by decide +kernel
theorem dL_law_991 : decode cL_law 991 = .ok (.if_icmp .eq 537, 3) := by decide +kernel
theorem dL_law_994 : decode cL_law 994 = .ok (.iconst 0, 1) := by decide +kernel
theorem dL_law_995 : decode cL_law 995 = .ok (.ireturn, 1) := by decide +kernel
theorem dL_law_996 : decode cL_law 996 = .ok (.aload_n 1, 1) := by decide +kernel
theorem dL_law_997 : decode cL_law 997 = .ok (.aload_n 0, 1) := by decide +kernel
theorem dL_law_998 : decode cL_law 998 = .ok (.iload_n 3, 1) := by decide +kernel
theorem dL_law_999 : decode cL_law 999 = .ok (.iconst 1, 1) := by decide +kernel
theorem dL_law_1000 : decode cL_law 1000 = .ok (.iadd, 1) := by decide +kernel
theorem dL_law_1001 : decode cL_law 1001 = .ok (.iaload, 1) := by decide +kernel
theorem dL_law_1002 : decode cL_law 1002 = .ok (.aload_n 0, 1) := by decide +kernel
theorem dL_law_1003 : decode cL_law 1003 = .ok (.iload_n 3, 1) := by decide +kernel
theorem dL_law_1004 : decode cL_law 1004 = .ok (.iconst 2, 1) := by decide +kernel
theorem dL_law_1005 : decode cL_law 1005 = .ok (.iadd, 1) := by decide +kernel
theorem dL_law_1006 : decode cL_law 1006 = .ok (.iaload, 1) := by decide +kernel
theorem dL_law_1007 : decode cL_law 1007 = .ok (.invokevirtual 115, 3) := by decide +kernel
theorem dL_law_1010 : decode cL_law 1010 = .ok (.aload_n 2, 1) := by decide +kernel
theorem dL_law_1011 : decode cL_law 1011 = .ok (.aload_n 0, 1) := by decide +kernel
theorem dL_law_1012 : decode cL_law 1012 = .ok (.iload_n 3, 1) := by decide +kernel
theorem dL_law_1013 : decode cL_law 1013 = .ok (.iconst 1, 1) := by decide +kernel
theorem dL_law_1014 : decode cL_law 1014 = .ok (.iadd, 1) := by decide +kernel
theorem dL_law_1015 : decode cL_law 1015 = .ok (.iaload, 1) := by decide +kernel
theorem dL_law_1016 : decode cL_law 1016 = .ok (.aload_n 0, 1) := by decide +kernel
theorem dL_law_1017 : decode cL_law 1017 = .ok (.iload_n 3, 1) := by decide +kernel
theorem dL_law_1018 : decode cL_law 1018 = .ok (.iconst 2, 1) := by decide +kernel
theorem dL_law_1019 : decode cL_law 1019 = .ok (.iadd, 1) := by decide +kernel
theorem dL_law_1020 : decode cL_law 1020 = .ok (.iaload, 1) := by decide +kernel
theorem dL_law_1021 : decode cL_law 1021 = .ok (.invokevirtual 118, 3) := by decide +kernel
theorem dL_law_1024 : decode cL_law 1024 = .ok (.if_icmp .eq 504, 3) := by decide +kernel
theorem dL_law_1027 : decode cL_law 1027 = .ok (.iconst 0, 1) := by decide +kernel
theorem dL_law_1028 : decode cL_law 1028 = .ok (.ireturn, 1) := by decide +kernel
theorem dL_law_1029 : decode cL_law 1029 = .ok (.aload_n 1, 1) := by decide +kernel
theorem dL_law_1030 : decode cL_law 1030 = .ok (.aload_n 0, 1) := by decide +kernel
theorem dL_law_1031 : decode cL_law 1031 = .ok (.iload_n 3, 1) := by decide +kernel
theorem dL_law_1032 : decode cL_law 1032 = .ok (.iconst 1, 1) := by decide +kernel
theorem dL_law_1033 : decode cL_law 1033 = .ok (.iadd, 1) := by decide +kernel
theorem dL_law_1034 : decode cL_law 1034 = .ok (.iaload, 1) := by decide +kernel
theorem dL_law_1035 : decode cL_law 1035 = .ok (.aload_n 0, 1) := by decide +kernel
theorem dL_law_1036 : decode cL_law 1036 = .ok (.iload_n 3, 1) := by decide +kernel
theorem dL_law_1037 : decode cL_law 1037 = .ok (.iconst 2, 1) := by decide +kernel
theorem dL_law_1038 : decode cL_law 1038 = .ok (.iadd, 1) := by decide +kernel
theorem dL_law_1039 : decode cL_law 1039 = .ok (.iaload, 1) := by decide +kernel
theorem dL_law_1040 : decode cL_law 1040 = .ok (.invokevirtual 119, 3) := by decide +kernel
theorem dL_law_1043 : decode cL_law 1043 = .ok (.aload_n 2, 1) := by decide +kernel
theorem dL_law_1044 : decode cL_law 1044 = .ok (.aload_n 0, 1) := by decide +kernel
theorem dL_law_1045 : decode cL_law 1045 = .ok (.iload_n 3, 1) := by decide +kernel
theorem dL_law_1046 : decode cL_law 1046 = .ok (.iconst 1, 1) := by decide +kernel
theorem dL_law_1047 : decode cL_law 1047 = .ok (.iadd, 1) := by decide +kernel
theorem dL_law_1048 : decode cL_law 1048 = .ok (.iaload, 1) := by decide +kernel
theorem dL_law_1049 : decode cL_law 1049 = .ok (.aload_n 0, 1) := by decide +kernel
theorem dL_law_1050 : decode cL_law 1050 = .ok (.iload_n 3, 1) := by decide +kernel
theorem dL_law_1051 : decode cL_law 1051 = .ok (.iconst 2, 1) := by decide +kernel
theorem dL_law_1052 : decode cL_law 1052 = .ok (.iadd, 1) := by decide +kernel
theorem dL_law_1053 : decode cL_law 1053 = .ok (.iaload, 1) := by decide +kernel
theorem dL_law_1054 : decode cL_law 1054 = .ok (.invokevirtual 122, 3) := by decide +kernel
theorem dL_law_1057 : decode cL_law 1057 = .ok (.if_icmp .eq 471, 3) := by decide +kernel
theorem dL_law_1060 : decode cL_law 1060 = .ok (.iconst 0, 1) := by decide +kernel
theorem dL_law_1061 : decode cL_law 1061 = .ok (.ireturn, 1) := by decide +kernel
theorem dL_law_1062 : decode cL_law 1062 = .ok (.aload_n 1, 1) := by decide +kernel
theorem dL_law_1063 : decode cL_law 1063 = .ok (.aload_n 0, 1) := by decide +kernel
theorem dL_law_1064 : decode cL_law 1064 = .ok (.iload_n 3, 1) := by decide +kernel
theorem dL_law_1065 : decode cL_law 1065 = .ok (.iconst 1, 1) := by decide +kernel
theorem dL_law_1066 : decode cL_law 1066 = .ok (.iadd, 1) := by decide +kernel
theorem dL_law_1067 : decode cL_law 1067 = .ok (.iaload, 1) := by decide +kernel
theorem dL_law_1068 : decode cL_law 1068 = .ok (.invokevirtual 123, 3) := by decide +kernel
theorem dL_law_1071 : decode cL_law 1071 = .ok (.aload_n 2, 1) := by decide +kernel
theorem dL_law_1072 : decode cL_law 1072 = .ok (.aload_n 0, 1) := by decide +kernel
theorem dL_law_1073 : decode cL_law 1073 = .ok (.iload_n 3, 1) := by decide +kernel
theorem dL_law_1074 : decode cL_law 1074 = .ok (.iconst 1, 1) := by decide +kernel
theorem dL_law_1075 : decode cL_law 1075 = .ok (.iadd, 1) := by decide +kernel
theorem dL_law_1076 : decode cL_law 1076 = .ok (.iaload, 1) := by decide +kernel
theorem dL_law_1077 : decode cL_law 1077 = .ok (.invokevirtual 126, 3) := by decide +kernel
theorem dL_law_1080 : decode cL_law 1080 = .ok (.if_icmp .eq 448, 3) := by decide +kernel
theorem dL_law_1083 : decode cL_law 1083 = .ok (.iconst 0, 1) := by decide +kernel
theorem dL_law_1084 : decode cL_law 1084 = .ok (.ireturn, 1) := by decide +kernel
theorem dL_law_1085 : decode cL_law 1085 = .ok (.aload_n 1, 1) := by decide +kernel
theorem dL_law_1086 : decode cL_law 1086 = .ok (.invokevirtual 127, 3) := by decide +kernel
theorem dL_law_1089 : decode cL_law 1089 = .ok (.aload_n 2, 1) := by decide +kernel
theorem dL_law_1090 : decode cL_law 1090 = .ok (.invokevirtual 130, 3) := by decide +kernel
theorem dL_law_1093 : decode cL_law 1093 = .ok (.if_icmp .eq 435, 3) := by decide +kernel
theorem dL_law_1096 : decode cL_law 1096 = .ok (.iconst 0, 1) := by decide +kernel
theorem dL_law_1097 : decode cL_law 1097 = .ok (.ireturn, 1) := by decide +kernel
theorem dL_law_1098 : decode cL_law 1098 = .ok (.aload_n 1, 1) := by decide +kernel
theorem dL_law_1099 : decode cL_law 1099 = .ok (.invokevirtual 131, 3) := by decide +kernel
theorem dL_law_1102 : decode cL_law 1102 = .ok (.aload_n 2, 1) := by decide +kernel
theorem dL_law_1103 : decode cL_law 1103 = .ok (.invokevirtual 134, 3) := by decide +kernel
theorem dL_law_1106 : decode cL_law 1106 = .ok (.if_icmp .eq 422, 3) := by decide +kernel
theorem dL_law_1109 : decode cL_law 1109 = .ok (.iconst 0, 1) := by decide +kernel
theorem dL_law_1110 : decode cL_law 1110 = .ok (.ireturn, 1) := by decide +kernel
theorem dL_law_1111 : decode cL_law 1111 = .ok (.aload_n 1, 1) := by decide +kernel
theorem dL_law_1112 : decode cL_law 1112 = .ok (.invokevirtual 135, 3) := by decide +kernel
theorem dL_law_1115 : decode cL_law 1115 = .ok (.aload_n 2, 1) := by decide +kernel
theorem dL_law_1116 : decode cL_law 1116 = .ok (.invokevirtual 138, 3) := by decide +kernel
theorem dL_law_1119 : decode cL_law 1119 = .ok (.if_icmp .eq 409, 3) := by decide +kernel
theorem dL_law_1122 : decode cL_law 1122 = .ok (.iconst 0, 1) := by decide +kernel
theorem dL_law_1123 : decode cL_law 1123 = .ok (.ireturn, 1) := by decide +kernel
theorem dL_law_1124 : decode cL_law 1124 = .ok (.aload_n 1, 1) := by decide +kernel
theorem dL_law_1125 : decode cL_law 1125 = .ok (.invokevirtual 139, 3) := by decide +kernel
theorem dL_law_1128 : decode cL_law 1128 = .ok (.aload_n 2, 1) := by decide +kernel
theorem dL_law_1129 : decode cL_law 1129 = .ok (.invokevirtual 142, 3) := by decide +kernel
theorem dL_law_1132 : decode cL_law 1132 = .ok (.if_icmp .eq 396, 3) := by decide +kernel
theorem dL_law_1135 : decode cL_law 1135 = .ok (.iconst 0, 1) := by decide +kernel
theorem dL_law_1136 : decode cL_law 1136 = .ok (.ireturn, 1) := by decide +kernel
theorem dL_law_1137 : decode cL_law 1137 = .ok (.aload_n 1, 1) := by decide +kernel
theorem dL_law_1138 : decode cL_law 1138 = .ok (.aload_n 0, 1) := by decide +kernel
theorem dL_law_1139 : decode cL_law 1139 = .ok (.iload_n 3, 1) := by decide +kernel
theorem dL_law_1140 : decode cL_law 1140 = .ok (.iconst 1, 1) := by decide +kernel
theorem dL_law_1141 : decode cL_law 1141 = .ok (.iadd, 1) := by decide +kernel
theorem dL_law_1142 : decode cL_law 1142 = .ok (.iaload, 1) := by decide +kernel
theorem dL_law_1143 : decode cL_law 1143 = .ok (.invokevirtual 143, 3) := by decide +kernel
theorem dL_law_1146 : decode cL_law 1146 = .ok (.aload_n 2, 1) := by decide +kernel
theorem dL_law_1147 : decode cL_law 1147 = .ok (.aload_n 0, 1) := by decide +kernel
theorem dL_law_1148 : decode cL_law 1148 = .ok (.iload_n 3, 1) := by decide +kernel
theorem dL_law_1149 : decode cL_law 1149 = .ok (.iconst 1, 1) := by decide +kernel
theorem dL_law_1150 : decode cL_law 1150 = .ok (.iadd, 1) := by decide +kernel
theorem dL_law_1151 : decode cL_law 1151 = .ok (.iaload, 1) := by decide +kernel
theorem dL_law_1152 : decode cL_law 1152 = .ok (.invokevirtual 146, 3) := by decide +kernel
theorem dL_law_1155 : decode cL_law 1155 = .ok (.if_icmp .eq 373, 3) := by decide +kernel
theorem dL_law_1158 : decode cL_law 1158 = .ok (.iconst 0, 1) := by decide +kernel
theorem dL_law_1159 : decode cL_law 1159 = .ok (.ireturn, 1) := by decide +kernel
theorem dL_law_1160 : decode cL_law 1160 = .ok (.aload_n 1, 1) := by decide +kernel
theorem dL_law_1161 : decode cL_law 1161 = .ok (.aload_n 0, 1) := by decide +kernel
theorem dL_law_1162 : decode cL_law 1162 = .ok (.iload_n 3, 1) := by decide +kernel
theorem dL_law_1163 : decode cL_law 1163 = .ok (.iconst 1, 1) := by decide +kernel
theorem dL_law_1164 : decode cL_law 1164 = .ok (.iadd, 1) := by decide +kernel
theorem dL_law_1165 : decode cL_law 1165 = .ok (.iaload, 1) := by decide +kernel
theorem dL_law_1166 : decode cL_law 1166 = .ok (.aload_n 0, 1) := by decide +kernel
theorem dL_law_1167 : decode cL_law 1167 = .ok (.iload_n 3, 1) := by decide +kernel
theorem dL_law_1168 : decode cL_law 1168 = .ok (.iconst 2, 1) := by decide +kernel
theorem dL_law_1169 : decode cL_law 1169 = .ok (.iadd, 1) := by decide +kernel
theorem dL_law_1170 : decode cL_law 1170 = .ok (.iaload, 1) := by decide +kernel
theorem dL_law_1171 : decode cL_law 1171 = .ok (.aload_n 0, 1) := by decide +kernel
theorem dL_law_1172 : decode cL_law 1172 = .ok (.iload_n 3, 1) := by decide +kernel
theorem dL_law_1173 : decode cL_law 1173 = .ok (.iconst 3, 1) := by decide +kernel
theorem dL_law_1174 : decode cL_law 1174 = .ok (.iadd, 1) := by decide +kernel
theorem dL_law_1175 : decode cL_law 1175 = .ok (.iaload, 1) := by decide +kernel
theorem dL_law_1176 : decode cL_law 1176 = .ok (.invokevirtual 147, 3) := by decide +kernel
theorem dL_law_1179 : decode cL_law 1179 = .ok (.aload_n 2, 1) := by decide +kernel
theorem dL_law_1180 : decode cL_law 1180 = .ok (.aload_n 0, 1) := by decide +kernel
theorem dL_law_1181 : decode cL_law 1181 = .ok (.iload_n 3, 1) := by decide +kernel
theorem dL_law_1182 : decode cL_law 1182 = .ok (.iconst 1, 1) := by decide +kernel
theorem dL_law_1183 : decode cL_law 1183 = .ok (.iadd, 1) := by decide +kernel
theorem dL_law_1184 : decode cL_law 1184 = .ok (.iaload, 1) := by decide +kernel
theorem dL_law_1185 : decode cL_law 1185 = .ok (.aload_n 0, 1) := by decide +kernel
theorem dL_law_1186 : decode cL_law 1186 = .ok (.iload_n 3, 1) := by decide +kernel
theorem dL_law_1187 : decode cL_law 1187 = .ok (.iconst 2, 1) := by decide +kernel
theorem dL_law_1188 : decode cL_law 1188 = .ok (.iadd, 1) := by decide +kernel
theorem dL_law_1189 : decode cL_law 1189 = .ok (.iaload, 1) := by decide +kernel
theorem dL_law_1190 : decode cL_law 1190 = .ok (.aload_n 0, 1) := by decide +kernel
theorem dL_law_1191 : decode cL_law 1191 = .ok (.iload_n 3, 1) := by decide +kernel
theorem dL_law_1192 : decode cL_law 1192 = .ok (.iconst 3, 1) := by decide +kernel
theorem dL_law_1193 : decode cL_law 1193 = .ok (.iadd, 1) := by decide +kernel
theorem dL_law_1194 : decode cL_law 1194 = .ok (.iaload, 1) := by decide +kernel
theorem dL_law_1195 : decode cL_law 1195 = .ok (.invokevirtual 150, 3) := by decide +kernel
theorem dL_law_1198 : decode cL_law 1198 = .ok (.if_icmp .eq 330, 3) := by decide +kernel
theorem dL_law_1201 : decode cL_law 1201 = .ok (.iconst 0, 1) := by decide +kernel
theorem dL_law_1202 : decode cL_law 1202 = .ok (.ireturn, 1) := by decide +kernel
theorem dL_law_1203 : decode cL_law 1203 = .ok (.aload_n 1, 1) := by decide +kernel
theorem dL_law_1204 : decode cL_law 1204 = .ok (.aload_n 0, 1) := by decide +kernel
theorem dL_law_1205 : decode cL_law 1205 = .ok (.iload_n 3, 1) := by decide +kernel
theorem dL_law_1206 : decode cL_law 1206 = .ok (.iconst 1, 1) := by decide +kernel
theorem dL_law_1207 : decode cL_law 1207 = .ok (.iadd, 1) := by decide +kernel
theorem dL_law_1208 : decode cL_law 1208 = .ok (.iaload, 1) := by decide +kernel
theorem dL_law_1209 : decode cL_law 1209 = .ok (.invokevirtual 151, 3) := by decide +kernel
theorem dL_law_1212 : decode cL_law 1212 = .ok (.aload_n 2, 1) := by decide +kernel
theorem dL_law_1213 : decode cL_law 1213 = .ok (.aload_n 0, 1) := by decide +kernel
theorem dL_law_1214 : decode cL_law 1214 = .ok (.iload_n 3, 1) := by decide +kernel
theorem dL_law_1215 : decode cL_law 1215 = .ok (.iconst 1, 1) := by decide +kernel
theorem dL_law_1216 : decode cL_law 1216 = .ok (.iadd, 1) := by decide +kernel
theorem dL_law_1217 : decode cL_law 1217 = .ok (.iaload, 1) := by decide +kernel
theorem dL_law_1218 : decode cL_law 1218 = .ok (.invokevirtual 154, 3) := by decide +kernel
theorem dL_law_1221 : decode cL_law 1221 = .ok (.if_icmp .eq 307, 3) := by decide +kernel
theorem dL_law_1224 : decode cL_law 1224 = .ok (.iconst 0, 1) := by decide +kernel
theorem dL_law_1225 : decode cL_law 1225 = .ok (.ireturn, 1) := by decide +kernel
theorem dL_law_1226 : decode cL_law 1226 = .ok (.aload_n 1, 1) := by decide +kernel
theorem dL_law_1227 : decode cL_law 1227 = .ok (.aload_n 0, 1) := by decide +kernel
theorem dL_law_1228 : decode cL_law 1228 = .ok (.iload_n 3, 1) := by decide +kernel
theorem dL_law_1229 : decode cL_law 1229 = .ok (.iconst 1, 1) := by decide +kernel
theorem dL_law_1230 : decode cL_law 1230 = .ok (.iadd, 1) := by decide +kernel
theorem dL_law_1231 : decode cL_law 1231 = .ok (.iaload, 1) := by decide +kernel
theorem dL_law_1232 : decode cL_law 1232 = .ok (.aload_n 0, 1) := by decide +kernel
theorem dL_law_1233 : decode cL_law 1233 = .ok (.iload_n 3, 1) := by decide +kernel
theorem dL_law_1234 : decode cL_law 1234 = .ok (.iconst 2, 1) := by decide +kernel
theorem dL_law_1235 : decode cL_law 1235 = .ok (.iadd, 1) := by decide +kernel
theorem dL_law_1236 : decode cL_law 1236 = .ok (.iaload, 1) := by decide +kernel
theorem dL_law_1237 : decode cL_law 1237 = .ok (.invokevirtual 155, 3) := by decide +kernel
theorem dL_law_1240 : decode cL_law 1240 = .ok (.aload_n 2, 1) := by decide +kernel
theorem dL_law_1241 : decode cL_law 1241 = .ok (.aload_n 0, 1) := by decide +kernel
theorem dL_law_1242 : decode cL_law 1242 = .ok (.iload_n 3, 1) := by decide +kernel
theorem dL_law_1243 : decode cL_law 1243 = .ok (.iconst 1, 1) := by decide +kernel
theorem dL_law_1244 : decode cL_law 1244 = .ok (.iadd, 1) := by decide +kernel
theorem dL_law_1245 : decode cL_law 1245 = .ok (.iaload, 1) := by decide +kernel
theorem dL_law_1246 : decode cL_law 1246 = .ok (.aload_n 0, 1) := by decide +kernel
theorem dL_law_1247 : decode cL_law 1247 = .ok (.iload_n 3, 1) := by decide +kernel
theorem dL_law_1248 : decode cL_law 1248 = .ok (.iconst 2, 1) := by decide +kernel
theorem dL_law_1249 : decode cL_law 1249 = .ok (.iadd, 1) := by decide +kernel
theorem dL_law_1250 : decode cL_law 1250 = .ok (.iaload, 1) := by decide +kernel
theorem dL_law_1251 : decode cL_law 1251 = .ok (.invokevirtual 158, 3) := by decide +kernel
theorem dL_law_1254 : decode cL_law 1254 = .ok (.if_icmp .eq 274, 3) := by decide +kernel
theorem dL_law_1257 : decode cL_law 1257 = .ok (.iconst 0, 1) := by decide +kernel
theorem dL_law_1258 : decode cL_law 1258 = .ok (.ireturn, 1) := by decide +kernel
theorem dL_law_1259 : decode cL_law 1259 = .ok (.aload_n 1, 1) := by decide +kernel
theorem dL_law_1260 : decode cL_law 1260 = .ok (.aload_n 0, 1) := by decide +kernel
theorem dL_law_1261 : decode cL_law 1261 = .ok (.iload_n 3, 1) := by decide +kernel
theorem dL_law_1262 : decode cL_law 1262 = .ok (.iconst 1, 1) := by decide +kernel
theorem dL_law_1263 : decode cL_law 1263 = .ok (.iadd, 1) := by decide +kernel
theorem dL_law_1264 : decode cL_law 1264 = .ok (.iaload, 1) := by decide +kernel
theorem dL_law_1265 : decode cL_law 1265 = .ok (.aload_n 0, 1) := by decide +kernel
theorem dL_law_1266 : decode cL_law 1266 = .ok (.iload_n 3, 1) := by decide +kernel
theorem dL_law_1267 : decode cL_law 1267 = .ok (.iconst 2, 1) := by decide +kernel
theorem dL_law_1268 : decode cL_law 1268 = .ok (.iadd, 1) := by decide +kernel
theorem dL_law_1269 : decode cL_law 1269 = .ok (.iaload, 1) := by decide +kernel
theorem dL_law_1270 : decode cL_law 1270 = .ok (.aload_n 0, 1) := by decide +kernel
theorem dL_law_1271 : decode cL_law 1271 = .ok (.iload_n 3, 1) := by decide +kernel
theorem dL_law_1272 : decode cL_law 1272 = .ok (.iconst 3, 1) := by decide +kernel
theorem dL_law_1273 : decode cL_law 1273 = .ok (.iadd, 1) := by decide +kernel
theorem dL_law_1274 : decode cL_law 1274 = .ok (.iaload, 1) := by decide +kernel
theorem dL_law_1275 : decode cL_law 1275 = .ok (.invokevirtual 159, 3) := by decide +kernel
theorem dL_law_1278 : decode cL_law 1278 = .ok (.aload_n 2, 1) := by decide +kernel
theorem dL_law_1279 : decode cL_law 1279 = .ok (.aload_n 0, 1) := by decide +kernel
theorem dL_law_1280 : decode cL_law 1280 = .ok (.iload_n 3, 1) := by decide +kernel
theorem dL_law_1281 : decode cL_law 1281 = .ok (.iconst 1, 1) := by decide +kernel
theorem dL_law_1282 : decode cL_law 1282 = .ok (.iadd, 1) := by decide +kernel
theorem dL_law_1283 : decode cL_law 1283 = .ok (.iaload, 1) := by decide +kernel
theorem dL_law_1284 : decode cL_law 1284 = .ok (.aload_n 0, 1) := by decide +kernel
theorem dL_law_1285 : decode cL_law 1285 = .ok (.iload_n 3, 1) := by decide +kernel
theorem dL_law_1286 : decode cL_law 1286 = .ok (.iconst 2, 1) := by decide +kernel
theorem dL_law_1287 : decode cL_law 1287 = .ok (.iadd, 1) := by decide +kernel
theorem dL_law_1288 : decode cL_law 1288 = .ok (.iaload, 1) := by decide +kernel
theorem dL_law_1289 : decode cL_law 1289 = .ok (.aload_n 0, 1) := by decide +kernel
theorem dL_law_1290 : decode cL_law 1290 = .ok (.iload_n 3, 1) := by decide +kernel
theorem dL_law_1291 : decode cL_law 1291 = .ok (.iconst 3, 1) := by decide +kernel
theorem dL_law_1292 : decode cL_law 1292 = .ok (.iadd, 1) := by decide +kernel
theorem dL_law_1293 : decode cL_law 1293 = .ok (.iaload, 1) := by decide +kernel
theorem dL_law_1294 : decode cL_law 1294 = .ok (.invokevirtual 162, 3) := by decide +kernel
theorem dL_law_1297 : decode cL_law 1297 = .ok (.if_icmp .eq 231, 3) := by decide +kernel
theorem dL_law_1300 : decode cL_law 1300 = .ok (.iconst 0, 1) := by decide +kernel
theorem dL_law_1301 : decode cL_law 1301 = .ok (.ireturn, 1) := by decide +kernel
theorem dL_law_1302 : decode cL_law 1302 = .ok (.aload_n 1, 1) := by decide +kernel
theorem dL_law_1303 : decode cL_law 1303 = .ok (.aload_n 0, 1) := by decide +kernel
theorem dL_law_1304 : decode cL_law 1304 = .ok (.iload_n 3, 1) := by decide +kernel
theorem dL_law_1305 : decode cL_law 1305 = .ok (.iconst 1, 1) := by decide +kernel
theorem dL_law_1306 : decode cL_law 1306 = .ok (.iadd, 1) := by decide +kernel
theorem dL_law_1307 : decode cL_law 1307 = .ok (.iaload, 1) := by decide +kernel
theorem dL_law_1308 : decode cL_law 1308 = .ok (.aload_n 0, 1) := by decide +kernel
theorem dL_law_1309 : decode cL_law 1309 = .ok (.iload_n 3, 1) := by decide +kernel
theorem dL_law_1310 : decode cL_law 1310 = .ok (.iconst 2, 1) := by decide +kernel
theorem dL_law_1311 : decode cL_law 1311 = .ok (.iadd, 1) := by decide +kernel
theorem dL_law_1312 : decode cL_law 1312 = .ok (.iaload, 1) := by decide +kernel
theorem dL_law_1313 : decode cL_law 1313 = .ok (.aload_n 0, 1) := by decide +kernel
theorem dL_law_1314 : decode cL_law 1314 = .ok (.iload_n 3, 1) := by decide +kernel
theorem dL_law_1315 : decode cL_law 1315 = .ok (.iconst 3, 1) := by decide +kernel
theorem dL_law_1316 : decode cL_law 1316 = .ok (.iadd, 1) := by decide +kernel
theorem dL_law_1317 : decode cL_law 1317 = .ok (.iaload, 1) := by decide +kernel
theorem dL_law_1318 : decode cL_law 1318 = .ok (.i2l, 1) := by decide +kernel
theorem dL_law_1319 : decode cL_law 1319 = .ok (.bipush 32, 2) := by decide +kernel
theorem dL_law_1321 : decode cL_law 1321 = .ok (.lshl, 1) := by decide +kernel
theorem dL_law_1322 : decode cL_law 1322 = .ok (.aload_n 0, 1) := by decide +kernel
theorem dL_law_1323 : decode cL_law 1323 = .ok (.iload_n 3, 1) := by decide +kernel
theorem dL_law_1324 : decode cL_law 1324 = .ok (.iconst 4, 1) := by decide +kernel
theorem dL_law_1325 : decode cL_law 1325 = .ok (.iadd, 1) := by decide +kernel
theorem dL_law_1326 : decode cL_law 1326 = .ok (.iaload, 1) := by decide +kernel
theorem dL_law_1327 : decode cL_law 1327 = .ok (.i2l, 1) := by decide +kernel
theorem dL_law_1328 : decode cL_law 1328 = .ok (.ldc2_w 163, 3) := by decide +kernel
theorem dL_law_1331 : decode cL_law 1331 = .ok (.land, 1) := by decide +kernel
theorem dL_law_1332 : decode cL_law 1332 = .ok (.lor, 1) := by decide +kernel
theorem dL_law_1333 : decode cL_law 1333 = .ok (.invokevirtual 165, 3) := by decide +kernel
theorem dL_law_1336 : decode cL_law 1336 = .ok (.aload_n 2, 1) := by decide +kernel
theorem dL_law_1337 : decode cL_law 1337 = .ok (.aload_n 0, 1) := by decide +kernel
theorem dL_law_1338 : decode cL_law 1338 = .ok (.iload_n 3, 1) := by decide +kernel
theorem dL_law_1339 : decode cL_law 1339 = .ok (.iconst 1, 1) := by decide +kernel
theorem dL_law_1340 : decode cL_law 1340 = .ok (.iadd, 1) := by decide +kernel
theorem dL_law_1341 : decode cL_law 1341 = .ok (.iaload, 1) := by decide +kernel
theorem dL_law_1342 : decode cL_law 1342 = .ok (.aload_n 0, 1) := by decide +kernel
theorem dL_law_1343 : decode cL_law 1343 = .ok (.iload_n 3, 1) := by decide +kernel
theorem dL_law_1344 : decode cL_law 1344 = .ok (.iconst 2, 1) := by decide +kernel
theorem dL_law_1345 : decode cL_law 1345 = .ok (.iadd, 1) := by decide +kernel
theorem dL_law_1346 : decode cL_law 1346 = .ok (.iaload, 1) := by decide +kernel
theorem dL_law_1347 : decode cL_law 1347 = .ok (.aload_n 0, 1) := by decide +kernel
theorem dL_law_1348 : decode cL_law 1348 = .ok (.iload_n 3, 1) := by decide +kernel
theorem dL_law_1349 : decode cL_law 1349 = .ok (.iconst 3, 1) := by decide +kernel
theorem dL_law_1350 : decode cL_law 1350 = .ok (.iadd, 1) := by decide +kernel
theorem dL_law_1351 : decode cL_law 1351 = .ok (.iaload, 1) := by decide +kernel
theorem dL_law_1352 : decode cL_law 1352 = .ok (.i2l, 1) := by decide +kernel
theorem dL_law_1353 : decode cL_law 1353 = .ok (.bipush 32, 2) := by decide +kernel
theorem dL_law_1355 : decode cL_law 1355 = .ok (.lshl, 1) := by decide +kernel
theorem dL_law_1356 : decode cL_law 1356 = .ok (.aload_n 0, 1) := by decide +kernel
theorem dL_law_1357 : decode cL_law 1357 = .ok (.iload_n 3, 1) := by decide +kernel
theorem dL_law_1358 : decode cL_law 1358 = .ok (.iconst 4, 1) := by decide +kernel
theorem dL_law_1359 : decode cL_law 1359 = .ok (.iadd, 1) := by decide +kernel
theorem dL_law_1360 : decode cL_law 1360 = .ok (.iaload, 1) := by decide +kernel
theorem dL_law_1361 : decode cL_law 1361 = .ok (.i2l, 1) := by decide +kernel
theorem dL_law_1362 : decode cL_law 1362 = .ok (.ldc2_w 163, 3) := by decide +kernel
theorem dL_law_1365 : decode cL_law 1365 = .ok (.land, 1) := by decide +kernel
theorem dL_law_1366 : decode cL_law 1366 = .ok (.lor, 1) := by decide +kernel
theorem dL_law_1367 : decode cL_law 1367 = .ok (.invokevirtual 169, 3) := by decide +kernel
theorem dL_law_1370 : decode cL_law 1370 = .ok (.if_icmp .eq 158, 3) := by decide +kernel
theorem dL_law_1373 : decode cL_law 1373 = .ok (.iconst 0, 1) := by decide +kernel
theorem dL_law_1374 : decode cL_law 1374 = .ok (.ireturn, 1) := by decide +kernel
theorem dL_law_1375 : decode cL_law 1375 = .ok (.aload_n 1, 1) := by decide +kernel
theorem dL_law_1376 : decode cL_law 1376 = .ok (.aload_n 0, 1) := by decide +kernel
theorem dL_law_1377 : decode cL_law 1377 = .ok (.iload_n 3, 1) := by decide +kernel
theorem dL_law_1378 : decode cL_law 1378 = .ok (.iconst 1, 1) := by decide +kernel
theorem dL_law_1379 : decode cL_law 1379 = .ok (.iadd, 1) := by decide +kernel
theorem dL_law_1380 : decode cL_law 1380 = .ok (.iaload, 1) := by decide +kernel
theorem dL_law_1381 : decode cL_law 1381 = .ok (.aload_n 0, 1) := by decide +kernel
theorem dL_law_1382 : decode cL_law 1382 = .ok (.iload_n 3, 1) := by decide +kernel
theorem dL_law_1383 : decode cL_law 1383 = .ok (.iconst 2, 1) := by decide +kernel
theorem dL_law_1384 : decode cL_law 1384 = .ok (.iadd, 1) := by decide +kernel
theorem dL_law_1385 : decode cL_law 1385 = .ok (.iaload, 1) := by decide +kernel
theorem dL_law_1386 : decode cL_law 1386 = .ok (.invokevirtual 170, 3) := by decide +kernel
theorem dL_law_1389 : decode cL_law 1389 = .ok (.aload_n 2, 1) := by decide +kernel
theorem dL_law_1390 : decode cL_law 1390 = .ok (.aload_n 0, 1) := by decide +kernel
theorem dL_law_1391 : decode cL_law 1391 = .ok (.iload_n 3, 1) := by decide +kernel
theorem dL_law_1392 : decode cL_law 1392 = .ok (.iconst 1, 1) := by decide +kernel
theorem dL_law_1393 : decode cL_law 1393 = .ok (.iadd, 1) := by decide +kernel
theorem dL_law_1394 : decode cL_law 1394 = .ok (.iaload, 1) := by decide +kernel
theorem dL_law_1395 : decode cL_law 1395 = .ok (.aload_n 0, 1) := by decide +kernel
theorem dL_law_1396 : decode cL_law 1396 = .ok (.iload_n 3, 1) := by decide +kernel
theorem dL_law_1397 : decode cL_law 1397 = .ok (.iconst 2, 1) := by decide +kernel
theorem dL_law_1398 : decode cL_law 1398 = .ok (.iadd, 1) := by decide +kernel
theorem dL_law_1399 : decode cL_law 1399 = .ok (.iaload, 1) := by decide +kernel
theorem dL_law_1400 : decode cL_law 1400 = .ok (.invokevirtual 173, 3) := by decide +kernel
theorem dL_law_1403 : decode cL_law 1403 = .ok (.lcmp, 1) := by decide +kernel
theorem dL_law_1404 : decode cL_law 1404 = .ok (.ifCond .eq 124, 3) := by decide +kernel
theorem dL_law_1407 : decode cL_law 1407 = .ok (.iconst 0, 1) := by decide +kernel
theorem dL_law_1408 : decode cL_law 1408 = .ok (.ireturn, 1) := by decide +kernel
theorem dL_law_1409 : decode cL_law 1409 = .ok (.aload_n 1, 1) := by decide +kernel
theorem dL_law_1410 : decode cL_law 1410 = .ok (.aload_n 0, 1) := by decide +kernel
theorem dL_law_1411 : decode cL_law 1411 = .ok (.iload_n 3, 1) := by decide +kernel
theorem dL_law_1412 : decode cL_law 1412 = .ok (.iconst 1, 1) := by decide +kernel
theorem dL_law_1413 : decode cL_law 1413 = .ok (.iadd, 1) := by decide +kernel
theorem dL_law_1414 : decode cL_law 1414 = .ok (.iaload, 1) := by decide +kernel
theorem dL_law_1415 : decode cL_law 1415 = .ok (.aload_n 0, 1) := by decide +kernel
theorem dL_law_1416 : decode cL_law 1416 = .ok (.iload_n 3, 1) := by decide +kernel
theorem dL_law_1417 : decode cL_law 1417 = .ok (.iconst 2, 1) := by decide +kernel
theorem dL_law_1418 : decode cL_law 1418 = .ok (.iadd, 1) := by decide +kernel
theorem dL_law_1419 : decode cL_law 1419 = .ok (.iaload, 1) := by decide +kernel
theorem dL_law_1420 : decode cL_law 1420 = .ok (.aload_n 0, 1) := by decide +kernel
theorem dL_law_1421 : decode cL_law 1421 = .ok (.iload_n 3, 1) := by decide +kernel
theorem dL_law_1422 : decode cL_law 1422 = .ok (.iconst 3, 1) := by decide +kernel
theorem dL_law_1423 : decode cL_law 1423 = .ok (.iadd, 1) := by decide +kernel
theorem dL_law_1424 : decode cL_law 1424 = .ok (.iaload, 1) := by decide +kernel
theorem dL_law_1425 : decode cL_law 1425 = .ok (.aload_n 0, 1) := by decide +kernel
theorem dL_law_1426 : decode cL_law 1426 = .ok (.iload_n 3, 1) := by decide +kernel
theorem dL_law_1427 : decode cL_law 1427 = .ok (.iconst 4, 1) := by decide +kernel
theorem dL_law_1428 : decode cL_law 1428 = .ok (.iadd, 1) := by decide +kernel
theorem dL_law_1429 : decode cL_law 1429 = .ok (.iaload, 1) := by decide +kernel
theorem dL_law_1430 : decode cL_law 1430 = .ok (.aload_n 0, 1) := by decide +kernel
theorem dL_law_1431 : decode cL_law 1431 = .ok (.iload_n 3, 1) := by decide +kernel
theorem dL_law_1432 : decode cL_law 1432 = .ok (.iconst 5, 1) := by decide +kernel
theorem dL_law_1433 : decode cL_law 1433 = .ok (.iadd, 1) := by decide +kernel
theorem dL_law_1434 : decode cL_law 1434 = .ok (.iaload, 1) := by decide +kernel
theorem dL_law_1435 : decode cL_law 1435 = .ok (.invokevirtual 174, 3) := by decide +kernel
theorem dL_law_1438 : decode cL_law 1438 = .ok (.aload_n 2, 1) := by decide +kernel
theorem dL_law_1439 : decode cL_law 1439 = .ok (.aload_n 0, 1) := by decide +kernel
theorem dL_law_1440 : decode cL_law 1440 = .ok (.iload_n 3, 1) := by decide +kernel
theorem dL_law_1441 : decode cL_law 1441 = .ok (.iconst 1, 1) := by decide +kernel
theorem dL_law_1442 : decode cL_law 1442 = .ok (.iadd, 1) := by decide +kernel
theorem dL_law_1443 : decode cL_law 1443 = .ok (.iaload, 1) := by decide +kernel
theorem dL_law_1444 : decode cL_law 1444 = .ok (.aload_n 0, 1) := by decide +kernel
theorem dL_law_1445 : decode cL_law 1445 = .ok (.iload_n 3, 1) := by decide +kernel
theorem dL_law_1446 : decode cL_law 1446 = .ok (.iconst 2, 1) := by decide +kernel
theorem dL_law_1447 : decode cL_law 1447 = .ok (.iadd, 1) := by decide +kernel
theorem dL_law_1448 : decode cL_law 1448 = .ok (.iaload, 1) := by decide +kernel
theorem dL_law_1449 : decode cL_law 1449 = .ok (.aload_n 0, 1) := by decide +kernel
theorem dL_law_1450 : decode cL_law 1450 = .ok (.iload_n 3, 1) := by decide +kernel
theorem dL_law_1451 : decode cL_law 1451 = .ok (.iconst 3, 1) := by decide +kernel
theorem dL_law_1452 : decode cL_law 1452 = .ok (.iadd, 1) := by decide +kernel
theorem dL_law_1453 : decode cL_law 1453 = .ok (.iaload, 1) := by decide +kernel
theorem dL_law_1454 : decode cL_law 1454 = .ok (.aload_n 0, 1) := by decide +kernel
theorem dL_law_1455 : decode cL_law 1455 = .ok (.iload_n 3, 1) := by decide +kernel
theorem dL_law_1456 : decode cL_law 1456 = .ok (.iconst 4, 1) := by decide +kernel
theorem dL_law_1457 : decode cL_law 1457 = .ok (.iadd, 1) := by decide +kernel
theorem dL_law_1458 : decode cL_law 1458 = .ok (.iaload, 1) := by decide +kernel
theorem dL_law_1459 : decode cL_law 1459 = .ok (.aload_n 0, 1) := by decide +kernel
theorem dL_law_1460 : decode cL_law 1460 = .ok (.iload_n 3, 1) := by decide +kernel
theorem dL_law_1461 : decode cL_law 1461 = .ok (.iconst 5, 1) := by decide +kernel
theorem dL_law_1462 : decode cL_law 1462 = .ok (.iadd, 1) := by decide +kernel
theorem dL_law_1463 : decode cL_law 1463 = .ok (.iaload, 1) := by decide +kernel
theorem dL_law_1464 : decode cL_law 1464 = .ok (.invokevirtual 178, 3) := by decide +kernel
theorem dL_law_1467 : decode cL_law 1467 = .ok (.if_icmp .eq 61, 3) := by decide +kernel
theorem dL_law_1470 : decode cL_law 1470 = .ok (.iconst 0, 1) := by decide +kernel
theorem dL_law_1471 : decode cL_law 1471 = .ok (.ireturn, 1) := by decide +kernel
theorem dL_law_1472 : decode cL_law 1472 = .ok (.aload_n 1, 1) := by decide +kernel
theorem dL_law_1473 : decode cL_law 1473 = .ok (.aload_n 0, 1) := by decide +kernel
theorem dL_law_1474 : decode cL_law 1474 = .ok (.iload_n 3, 1) := by decide +kernel
theorem dL_law_1475 : decode cL_law 1475 = .ok (.iconst 1, 1) := by decide +kernel
theorem dL_law_1476 : decode cL_law 1476 = .ok (.iadd, 1) := by decide +kernel
theorem dL_law_1477 : decode cL_law 1477 = .ok (.iaload, 1) := by decide +kernel
theorem dL_law_1478 : decode cL_law 1478 = .ok (.aload_n 0, 1) := by decide +kernel
theorem dL_law_1479 : decode cL_law 1479 = .ok (.iload_n 3, 1) := by decide +kernel
theorem dL_law_1480 : decode cL_law 1480 = .ok (.iconst 2, 1) := by decide +kernel
theorem dL_law_1481 : decode cL_law 1481 = .ok (.iadd, 1) := by decide +kernel
theorem dL_law_1482 : decode cL_law 1482 = .ok (.iaload, 1) := by decide +kernel
theorem dL_law_1483 : decode cL_law 1483 = .ok (.invokevirtual 179, 3) := by decide +kernel
theorem dL_law_1486 : decode cL_law 1486 = .ok (.aload_n 2, 1) := by decide +kernel
theorem dL_law_1487 : decode cL_law 1487 = .ok (.aload_n 0, 1) := by decide +kernel
theorem dL_law_1488 : decode cL_law 1488 = .ok (.iload_n 3, 1) := by decide +kernel
theorem dL_law_1489 : decode cL_law 1489 = .ok (.iconst 1, 1) := by decide +kernel
theorem dL_law_1490 : decode cL_law 1490 = .ok (.iadd, 1) := by decide +kernel
theorem dL_law_1491 : decode cL_law 1491 = .ok (.iaload, 1) := by decide +kernel
theorem dL_law_1492 : decode cL_law 1492 = .ok (.aload_n 0, 1) := by decide +kernel
theorem dL_law_1493 : decode cL_law 1493 = .ok (.iload_n 3, 1) := by decide +kernel
theorem dL_law_1494 : decode cL_law 1494 = .ok (.iconst 2, 1) := by decide +kernel
theorem dL_law_1495 : decode cL_law 1495 = .ok (.iadd, 1) := by decide +kernel
theorem dL_law_1496 : decode cL_law 1496 = .ok (.iaload, 1) := by decide +kernel
theorem dL_law_1497 : decode cL_law 1497 = .ok (.invokevirtual 182, 3) := by decide +kernel
theorem dL_law_1500 : decode cL_law 1500 = .ok (.if_icmp .eq 28, 3) := by decide +kernel
theorem dL_law_1503 : decode cL_law 1503 = .ok (.iconst 0, 1) := by decide +kernel
theorem dL_law_1504 : decode cL_law 1504 = .ok (.ireturn, 1) := by decide +kernel
theorem dL_law_1505 : decode cL_law 1505 = .ok (.aload_n 1, 1) := by decide +kernel
theorem dL_law_1506 : decode cL_law 1506 = .ok (.aload_n 0, 1) := by decide +kernel
theorem dL_law_1507 : decode cL_law 1507 = .ok (.iload_n 3, 1) := by decide +kernel
theorem dL_law_1508 : decode cL_law 1508 = .ok (.iconst 1, 1) := by decide +kernel
theorem dL_law_1509 : decode cL_law 1509 = .ok (.iadd, 1) := by decide +kernel
theorem dL_law_1510 : decode cL_law 1510 = .ok (.iaload, 1) := by decide +kernel
theorem dL_law_1511 : decode cL_law 1511 = .ok (.invokevirtual 183, 3) := by decide +kernel
theorem dL_law_1514 : decode cL_law 1514 = .ok (.aload_n 2, 1) := by decide +kernel
theorem dL_law_1515 : decode cL_law 1515 = .ok (.aload_n 0, 1) := by decide +kernel
theorem dL_law_1516 : decode cL_law 1516 = .ok (.iload_n 3, 1) := by decide +kernel
theorem dL_law_1517 : decode cL_law 1517 = .ok (.iconst 1, 1) := by decide +kernel
theorem dL_law_1518 : decode cL_law 1518 = .ok (.iadd, 1) := by decide +kernel
theorem dL_law_1519 : decode cL_law 1519 = .ok (.iaload, 1) := by decide +kernel
theorem dL_law_1520 : decode cL_law 1520 = .ok (.invokevirtual 186, 3) := by decide +kernel
theorem dL_law_1523 : decode cL_law 1523 = .ok (.if_icmp .eq 5, 3) := by decide +kernel
theorem dL_law_1526 : decode cL_law 1526 = .ok (.iconst 0, 1) := by decide +kernel
theorem dL_law_1527 : decode cL_law 1527 = .ok (.ireturn, 1) := by decide +kernel
theorem dL_law_1528 : decode cL_law 1528 = .ok (.iinc 3 6, 3) := by decide +kernel
theorem dL_law_1531 : decode cL_law 1531 = .ok (.goto (-1513), 3) := by decide +kernel
theorem dL_law_1534 : decode cL_law 1534 = .ok (.iconst 1, 1) := by decide +kernel
theorem dL_law_1535 : decode cL_law 1535 = .ok (.ireturn, 1) := by decide +kernel
