theorem dX7_along_2 : decode cX7_along 2 = .ok (.iload_n 2, 1) := by decide +kernel
theorem dX7_along_3 : decode cX7_along 3 = .ok (.iload_n 3, 1) := by decide +kernel
theorem dX7_along_4 : decode cX7_along 4 = .ok (.if_icmp .eq 7, 3) := by decide +kernel
theorem dX7_along_7 : decode cX7_along 7 = .ok (.iconst 1, 1) := by decide +kernel
theorem dX7_along_8 : decode cX7_along 8 = .ok (.goto 4, 3) := by decide +kernel
theorem dX7_along_11 : decode cX7_along 11 = .ok (.iconst 0, 1) := by decide +kernel
theorem dX7_along_12 : decode cX7_along 12 = .ok (.invokevirtual 47, 3) := by decide +kernel
theorem dX7_along_15 : decode cX7_along 15 = .ok (.ireturn, 1) := by decide +kernel
theorem dX7_spans_0 : decode cX7_spans 0 = .ok (.aload_n 0, 1) := by decide +kernel
theorem dX7_spans_1 : decode cX7_spans 1 = .ok (.iload_n 1, 1) := by decide +kernel
theorem dX7_spans_2 : decode cX7_spans 2 = .ok (.iload_n 2, 1) := by decide +kernel
theorem dX7_spans_3 : decode cX7_spans 3 = .ok (.aload_n 0, 1) := by decide +kernel
theorem dX7_spans_4 : decode cX7_spans 4 = .ok (.iload_n 1, 1) := by decide +kernel
theorem dX7_spans_5 : decode cX7_spans 5 = .ok (.bipush 6, 2) := by decide +kernel
theorem dX7_spans_7 : decode cX7_spans 7 = .ok (.invokevirtual 47, 3) := by decide +kernel
theorem dX7_spans_10 : decode cX7_spans 10 = .ok (.iconst 1, 1) := by decide +kernel
theorem dX7_spans_11 : decode cX7_spans 11 = .ok (.if_icmp .ne 7, 3) := by decide +kernel
theorem dX7_spans_14 : decode cX7_spans 14 = .ok (.iconst 1, 1) := by decide +kernel
theorem dX7_spans_15 : decode cX7_spans 15 = .ok (.goto 4, 3) := by decide +kernel
theorem dX7_spans_18 : decode cX7_spans 18 = .ok (.iconst 0, 1) := by decide +kernel
theorem dX7_spans_19 : decode cX7_spans 19 = .ok (.invokevirtual 55, 3) := by decide +kernel
theorem dX7_spans_22 : decode cX7_spans 22 = .ok (.ireturn, 1) := by decide +kernel
theorem dX7_covers_0 : decode cX7_covers 0 = .ok (.iload_n 2, 1) := by decide +kernel
theorem dX7_covers_1 : decode cX7_covers 1 = .ok (.aload_n 0, 1) := by decide +kernel
theorem dX7_covers_2 : decode cX7_covers 2 = .ok (.iload_n 1, 1) := by decide +kernel
theorem dX7_covers_3 : decode cX7_covers 3 = .ok (.bipush 7, 2) := by decide +kernel
theorem dX7_covers_5 : decode cX7_covers 5 = .ok (.invokevirtual 47, 3) := by decide +kernel
theorem dX7_covers_8 : decode cX7_covers 8 = .ok (.aload_n 0, 1) := by decide +kernel
theorem dX7_covers_9 : decode cX7_covers 9 = .ok (.iload_n 1, 1) := by decide +kernel
theorem dX7_covers_10 : decode cX7_covers 10 = .ok (.bipush 7, 2) := by decide +kernel
theorem dX7_covers_12 : decode cX7_covers 12 = .ok (.invokevirtual 47, 3) := by decide +kernel
theorem dX7_covers_15 : decode cX7_covers 15 = .ok (.aload_n 0, 1) := by decide +kernel
theorem dX7_covers_16 : decode cX7_covers 16 = .ok (.iload_n 1, 1) := by decide +kernel
theorem dX7_covers_17 : decode cX7_covers 17 = .ok (.iconst 0, 1) := by decide +kernel
theorem dX7_covers_18 : decode cX7_covers 18 = .ok (.invokevirtual 59, 3) := by decide +kernel
theorem dX7_covers_21 : decode cX7_covers 21 = .ok (.iadd, 1) := by decide +kernel
theorem dX7_covers_22 : decode cX7_covers 22 = .ok (.iconst 1, 1) := by decide +kernel
theorem dX7_covers_23 : decode cX7_covers 23 = .ok (.isub, 1) := by decide +kernel
theorem dX7_covers_24 : decode cX7_covers 24 = .ok (.invokestatic 43, 3) := by decide +kernel
theorem dX7_covers_27 : decode cX7_covers 27 = .ok (.ifCond .eq 37, 3) := by decide +kernel
theorem dX7_covers_30 : decode cX7_covers 30 = .ok (.iload_n 3, 1) := by decide +kernel
theorem dX7_covers_31 : decode cX7_covers 31 = .ok (.aload_n 0, 1) := by decide +kernel
theorem dX7_covers_32 : decode cX7_covers 32 = .ok (.iload_n 1, 1) := by decide +kernel
theorem dX7_covers_33 : decode cX7_covers 33 = .ok (.bipush 8, 2) := by decide +kernel
theorem dX7_covers_35 : decode cX7_covers 35 = .ok (.invokevirtual 47, 3) := by decide +kernel
theorem dX7_covers_38 : decode cX7_covers 38 = .ok (.aload_n 0, 1) := by decide +kernel
theorem dX7_covers_39 : decode cX7_covers 39 = .ok (.iload_n 1, 1) := by decide +kernel
theorem dX7_covers_40 : decode cX7_covers 40 = .ok (.bipush 8, 2) := by decide +kernel
theorem dX7_covers_42 : decode cX7_covers 42 = .ok (.invokevirtual 47, 3) := by decide +kernel
theorem dX7_covers_45 : decode cX7_covers 45 = .ok (.aload_n 0, 1) := by decide +kernel
theorem dX7_covers_46 : decode cX7_covers 46 = .ok (.iload_n 1, 1) := by decide +kernel
theorem dX7_covers_47 : decode cX7_covers 47 = .ok (.iconst 1, 1) := by decide +kernel
theorem dX7_covers_48 : decode cX7_covers 48 = .ok (.invokevirtual 59, 3) := by decide +kernel
theorem dX7_covers_51 : decode cX7_covers 51 = .ok (.iadd, 1) := by decide +kernel
theorem dX7_covers_52 : decode cX7_covers 52 = .ok (.iconst 1, 1) := by decide +kernel
theorem dX7_covers_53 : decode cX7_covers 53 = .ok (.isub, 1) := by decide +kernel
theorem dX7_covers_54 : decode cX7_covers 54 = .ok (.invokestatic 43, 3) := by decide +kernel
theorem dX7_covers_57 : decode cX7_covers 57 = .ok (.ifCond .eq 7, 3) := by decide +kernel
theorem dX7_covers_60 : decode cX7_covers 60 = .ok (.iconst 1, 1) := by decide +kernel
theorem dX7_covers_61 : decode cX7_covers 61 = .ok (.goto 4, 3) := by decide +kernel
theorem dX7_covers_64 : decode cX7_covers 64 = .ok (.iconst 0, 1) := by decide +kernel
theorem dX7_covers_65 : decode cX7_covers 65 = .ok (.ireturn, 1) := by decide +kernel
theorem dX7_leaves_0 : decode cX7_leaves 0 = .ok (.iconst 5, 1) := by decide +kernel
theorem dX7_leaves_1 : decode cX7_leaves 1 = .ok (.istore_n 2, 1) := by decide +kernel
theorem dX7_leaves_2 : decode cX7_leaves 2 = .ok (.iload_n 2, 1) := by decide +kernel
theorem dX7_leaves_3 : decode cX7_leaves 3 = .ok (.bipush 10, 2) := by decide +kernel
theorem dX7_leaves_5 : decode cX7_leaves 5 = .ok (.if_icmp .ge 16, 3) := by decide +kernel
theorem dX7_leaves_8 : decode cX7_leaves 8 = .ok (.aload_n 0, 1) := by decide +kernel
theorem dX7_leaves_9 : decode cX7_leaves 9 = .ok (.iload_n 1, 1) := by decide +kernel
theorem dX7_leaves_10 : decode cX7_leaves 10 = .ok (.iload_n 2, 1) := by decide +kernel
theorem dX7_leaves_11 : decode cX7_leaves 11 = .ok (.iconst 0, 1) := by decide +kernel
theorem dX7_leaves_12 : decode cX7_leaves 12 = .ok (.invokevirtual 63, 3) := by decide +kernel
theorem dX7_leaves_15 : decode cX7_leaves 15 = .ok (.iinc 2 1, 3) := by decide +kernel
theorem dX7_leaves_18 : decode cX7_leaves 18 = .ok (.goto (-16), 3) := by decide +kernel
theorem dX7_leaves_21 : decode cX7_leaves 21 = .ok (.return_, 1) := by decide +kernel
theorem dX7_inBox_0 : decode cX7_inBox 0 = .ok (.iconst 0, 1) := by decide +kernel
theorem dX7_inBox_1 : decode cX7_inBox 1 = .ok (.istore_n 1, 1) := by decide +kernel
theorem dX7_inBox_2 : decode cX7_inBox 2 = .ok (.iconst 0, 1) := by decide +kernel
theorem dX7_inBox_3 : decode cX7_inBox 3 = .ok (.istore_n 2, 1) := by decide +kernel
theorem dX7_inBox_4 : decode cX7_inBox 4 = .ok (.iload_n 2, 1) := by decide +kernel
theorem dX7_inBox_5 : decode cX7_inBox 5 = .ok (.aload_n 0, 1) := by decide +kernel
theorem dX7_inBox_6 : decode cX7_inBox 6 = .ok (.invokevirtual 39, 3) := by decide +kernel
theorem dX7_inBox_9 : decode cX7_inBox 9 = .ok (.if_icmp .ge 18, 3) := by decide +kernel
theorem dX7_inBox_12 : decode cX7_inBox 12 = .ok (.iload_n 1, 1) := by decide +kernel
theorem dX7_inBox_13 : decode cX7_inBox 13 = .ok (.aload_n 0, 1) := by decide +kernel
theorem dX7_inBox_14 : decode cX7_inBox 14 = .ok (.iload_n 2, 1) := by decide +kernel
theorem dX7_inBox_15 : decode cX7_inBox 15 = .ok (.iconst 5, 1) := by decide +kernel
theorem dX7_inBox_16 : decode cX7_inBox 16 = .ok (.invokevirtual 47, 3) := by decide +kernel
theorem dX7_inBox_19 : decode cX7_inBox 19 = .ok (.iadd, 1) := by decide +kernel
theorem dX7_inBox_20 : decode cX7_inBox 20 = .ok (.istore_n 1, 1) := by decide +kernel
theorem dX7_inBox_21 : decode cX7_inBox 21 = .ok (.iinc 2 1, 3) := by decide +kernel
theorem dX7_inBox_24 : decode cX7_inBox 24 = .ok (.goto (-20), 3) := by decide +kernel
theorem dX7_inBox_27 : decode cX7_inBox 27 = .ok (.iload_n 1, 1) := by decide +kernel
theorem dX7_inBox_28 : decode cX7_inBox 28 = .ok (.ireturn, 1) := by decide +kernel
theorem dX7_empties_0 : decode cX7_empties 0 = .ok (.iconst 0, 1) := by decide +kernel
theorem dX7_empties_1 : decode cX7_empties 1 = .ok (.istore_n 1, 1) := by decide +kernel
theorem dX7_empties_2 : decode cX7_empties 2 = .ok (.iload_n 1, 1) := by decide +kernel
theorem dX7_empties_3 : decode cX7_empties 3 = .ok (.aload_n 0, 1) := by decide +kernel
theorem dX7_empties_4 : decode cX7_empties 4 = .ok (.invokevirtual 39, 3) := by decide +kernel
theorem dX7_empties_7 : decode cX7_empties 7 = .ok (.if_icmp .ge 14, 3) := by decide +kernel
theorem dX7_empties_10 : decode cX7_empties 10 = .ok (.aload_n 0, 1) := by decide +kernel
theorem dX7_empties_11 : decode cX7_empties 11 = .ok (.iload_n 1, 1) := by decide +kernel
theorem dX7_empties_12 : decode cX7_empties 12 = .ok (.invokevirtual 67, 3) := by decide +kernel
theorem dX7_empties_15 : decode cX7_empties 15 = .ok (.iinc 1 1, 3) := by decide +kernel
theorem dX7_empties_18 : decode cX7_empties 18 = .ok (.goto (-16), 3) := by decide +kernel
theorem dX7_empties_21 : decode cX7_empties 21 = .ok (.return_, 1) := by decide +kernel
theorem dX7_laysTops_0 : decode cX7_laysTops 0 = .ok (.iconst 0, 1) := by decide +kernel
theorem dX7_laysTops_1 : decode cX7_laysTops 1 = .ok (.istore_n 1, 1) := by decide +kernel
theorem dX7_laysTops_2 : decode cX7_laysTops 2 = .ok (.iload_n 1, 1) := by decide +kernel
theorem dX7_laysTops_3 : decode cX7_laysTops 3 = .ok (.bipush 100, 2) := by decide +kernel
theorem dX7_laysTops_5 : decode cX7_laysTops 5 = .ok (.if_icmp .ge 16, 3) := by decide +kernel
theorem dX7_laysTops_8 : decode cX7_laysTops 8 = .ok (.aload_n 0, 1) := by decide +kernel
theorem dX7_laysTops_9 : decode cX7_laysTops 9 = .ok (.getfield 13, 3) := by decide +kernel
theorem dX7_laysTops_12 : decode cX7_laysTops 12 = .ok (.iload_n 1, 1) := by decide +kernel
theorem dX7_laysTops_13 : decode cX7_laysTops 13 = .ok (.iconst 0, 1) := by decide +kernel
theorem dX7_laysTops_14 : decode cX7_laysTops 14 = .ok (.iastore, 1) := by decide +kernel
theorem dX7_laysTops_15 : decode cX7_laysTops 15 = .ok (.iinc 1 1, 3) := by decide +kernel
theorem dX7_laysTops_18 : decode cX7_laysTops 18 = .ok (.goto (-16), 3) := by decide +kernel
theorem dX7_laysTops_21 : decode cX7_laysTops 21 = .ok (.iconst 0, 1) := by decide +kernel
theorem dX7_laysTops_22 : decode cX7_laysTops 22 = .ok (.istore_n 1, 1) := by decide +kernel
theorem dX7_laysTops_23 : decode cX7_laysTops 23 = .ok (.iload_n 1, 1) := by decide +kernel
theorem dX7_laysTops_24 : decode cX7_laysTops 24 = .ok (.aload_n 0, 1) := by decide +kernel
theorem dX7_laysTops_25 : decode cX7_laysTops 25 = .ok (.invokevirtual 39, 3) := by decide +kernel
theorem dX7_laysTops_28 : decode cX7_laysTops 28 = .ok (.if_icmp .ge 81, 3) := by decide +kernel
theorem dX7_laysTops_31 : decode cX7_laysTops 31 = .ok (.iconst 0, 1) := by decide +kernel
theorem dX7_laysTops_32 : decode cX7_laysTops 32 = .ok (.istore_n 2, 1) := by decide +kernel
theorem dX7_laysTops_33 : decode cX7_laysTops 33 = .ok (.iload_n 2, 1) := by decide +kernel
theorem dX7_laysTops_34 : decode cX7_laysTops 34 = .ok (.bipush 100, 2) := by decide +kernel
theorem dX7_laysTops_36 : decode cX7_laysTops 36 = .ok (.if_icmp .ge 67, 3) := by decide +kernel
theorem dX7_laysTops_39 : decode cX7_laysTops 39 = .ok (.aload_n 0, 1) := by decide +kernel
theorem dX7_laysTops_40 : decode cX7_laysTops 40 = .ok (.iload_n 1, 1) := by decide +kernel
theorem dX7_laysTops_41 : decode cX7_laysTops 41 = .ok (.invokevirtual 71, 3) := by decide +kernel
theorem dX7_laysTops_44 : decode cX7_laysTops 44 = .ok (.ifCond .eq 59, 3) := by decide +kernel
theorem dX7_laysTops_47 : decode cX7_laysTops 47 = .ok (.aload_n 0, 1) := by decide +kernel
theorem dX7_laysTops_48 : decode cX7_laysTops 48 = .ok (.getfield 13, 3) := by decide +kernel
theorem dX7_laysTops_51 : decode cX7_laysTops 51 = .ok (.iload_n 2, 1) := by decide +kernel
theorem dX7_laysTops_52 : decode cX7_laysTops 52 = .ok (.aload_n 0, 1) := by decide +kernel
theorem dX7_laysTops_53 : decode cX7_laysTops 53 = .ok (.iload_n 1, 1) := by decide +kernel
theorem dX7_laysTops_54 : decode cX7_laysTops 54 = .ok (.iload_n 2, 1) := by decide +kernel
theorem dX7_laysTops_55 : decode cX7_laysTops 55 = .ok (.bipush 10, 2) := by decide +kernel
theorem dX7_laysTops_57 : decode cX7_laysTops 57 = .ok (.idiv, 1) := by decide +kernel
theorem dX7_laysTops_58 : decode cX7_laysTops 58 = .ok (.iload_n 2, 1) := by decide +kernel
theorem dX7_laysTops_59 : decode cX7_laysTops 59 = .ok (.bipush 10, 2) := by decide +kernel
theorem dX7_laysTops_61 : decode cX7_laysTops 61 = .ok (.irem, 1) := by decide +kernel
theorem dX7_laysTops_62 : decode cX7_laysTops 62 = .ok (.invokevirtual 75, 3) := by decide +kernel
theorem dX7_laysTops_65 : decode cX7_laysTops 65 = .ok (.ifCond .eq 25, 3) := by decide +kernel
theorem dX7_laysTops_68 : decode cX7_laysTops 68 = .ok (.aload_n 0, 1) := by decide +kernel
theorem dX7_laysTops_69 : decode cX7_laysTops 69 = .ok (.iload_n 1, 1) := by decide +kernel
theorem dX7_laysTops_70 : decode cX7_laysTops 70 = .ok (.invokevirtual 78, 3) := by decide +kernel
theorem dX7_laysTops_73 : decode cX7_laysTops 73 = .ok (.aload_n 0, 1) := by decide +kernel
theorem dX7_laysTops_74 : decode cX7_laysTops 74 = .ok (.getfield 13, 3) := by decide +kernel
theorem dX7_laysTops_77 : decode cX7_laysTops 77 = .ok (.iload_n 2, 1) := by decide +kernel
theorem dX7_laysTops_78 : decode cX7_laysTops 78 = .ok (.iaload, 1) := by decide +kernel
theorem dX7_laysTops_79 : decode cX7_laysTops 79 = .ok (.if_icmp .le 11, 3) := by decide +kernel
theorem dX7_laysTops_82 : decode cX7_laysTops 82 = .ok (.aload_n 0, 1) := by decide +kernel
theorem dX7_laysTops_83 : decode cX7_laysTops 83 = .ok (.iload_n 1, 1) := by decide +kernel
theorem dX7_laysTops_84 : decode cX7_laysTops 84 = .ok (.invokevirtual 78, 3) := by decide +kernel
theorem dX7_laysTops_87 : decode cX7_laysTops 87 = .ok (.goto 9, 3) := by decide +kernel
theorem dX7_laysTops_90 : decode cX7_laysTops 90 = .ok (.aload_n 0, 1) := by decide +kernel
theorem dX7_laysTops_91 : decode cX7_laysTops 91 = .ok (.getfield 13, 3) := by decide +kernel
theorem dX7_laysTops_94 : decode cX7_laysTops 94 = .ok (.iload_n 2, 1) := by decide +kernel
theorem dX7_laysTops_95 : decode cX7_laysTops 95 = .ok (.iaload, 1) := by decide +kernel
theorem dX7_laysTops_96 : decode cX7_laysTops 96 = .ok (.iastore, 1) := by decide +kernel
theorem dX7_laysTops_97 : decode cX7_laysTops 97 = .ok (.iinc 2 1, 3) := by decide +kernel
theorem dX7_laysTops_100 : decode cX7_laysTops 100 = .ok (.goto (-67), 3) := by decide +kernel
theorem dX7_laysTops_103 : decode cX7_laysTops 103 = .ok (.iinc 1 1, 3) := by decide +kernel
theorem dX7_laysTops_106 : decode cX7_laysTops 106 = .ok (.goto (-83), 3) := by decide +kernel
theorem dX7_laysTops_109 : decode cX7_laysTops 109 = .ok (.return_, 1) := by decide +kernel
theorem dX7_isInside_0 : decode cX7_isInside 0 = .ok (.iload_n 2, 1) := by decide +kernel
theorem dX7_isInside_1 : decode cX7_isInside 1 = .ok (.ifCond .lt 49, 3) := by decide +kernel
theorem dX7_isInside_4 : decode cX7_isInside 4 = .ok (.iload_n 3, 1) := by decide +kernel
theorem dX7_isInside_5 : decode cX7_isInside 5 = .ok (.ifCond .lt 45, 3) := by decide +kernel
theorem dX7_isInside_8 : decode cX7_isInside 8 = .ok (.iload_n 2, 1) := by decide +kernel
theorem dX7_isInside_9 : decode cX7_isInside 9 = .ok (.aload_n 0, 1) := by decide +kernel
theorem dX7_isInside_10 : decode cX7_isInside 10 = .ok (.getfield 7, 3) := by decide +kernel
theorem dX7_isInside_13 : decode cX7_isInside 13 = .ok (.iconst 0, 1) := by decide +kernel
theorem dX7_isInside_14 : decode cX7_isInside 14 = .ok (.iaload, 1) := by decide +kernel
theorem dX7_isInside_15 : decode cX7_isInside 15 = .ok (.aload_n 0, 1) := by decide +kernel
theorem dX7_isInside_16 : decode cX7_isInside 16 = .ok (.iload_n 1, 1) := by decide +kernel
theorem dX7_isInside_17 : decode cX7_isInside 17 = .ok (.iconst 0, 1) := by decide +kernel
theorem dX7_isInside_18 : decode cX7_isInside 18 = .ok (.iload 4, 2) := by decide +kernel
theorem dX7_isInside_20 : decode cX7_isInside 20 = .ok (.invokevirtual 55, 3) := by decide +kernel
theorem dX7_isInside_23 : decode cX7_isInside 23 = .ok (.isub, 1) := by decide +kernel
theorem dX7_isInside_24 : decode cX7_isInside 24 = .ok (.if_icmp .gt 26, 3) := by decide +kernel
theorem dX7_isInside_27 : decode cX7_isInside 27 = .ok (.iload_n 3, 1) := by decide +kernel
theorem dX7_isInside_28 : decode cX7_isInside 28 = .ok (.aload_n 0, 1) := by decide +kernel
theorem dX7_isInside_29 : decode cX7_isInside 29 = .ok (.getfield 7, 3) := by decide +kernel
theorem dX7_isInside_32 : decode cX7_isInside 32 = .ok (.iconst 1, 1) := by decide +kernel
theorem dX7_isInside_33 : decode cX7_isInside 33 = .ok (.iaload, 1) := by decide +kernel
theorem dX7_isInside_34 : decode cX7_isInside 34 = .ok (.aload_n 0, 1) := by decide +kernel
theorem dX7_isInside_35 : decode cX7_isInside 35 = .ok (.iload_n 1, 1) := by decide +kernel
theorem dX7_isInside_36 : decode cX7_isInside 36 = .ok (.iconst 1, 1) := by decide +kernel
theorem dX7_isInside_37 : decode cX7_isInside 37 = .ok (.iload 4, 2) := by decide +kernel
theorem dX7_isInside_39 : decode cX7_isInside 39 = .ok (.invokevirtual 55, 3) := by decide +kernel
theorem dX7_isInside_42 : decode cX7_isInside 42 = .ok (.isub, 1) := by decide +kernel
theorem dX7_isInside_43 : decode cX7_isInside 43 = .ok (.if_icmp .gt 7, 3) := by decide +kernel
theorem dX7_isInside_46 : decode cX7_isInside 46 = .ok (.iconst 1, 1) := by decide +kernel
theorem dX7_isInside_47 : decode cX7_isInside 47 = .ok (.goto 4, 3) := by decide +kernel
theorem dX7_isInside_50 : decode cX7_isInside 50 = .ok (.iconst 0, 1) := by decide +kernel
theorem dX7_isInside_51 : decode cX7_isInside 51 = .ok (.ireturn, 1) := by decide +kernel
theorem dX7_looksAt_0 : decode cX7_looksAt 0 = .ok (.aload_n 0, 1) := by decide +kernel
theorem dX7_looksAt_1 : decode cX7_looksAt 1 = .ok (.iconst 0, 1) := by decide +kernel
theorem dX7_looksAt_2 : decode cX7_looksAt 2 = .ok (.putfield 81, 3) := by decide +kernel
theorem dX7_looksAt_5 : decode cX7_looksAt 5 = .ok (.aload_n 0, 1) := by decide +kernel
theorem dX7_looksAt_6 : decode cX7_looksAt 6 = .ok (.iconst 0, 1) := by decide +kernel
theorem dX7_looksAt_7 : decode cX7_looksAt 7 = .ok (.putfield 84, 3) := by decide +kernel
theorem dX7_looksAt_10 : decode cX7_looksAt 10 = .ok (.iload_n 2, 1) := by decide +kernel
theorem dX7_looksAt_11 : decode cX7_looksAt 11 = .ok (.istore 5, 2) := by decide +kernel
theorem dX7_looksAt_13 : decode cX7_looksAt 13 = .ok (.iload 5, 2) := by decide +kernel
theorem dX7_looksAt_15 : decode cX7_looksAt 15 = .ok (.iload_n 2, 1) := by decide +kernel
theorem dX7_looksAt_16 : decode cX7_looksAt 16 = .ok (.aload_n 0, 1) := by decide +kernel
theorem dX7_looksAt_17 : decode cX7_looksAt 17 = .ok (.iload_n 1, 1) := by decide +kernel
theorem dX7_looksAt_18 : decode cX7_looksAt 18 = .ok (.iconst 0, 1) := by decide +kernel
theorem dX7_looksAt_19 : decode cX7_looksAt 19 = .ok (.iload 4, 2) := by decide +kernel
theorem dX7_looksAt_21 : decode cX7_looksAt 21 = .ok (.invokevirtual 55, 3) := by decide +kernel
theorem dX7_looksAt_24 : decode cX7_looksAt 24 = .ok (.iadd, 1) := by decide +kernel
theorem dX7_looksAt_25 : decode cX7_looksAt 25 = .ok (.if_icmp .ge 114, 3) := by decide +kernel
theorem dX7_looksAt_28 : decode cX7_looksAt 28 = .ok (.iload_n 3, 1) := by decide +kernel
theorem dX7_looksAt_29 : decode cX7_looksAt 29 = .ok (.istore 6, 2) := by decide +kernel
theorem dX7_looksAt_31 : decode cX7_looksAt 31 = .ok (.iload 6, 2) := by decide +kernel
theorem dX7_looksAt_33 : decode cX7_looksAt 33 = .ok (.iload_n 3, 1) := by decide +kernel
theorem dX7_looksAt_34 : decode cX7_looksAt 34 = .ok (.aload_n 0, 1) := by decide +kernel
theorem dX7_looksAt_35 : decode cX7_looksAt 35 = .ok (.iload_n 1, 1) := by decide +kernel
theorem dX7_looksAt_36 : decode cX7_looksAt 36 = .ok (.iconst 1, 1) := by decide +kernel
theorem dX7_looksAt_37 : decode cX7_looksAt 37 = .ok (.iload 4, 2) := by decide +kernel
theorem dX7_looksAt_39 : decode cX7_looksAt 39 = .ok (.invokevirtual 55, 3) := by decide +kernel
theorem dX7_looksAt_42 : decode cX7_looksAt 42 = .ok (.iadd, 1) := by decide +kernel
theorem dX7_looksAt_43 : decode cX7_looksAt 43 = .ok (.if_icmp .ge 90, 3) := by decide +kernel
theorem dX7_looksAt_46 : decode cX7_looksAt 46 = .ok (.aload_n 0, 1) := by decide +kernel
theorem dX7_looksAt_47 : decode cX7_looksAt 47 = .ok (.getfield 13, 3) := by decide +kernel
theorem dX7_looksAt_50 : decode cX7_looksAt 50 = .ok (.bipush 10, 2) := by decide +kernel
theorem dX7_looksAt_52 : decode cX7_looksAt 52 = .ok (.iload 5, 2) := by decide +kernel
theorem dX7_looksAt_54 : decode cX7_looksAt 54 = .ok (.imul, 1) := by decide +kernel
theorem dX7_looksAt_55 : decode cX7_looksAt 55 = .ok (.iload 6, 2) := by decide +kernel
theorem dX7_looksAt_57 : decode cX7_looksAt 57 = .ok (.iadd, 1) := by decide +kernel
theorem dX7_looksAt_58 : decode cX7_looksAt 58 = .ok (.iaload, 1) := by decide +kernel
theorem dX7_looksAt_59 : decode cX7_looksAt 59 = .ok (.istore 7, 2) := by decide +kernel
theorem dX7_looksAt_61 : decode cX7_looksAt 61 = .ok (.aload_n 0, 1) := by decide +kernel
theorem dX7_looksAt_62 : decode cX7_looksAt 62 = .ok (.iload 7, 2) := by decide +kernel
theorem dX7_looksAt_64 : decode cX7_looksAt 64 = .ok (.aload_n 0, 1) := by decide +kernel
theorem dX7_looksAt_65 : decode cX7_looksAt 65 = .ok (.getfield 81, 3) := by decide +kernel
theorem dX7_looksAt_68 : decode cX7_looksAt 68 = .ok (.if_icmp .le 7, 3) := by decide +kernel
theorem dX7_looksAt_71 : decode cX7_looksAt 71 = .ok (.iconst 0, 1) := by decide +kernel
theorem dX7_looksAt_72 : decode cX7_looksAt 72 = .ok (.goto 7, 3) := by decide +kernel
theorem dX7_looksAt_75 : decode cX7_looksAt 75 = .ok (.aload_n 0, 1) := by decide +kernel
theorem dX7_looksAt_76 : decode cX7_looksAt 76 = .ok (.getfield 84, 3) := by decide +kernel
theorem dX7_looksAt_79 : decode cX7_looksAt 79 = .ok (.putfield 84, 3) := by decide +kernel
theorem dX7_looksAt_82 : decode cX7_looksAt 82 = .ok (.aload_n 0, 1) := by decide +kernel
theorem dX7_looksAt_83 : decode cX7_looksAt 83 = .ok (.iload 7, 2) := by decide +kernel
theorem dX7_looksAt_85 : decode cX7_looksAt 85 = .ok (.aload_n 0, 1) := by decide +kernel
theorem dX7_looksAt_86 : decode cX7_looksAt 86 = .ok (.getfield 81, 3) := by decide +kernel
theorem dX7_looksAt_89 : decode cX7_looksAt 89 = .ok (.if_icmp .le 8, 3) := by decide +kernel
theorem dX7_looksAt_92 : decode cX7_looksAt 92 = .ok (.iload 7, 2) := by decide +kernel
theorem dX7_looksAt_94 : decode cX7_looksAt 94 = .ok (.goto 7, 3) := by decide +kernel
theorem dX7_looksAt_97 : decode cX7_looksAt 97 = .ok (.aload_n 0, 1) := by decide +kernel
theorem dX7_looksAt_98 : decode cX7_looksAt 98 = .ok (.getfield 81, 3) := by decide +kernel
theorem dX7_looksAt_101 : decode cX7_looksAt 101 = .ok (.putfield 81, 3) := by decide +kernel
theorem dX7_looksAt_104 : decode cX7_looksAt 104 = .ok (.aload_n 0, 1) := by decide +kernel
theorem dX7_looksAt_105 : decode cX7_looksAt 105 = .ok (.dup, 1) := by decide +kernel
theorem dX7_looksAt_106 : decode cX7_looksAt 106 = .ok (.getfield 84, 3) := by decide +kernel
theorem dX7_looksAt_109 : decode cX7_looksAt 109 = .ok (.iload 7, 2) := by decide +kernel
theorem dX7_looksAt_111 : decode cX7_looksAt 111 = .ok (.aload_n 0, 1) := by decide +kernel
theorem dX7_looksAt_112 : decode cX7_looksAt 112 = .ok (.getfield 81, 3) := by decide +kernel
theorem dX7_looksAt_115 : decode cX7_looksAt 115 = .ok (.if_icmp .ne 7, 3) := by decide +kernel
theorem dX7_looksAt_118 : decode cX7_looksAt 118 = .ok (.iconst 1, 1) := by decide +kernel
theorem dX7_looksAt_119 : decode cX7_looksAt 119 = .ok (.goto 4, 3) := by decide +kernel
theorem dX7_looksAt_122 : decode cX7_looksAt 122 = .ok (.iconst 0, 1) := by decide +kernel
theorem dX7_looksAt_123 : decode cX7_looksAt 123 = .ok (.iadd, 1) := by decide +kernel
theorem dX7_looksAt_124 : decode cX7_looksAt 124 = .ok (.putfield 84, 3) := by decide +kernel
theorem dX7_looksAt_127 : decode cX7_looksAt 127 = .ok (.iinc 6 1, 3) := by decide +kernel
theorem dX7_looksAt_130 : decode cX7_looksAt 130 = .ok (.goto (-99), 3) := by decide +kernel
theorem dX7_looksAt_133 : decode cX7_looksAt 133 = .ok (.iinc 5 1, 3) := by decide +kernel
theorem dX7_looksAt_136 : decode cX7_looksAt 136 = .ok (.goto (-123), 3) := by decide +kernel
theorem dX7_looksAt_139 : decode cX7_looksAt 139 = .ok (.return_, 1) := by decide +kernel
theorem dX7_can_0 : decode cX7_can 0 = .ok (.aload_n 0, 1) := by decide +kernel
theorem dX7_can_1 : decode cX7_can 1 = .ok (.iload_n 1, 1) := by decide +kernel
theorem dX7_can_2 : decode cX7_can 2 = .ok (.iload_n 2, 1) := by decide +kernel
theorem dX7_can_3 : decode cX7_can 3 = .ok (.iload_n 3, 1) := by decide +kernel
theorem dX7_can_4 : decode cX7_can 4 = .ok (.iload 4, 2) := by decide +kernel
theorem dX7_can_6 : decode cX7_can 6 = .ok (.invokevirtual 87, 3) := by decide +kernel
theorem dX7_can_9 : decode cX7_can 9 = .ok (.aload_n 0, 1) := by decide +kernel
theorem dX7_can_10 : decode cX7_can 10 = .ok (.getfield 81, 3) := by decide +kernel
theorem dX7_can_13 : decode cX7_can 13 = .ok (.aload_n 0, 1) := by decide +kernel
theorem dX7_can_14 : decode cX7_can 14 = .ok (.iload_n 1, 1) := by decide +kernel
theorem dX7_can_15 : decode cX7_can 15 = .ok (.invokevirtual 51, 3) := by decide +kernel
theorem dX7_can_18 : decode cX7_can 18 = .ok (.iadd, 1) := by decide +kernel
theorem dX7_can_19 : decode cX7_can 19 = .ok (.aload_n 0, 1) := by decide +kernel
theorem dX7_can_20 : decode cX7_can 20 = .ok (.getfield 7, 3) := by decide +kernel
theorem dX7_can_23 : decode cX7_can 23 = .ok (.iconst 2, 1) := by decide +kernel
theorem dX7_can_24 : decode cX7_can 24 = .ok (.iaload, 1) := by decide +kernel
theorem dX7_can_25 : decode cX7_can 25 = .ok (.if_icmp .gt 37, 3) := by decide +kernel
theorem dX7_can_28 : decode cX7_can 28 = .ok (.bipush 100, 2) := by decide +kernel
theorem dX7_can_30 : decode cX7_can 30 = .ok (.aload_n 0, 1) := by decide +kernel
theorem dX7_can_31 : decode cX7_can 31 = .ok (.getfield 84, 3) := by decide +kernel
theorem dX7_can_34 : decode cX7_can 34 = .ok (.imul, 1) := by decide +kernel
theorem dX7_can_35 : decode cX7_can 35 = .ok (.aload_n 0, 1) := by decide +kernel
theorem dX7_can_36 : decode cX7_can 36 = .ok (.getfield 7, 3) := by decide +kernel
theorem dX7_can_39 : decode cX7_can 39 = .ok (.iconst 3, 1) := by decide +kernel
theorem dX7_can_40 : decode cX7_can 40 = .ok (.iaload, 1) := by decide +kernel
theorem dX7_can_41 : decode cX7_can 41 = .ok (.aload_n 0, 1) := by decide +kernel
theorem dX7_can_42 : decode cX7_can 42 = .ok (.iload_n 1, 1) := by decide +kernel
theorem dX7_can_43 : decode cX7_can 43 = .ok (.iconst 0, 1) := by decide +kernel
theorem dX7_can_44 : decode cX7_can 44 = .ok (.invokevirtual 47, 3) := by decide +kernel
theorem dX7_can_47 : decode cX7_can 47 = .ok (.imul, 1) := by decide +kernel
theorem dX7_can_48 : decode cX7_can 48 = .ok (.aload_n 0, 1) := by decide +kernel
theorem dX7_can_49 : decode cX7_can 49 = .ok (.iload_n 1, 1) := by decide +kernel
theorem dX7_can_50 : decode cX7_can 50 = .ok (.iconst 1, 1) := by decide +kernel
theorem dX7_can_51 : decode cX7_can 51 = .ok (.invokevirtual 47, 3) := by decide +kernel
theorem dX7_can_54 : decode cX7_can 54 = .ok (.imul, 1) := by decide +kernel
theorem dX7_can_55 : decode cX7_can 55 = .ok (.if_icmp .lt 7, 3) := by decide +kernel
theorem dX7_can_58 : decode cX7_can 58 = .ok (.iconst 1, 1) := by decide +kernel
theorem dX7_can_59 : decode cX7_can 59 = .ok (.goto 4, 3) := by decide +kernel
theorem dX7_can_62 : decode cX7_can 62 = .ok (.iconst 0, 1) := by decide +kernel
theorem dX7_can_63 : decode cX7_can 63 = .ok (.ireturn, 1) := by decide +kernel
theorem dX7_comes_0 : decode cX7_comes 0 = .ok (.aload_n 0, 1) := by decide +kernel
theorem dX7_comes_1 : decode cX7_comes 1 = .ok (.invokevirtual 91, 3) := by decide +kernel
theorem dX7_comes_4 : decode cX7_comes 4 = .ok (.aload_n 0, 1) := by decide +kernel
theorem dX7_comes_5 : decode cX7_comes 5 = .ok (.iload_n 1, 1) := by decide +kernel
theorem dX7_comes_6 : decode cX7_comes 6 = .ok (.iload_n 2, 1) := by decide +kernel
theorem dX7_comes_7 : decode cX7_comes 7 = .ok (.iload_n 3, 1) := by decide +kernel
theorem dX7_comes_8 : decode cX7_comes 8 = .ok (.iload 4, 2) := by decide +kernel
theorem dX7_comes_10 : decode cX7_comes 10 = .ok (.iconst 1, 1) := by decide +kernel
theorem dX7_comes_11 : decode cX7_comes 11 = .ok (.if_icmp .ne 7, 3) := by decide +kernel
theorem dX7_comes_14 : decode cX7_comes 14 = .ok (.iconst 1, 1) := by decide +kernel
theorem dX7_comes_15 : decode cX7_comes 15 = .ok (.goto 4, 3) := by decide +kernel
theorem dX7_comes_18 : decode cX7_comes 18 = .ok (.iconst 0, 1) := by decide +kernel
theorem dX7_comes_19 : decode cX7_comes 19 = .ok (.invokevirtual 87, 3) := by decide +kernel
theorem dX7_comes_22 : decode cX7_comes 22 = .ok (.aload_n 0, 1) := by decide +kernel
theorem dX7_comes_23 : decode cX7_comes 23 = .ok (.iload_n 1, 1) := by decide +kernel
theorem dX7_comes_24 : decode cX7_comes 24 = .ok (.iconst 5, 1) := by decide +kernel
theorem dX7_comes_25 : decode cX7_comes 25 = .ok (.iconst 1, 1) := by decide +kernel
theorem dX7_comes_26 : decode cX7_comes 26 = .ok (.invokevirtual 63, 3) := by decide +kernel
theorem dX7_comes_29 : decode cX7_comes 29 = .ok (.aload_n 0, 1) := by decide +kernel
theorem dX7_comes_30 : decode cX7_comes 30 = .ok (.iload_n 1, 1) := by decide +kernel
theorem dX7_comes_31 : decode cX7_comes 31 = .ok (.bipush 6, 2) := by decide +kernel
theorem dX7_comes_33 : decode cX7_comes 33 = .ok (.iload 4, 2) := by decide +kernel
theorem dX7_comes_35 : decode cX7_comes 35 = .ok (.invokevirtual 63, 3) := by decide +kernel
theorem dX7_comes_38 : decode cX7_comes 38 = .ok (.aload_n 0, 1) := by decide +kernel
theorem dX7_comes_39 : decode cX7_comes 39 = .ok (.iload_n 1, 1) := by decide +kernel
theorem dX7_comes_40 : decode cX7_comes 40 = .ok (.bipush 7, 2) := by decide +kernel
theorem dX7_comes_42 : decode cX7_comes 42 = .ok (.iload_n 2, 1) := by decide +kernel
theorem dX7_comes_43 : decode cX7_comes 43 = .ok (.invokevirtual 63, 3) := by decide +kernel
theorem dX7_comes_46 : decode cX7_comes 46 = .ok (.aload_n 0, 1) := by decide +kernel
theorem dX7_comes_47 : decode cX7_comes 47 = .ok (.iload_n 1, 1) := by decide +kernel
theorem dX7_comes_48 : decode cX7_comes 48 = .ok (.bipush 8, 2) := by decide +kernel
theorem dX7_comes_50 : decode cX7_comes 50 = .ok (.iload_n 3, 1) := by decide +kernel
theorem dX7_comes_51 : decode cX7_comes 51 = .ok (.invokevirtual 63, 3) := by decide +kernel
theorem dX7_comes_54 : decode cX7_comes 54 = .ok (.aload_n 0, 1) := by decide +kernel
theorem dX7_comes_55 : decode cX7_comes 55 = .ok (.iload_n 1, 1) := by decide +kernel
theorem dX7_comes_56 : decode cX7_comes 56 = .ok (.bipush 9, 2) := by decide +kernel
theorem dX7_comes_58 : decode cX7_comes 58 = .ok (.aload_n 0, 1) := by decide +kernel
theorem dX7_comes_59 : decode cX7_comes 59 = .ok (.getfield 81, 3) := by decide +kernel
theorem dX7_comes_62 : decode cX7_comes 62 = .ok (.invokevirtual 63, 3) := by decide +kernel
theorem dX7_comes_65 : decode cX7_comes 65 = .ok (.return_, 1) := by decide +kernel
theorem dX7_letDown_0 : decode cX7_letDown 0 = .ok (.aload_n 0, 1) := by decide +kernel
theorem dX7_letDown_1 : decode cX7_letDown 1 = .ok (.iload_n 1, 1) := by decide +kernel
theorem dX7_letDown_2 : decode cX7_letDown 2 = .ok (.invokevirtual 94, 3) := by decide +kernel
theorem dX7_letDown_5 : decode cX7_letDown 5 = .ok (.ifCond .eq 15, 3) := by decide +kernel
theorem dX7_letDown_8 : decode cX7_letDown 8 = .ok (.aload_n 0, 1) := by decide +kernel
theorem dX7_letDown_9 : decode cX7_letDown 9 = .ok (.iload_n 1, 1) := by decide +kernel
theorem dX7_letDown_10 : decode cX7_letDown 10 = .ok (.iload_n 2, 1) := by decide +kernel
theorem dX7_letDown_11 : decode cX7_letDown 11 = .ok (.iload_n 3, 1) := by decide +kernel
theorem dX7_letDown_12 : decode cX7_letDown 12 = .ok (.iload 4, 2) := by decide +kernel
theorem dX7_letDown_14 : decode cX7_letDown 14 = .ok (.invokevirtual 97, 3) := by decide +kernel
theorem dX7_letDown_17 : decode cX7_letDown 17 = .ok (.ifCond .ne 5, 3) := by decide +kernel
theorem dX7_letDown_20 : decode cX7_letDown 20 = .ok (.iconst (-1), 1) := by decide +kernel
theorem dX7_letDown_21 : decode cX7_letDown 21 = .ok (.ireturn, 1) := by decide +kernel
theorem dX7_letDown_22 : decode cX7_letDown 22 = .ok (.aload_n 0, 1) := by decide +kernel
theorem dX7_letDown_23 : decode cX7_letDown 23 = .ok (.iload_n 1, 1) := by decide +kernel
theorem dX7_letDown_24 : decode cX7_letDown 24 = .ok (.invokevirtual 71, 3) := by decide +kernel
theorem dX7_letDown_27 : decode cX7_letDown 27 = .ok (.ifCond .eq 6, 3) := by decide +kernel
theorem dX7_letDown_30 : decode cX7_letDown 30 = .ok (.bipush (-2), 2) := by decide +kernel
theorem dX7_letDown_32 : decode cX7_letDown 32 = .ok (.ireturn, 1) := by decide +kernel
theorem dX7_letDown_33 : decode cX7_letDown 33 = .ok (.aload_n 0, 1) := by decide +kernel
theorem dX7_letDown_34 : decode cX7_letDown 34 = .ok (.invokevirtual 91, 3) := by decide +kernel
theorem dX7_letDown_37 : decode cX7_letDown 37 = .ok (.aload_n 0, 1) := by decide +kernel
theorem dX7_letDown_38 : decode cX7_letDown 38 = .ok (.iload_n 1, 1) := by decide +kernel
theorem dX7_letDown_39 : decode cX7_letDown 39 = .ok (.iload_n 2, 1) := by decide +kernel
theorem dX7_letDown_40 : decode cX7_letDown 40 = .ok (.iload_n 3, 1) := by decide +kernel
theorem dX7_letDown_41 : decode cX7_letDown 41 = .ok (.iload 4, 2) := by decide +kernel
theorem dX7_letDown_43 : decode cX7_letDown 43 = .ok (.invokevirtual 101, 3) := by decide +kernel
theorem dX7_letDown_46 : decode cX7_letDown 46 = .ok (.ifCond .ne 6, 3) := by decide +kernel
theorem dX7_letDown_49 : decode cX7_letDown 49 = .ok (.bipush (-3), 2) := by decide +kernel
theorem dX7_letDown_51 : decode cX7_letDown 51 = .ok (.ireturn, 1) := by decide +kernel
theorem dX7_letDown_52 : decode cX7_letDown 52 = .ok (.aload_n 0, 1) := by decide +kernel
theorem dX7_letDown_53 : decode cX7_letDown 53 = .ok (.invokevirtual 104, 3) := by decide +kernel
theorem dX7_letDown_56 : decode cX7_letDown 56 = .ok (.aload_n 0, 1) := by decide +kernel
theorem dX7_letDown_57 : decode cX7_letDown 57 = .ok (.iload_n 1, 1) := by decide +kernel
theorem dX7_letDown_58 : decode cX7_letDown 58 = .ok (.iload_n 2, 1) := by decide +kernel
theorem dX7_letDown_59 : decode cX7_letDown 59 = .ok (.iload_n 3, 1) := by decide +kernel
theorem dX7_letDown_60 : decode cX7_letDown 60 = .ok (.iload 4, 2) := by decide +kernel
theorem dX7_letDown_62 : decode cX7_letDown 62 = .ok (.ifCond .eq 7, 3) := by decide +kernel
theorem dX7_letDown_65 : decode cX7_letDown 65 = .ok (.iconst 1, 1) := by decide +kernel
theorem dX7_letDown_66 : decode cX7_letDown 66 = .ok (.goto 4, 3) := by decide +kernel
theorem dX7_letDown_69 : decode cX7_letDown 69 = .ok (.iconst 0, 1) := by decide +kernel
theorem dX7_letDown_70 : decode cX7_letDown 70 = .ok (.invokevirtual 107, 3) := by decide +kernel
theorem dX7_letDown_73 : decode cX7_letDown 73 = .ok (.aload_n 0, 1) := by decide +kernel
theorem dX7_letDown_74 : decode cX7_letDown 74 = .ok (.iload_n 1, 1) := by decide +kernel
theorem dX7_letDown_75 : decode cX7_letDown 75 = .ok (.bipush 9, 2) := by decide +kernel
theorem dX7_letDown_77 : decode cX7_letDown 77 = .ok (.invokevirtual 47, 3) := by decide +kernel
theorem dX7_letDown_80 : decode cX7_letDown 80 = .ok (.ireturn, 1) := by decide +kernel
theorem dX7_meet_0 : decode cX7_meet 0 = .ok (.aload_n 0, 1) := by decide +kernel
theorem dX7_meet_1 : decode cX7_meet 1 = .ok (.iload_n 1, 1) := by decide +kernel
theorem dX7_meet_2 : decode cX7_meet 2 = .ok (.bipush 7, 2) := by decide +kernel
theorem dX7_meet_4 : decode cX7_meet 4 = .ok (.invokevirtual 47, 3) := by decide +kernel
theorem dX7_meet_7 : decode cX7_meet 7 = .ok (.aload_n 0, 1) := by decide +kernel
theorem dX7_meet_8 : decode cX7_meet 8 = .ok (.iload_n 2, 1) := by decide +kernel
theorem dX7_meet_9 : decode cX7_meet 9 = .ok (.bipush 7, 2) := by decide +kernel
theorem dX7_meet_11 : decode cX7_meet 11 = .ok (.invokevirtual 47, 3) := by decide +kernel
theorem dX7_meet_14 : decode cX7_meet 14 = .ok (.aload_n 0, 1) := by decide +kernel
theorem dX7_meet_15 : decode cX7_meet 15 = .ok (.iload_n 2, 1) := by decide +kernel
theorem dX7_meet_16 : decode cX7_meet 16 = .ok (.iconst 0, 1) := by decide +kernel
theorem dX7_meet_17 : decode cX7_meet 17 = .ok (.invokevirtual 59, 3) := by decide +kernel
theorem dX7_meet_20 : decode cX7_meet 20 = .ok (.iadd, 1) := by decide +kernel
theorem dX7_meet_21 : decode cX7_meet 21 = .ok (.if_icmp .ge 31, 3) := by decide +kernel
theorem dX7_meet_24 : decode cX7_meet 24 = .ok (.aload_n 0, 1) := by decide +kernel
theorem dX7_meet_25 : decode cX7_meet 25 = .ok (.iload_n 2, 1) := by decide +kernel
theorem dX7_meet_26 : decode cX7_meet 26 = .ok (.bipush 7, 2) := by decide +kernel
theorem dX7_meet_28 : decode cX7_meet 28 = .ok (.invokevirtual 47, 3) := by decide +kernel
theorem dX7_meet_31 : decode cX7_meet 31 = .ok (.aload_n 0, 1) := by decide +kernel
theorem dX7_meet_32 : decode cX7_meet 32 = .ok (.iload_n 1, 1) := by decide +kernel
theorem dX7_meet_33 : decode cX7_meet 33 = .ok (.bipush 7, 2) := by decide +kernel
theorem dX7_meet_35 : decode cX7_meet 35 = .ok (.invokevirtual 47, 3) := by decide +kernel
theorem dX7_meet_38 : decode cX7_meet 38 = .ok (.aload_n 0, 1) := by decide +kernel
theorem dX7_meet_39 : decode cX7_meet 39 = .ok (.iload_n 1, 1) := by decide +kernel
theorem dX7_meet_40 : decode cX7_meet 40 = .ok (.iconst 0, 1) := by decide +kernel
theorem dX7_meet_41 : decode cX7_meet 41 = .ok (.invokevirtual 59, 3) := by decide +kernel
theorem dX7_meet_44 : decode cX7_meet 44 = .ok (.iadd, 1) := by decide +kernel
theorem dX7_meet_45 : decode cX7_meet 45 = .ok (.if_icmp .ge 7, 3) := by decide +kernel
theorem dX7_meet_48 : decode cX7_meet 48 = .ok (.iconst 1, 1) := by decide +kernel
theorem dX7_meet_49 : decode cX7_meet 49 = .ok (.goto 4, 3) := by decide +kernel
theorem dX7_meet_52 : decode cX7_meet 52 = .ok (.iconst 0, 1) := by decide +kernel
theorem dX7_meet_53 : decode cX7_meet 53 = .ok (.istore_n 3, 1) := by decide +kernel
theorem dX7_meet_54 : decode cX7_meet 54 = .ok (.iload_n 3, 1) := by decide +kernel
theorem dX7_meet_55 : decode cX7_meet 55 = .ok (.ifCond .eq 55, 3) := by decide +kernel
theorem dX7_meet_58 : decode cX7_meet 58 = .ok (.aload_n 0, 1) := by decide +kernel
theorem dX7_meet_59 : decode cX7_meet 59 = .ok (.iload_n 1, 1) := by decide +kernel
theorem dX7_meet_60 : decode cX7_meet 60 = .ok (.bipush 8, 2) := by decide +kernel
theorem dX7_meet_62 : decode cX7_meet 62 = .ok (.invokevirtual 47, 3) := by decide +kernel
theorem dX7_meet_65 : decode cX7_meet 65 = .ok (.aload_n 0, 1) := by decide +kernel
theorem dX7_meet_66 : decode cX7_meet 66 = .ok (.iload_n 2, 1) := by decide +kernel
theorem dX7_meet_67 : decode cX7_meet 67 = .ok (.bipush 8, 2) := by decide +kernel
theorem dX7_meet_69 : decode cX7_meet 69 = .ok (.invokevirtual 47, 3) := by decide +kernel
theorem dX7_meet_72 : decode cX7_meet 72 = .ok (.aload_n 0, 1) := by decide +kernel
theorem dX7_meet_73 : decode cX7_meet 73 = .ok (.iload_n 2, 1) := by decide +kernel
theorem dX7_meet_74 : decode cX7_meet 74 = .ok (.iconst 1, 1) := by decide +kernel
theorem dX7_meet_75 : decode cX7_meet 75 = .ok (.invokevirtual 59, 3) := by decide +kernel
theorem dX7_meet_78 : decode cX7_meet 78 = .ok (.iadd, 1) := by decide +kernel
theorem dX7_meet_79 : decode cX7_meet 79 = .ok (.if_icmp .ge 31, 3) := by decide +kernel
theorem dX7_meet_82 : decode cX7_meet 82 = .ok (.aload_n 0, 1) := by decide +kernel
theorem dX7_meet_83 : decode cX7_meet 83 = .ok (.iload_n 2, 1) := by decide +kernel
theorem dX7_meet_84 : decode cX7_meet 84 = .ok (.bipush 8, 2) := by decide +kernel
theorem dX7_meet_86 : decode cX7_meet 86 = .ok (.invokevirtual 47, 3) := by decide +kernel
theorem dX7_meet_89 : decode cX7_meet 89 = .ok (.aload_n 0, 1) := by decide +kernel
theorem dX7_meet_90 : decode cX7_meet 90 = .ok (.iload_n 1, 1) := by decide +kernel
theorem dX7_meet_91 : decode cX7_meet 91 = .ok (.bipush 8, 2) := by decide +kernel
theorem dX7_meet_93 : decode cX7_meet 93 = .ok (.invokevirtual 47, 3) := by decide +kernel
theorem dX7_meet_96 : decode cX7_meet 96 = .ok (.aload_n 0, 1) := by decide +kernel
theorem dX7_meet_97 : decode cX7_meet 97 = .ok (.iload_n 1, 1) := by decide +kernel
theorem dX7_meet_98 : decode cX7_meet 98 = .ok (.iconst 1, 1) := by decide +kernel
theorem dX7_meet_99 : decode cX7_meet 99 = .ok (.invokevirtual 59, 3) := by decide +kernel
theorem dX7_meet_102 : decode cX7_meet 102 = .ok (.iadd, 1) := by decide +kernel
theorem dX7_meet_103 : decode cX7_meet 103 = .ok (.if_icmp .ge 7, 3) := by decide +kernel
theorem dX7_meet_106 : decode cX7_meet 106 = .ok (.iconst 1, 1) := by decide +kernel
theorem dX7_meet_107 : decode cX7_meet 107 = .ok (.goto 4, 3) := by decide +kernel
theorem dX7_meet_110 : decode cX7_meet 110 = .ok (.iconst 0, 1) := by decide +kernel
theorem dX7_meet_111 : decode cX7_meet 111 = .ok (.ireturn, 1) := by decide +kernel
theorem dX7_liesOn_0 : decode cX7_liesOn 0 = .ok (.iload_n 1, 1) := by decide +kernel
theorem dX7_liesOn_1 : decode cX7_liesOn 1 = .ok (.iload_n 2, 1) := by decide +kernel
theorem dX7_liesOn_2 : decode cX7_liesOn 2 = .ok (.if_icmp .eq 47, 3) := by decide +kernel
theorem dX7_liesOn_5 : decode cX7_liesOn 5 = .ok (.aload_n 0, 1) := by decide +kernel
theorem dX7_liesOn_6 : decode cX7_liesOn 6 = .ok (.iload_n 1, 1) := by decide +kernel
theorem dX7_liesOn_7 : decode cX7_liesOn 7 = .ok (.invokevirtual 71, 3) := by decide +kernel
theorem dX7_liesOn_10 : decode cX7_liesOn 10 = .ok (.ifCond .eq 39, 3) := by decide +kernel
theorem dX7_liesOn_13 : decode cX7_liesOn 13 = .ok (.aload_n 0, 1) := by decide +kernel
theorem dX7_liesOn_14 : decode cX7_liesOn 14 = .ok (.iload_n 2, 1) := by decide +kernel
theorem dX7_liesOn_15 : decode cX7_liesOn 15 = .ok (.invokevirtual 71, 3) := by decide +kernel
theorem dX7_liesOn_18 : decode cX7_liesOn 18 = .ok (.ifCond .eq 31, 3) := by decide +kernel
theorem dX7_liesOn_21 : decode cX7_liesOn 21 = .ok (.aload_n 0, 1) := by decide +kernel
theorem dX7_liesOn_22 : decode cX7_liesOn 22 = .ok (.iload_n 1, 1) := by decide +kernel
theorem dX7_liesOn_23 : decode cX7_liesOn 23 = .ok (.iload_n 2, 1) := by decide +kernel
theorem dX7_liesOn_24 : decode cX7_liesOn 24 = .ok (.invokevirtual 111, 3) := by decide +kernel
theorem dX7_liesOn_27 : decode cX7_liesOn 27 = .ok (.ifCond .eq 22, 3) := by decide +kernel
theorem dX7_liesOn_30 : decode cX7_liesOn 30 = .ok (.aload_n 0, 1) := by decide +kernel
theorem dX7_liesOn_31 : decode cX7_liesOn 31 = .ok (.iload_n 1, 1) := by decide +kernel
theorem dX7_liesOn_32 : decode cX7_liesOn 32 = .ok (.bipush 9, 2) := by decide +kernel
theorem dX7_liesOn_34 : decode cX7_liesOn 34 = .ok (.invokevirtual 47, 3) := by decide +kernel
theorem dX7_liesOn_37 : decode cX7_liesOn 37 = .ok (.aload_n 0, 1) := by decide +kernel
theorem dX7_liesOn_38 : decode cX7_liesOn 38 = .ok (.iload_n 2, 1) := by decide +kernel
theorem dX7_liesOn_39 : decode cX7_liesOn 39 = .ok (.invokevirtual 78, 3) := by decide +kernel
theorem dX7_liesOn_42 : decode cX7_liesOn 42 = .ok (.if_icmp .lt 7, 3) := by decide +kernel
theorem dX7_liesOn_45 : decode cX7_liesOn 45 = .ok (.iconst 1, 1) := by decide +kernel
theorem dX7_liesOn_46 : decode cX7_liesOn 46 = .ok (.goto 4, 3) := by decide +kernel
theorem dX7_liesOn_49 : decode cX7_liesOn 49 = .ok (.iconst 0, 1) := by decide +kernel
theorem dX7_liesOn_50 : decode cX7_liesOn 50 = .ok (.ireturn, 1) := by decide +kernel
theorem dX7_above_0 : decode cX7_above 0 = .ok (.iconst 0, 1) := by decide +kernel
theorem dX7_above_1 : decode cX7_above 1 = .ok (.istore_n 2, 1) := by decide +kernel
theorem dX7_above_2 : decode cX7_above 2 = .ok (.iconst (-1), 1) := by decide +kernel
theorem dX7_above_3 : decode cX7_above 3 = .ok (.istore_n 3, 1) := by decide +kernel
theorem dX7_above_4 : decode cX7_above 4 = .ok (.iload_n 3, 1) := by decide +kernel
theorem dX7_above_5 : decode cX7_above 5 = .ok (.iload_n 2, 1) := by decide +kernel
theorem dX7_above_6 : decode cX7_above 6 = .ok (.if_icmp .eq 94, 3) := by decide +kernel
theorem dX7_above_9 : decode cX7_above 9 = .ok (.iload_n 2, 1) := by decide +kernel
theorem dX7_above_10 : decode cX7_above 10 = .ok (.istore_n 3, 1) := by decide +kernel
theorem dX7_above_11 : decode cX7_above 11 = .ok (.iconst 0, 1) := by decide +kernel
theorem dX7_above_12 : decode cX7_above 12 = .ok (.istore 4, 2) := by decide +kernel
theorem dX7_above_14 : decode cX7_above 14 = .ok (.iload 4, 2) := by decide +kernel
theorem dX7_above_16 : decode cX7_above 16 = .ok (.aload_n 0, 1) := by decide +kernel
theorem dX7_above_17 : decode cX7_above 17 = .ok (.invokevirtual 39, 3) := by decide +kernel
theorem dX7_above_20 : decode cX7_above 20 = .ok (.if_icmp .ge 77, 3) := by decide +kernel
theorem dX7_above_23 : decode cX7_above 23 = .ok (.iconst 0, 1) := by decide +kernel
theorem dX7_above_24 : decode cX7_above 24 = .ok (.istore 5, 2) := by decide +kernel
theorem dX7_above_26 : decode cX7_above 26 = .ok (.iload 5, 2) := by decide +kernel
theorem dX7_above_28 : decode cX7_above 28 = .ok (.aload_n 0, 1) := by decide +kernel
theorem dX7_above_29 : decode cX7_above 29 = .ok (.invokevirtual 39, 3) := by decide +kernel
theorem dX7_above_32 : decode cX7_above 32 = .ok (.if_icmp .ge 59, 3) := by decide +kernel
theorem dX7_above_35 : decode cX7_above 35 = .ok (.iload 5, 2) := by decide +kernel
theorem dX7_above_37 : decode cX7_above 37 = .ok (.iload_n 1, 1) := by decide +kernel
theorem dX7_above_38 : decode cX7_above 38 = .ok (.if_icmp .eq 13, 3) := by decide +kernel
theorem dX7_above_41 : decode cX7_above 41 = .ok (.iload_n 2, 1) := by decide +kernel
theorem dX7_above_42 : decode cX7_above 42 = .ok (.iload 5, 2) := by decide +kernel
theorem dX7_above_44 : decode cX7_above 44 = .ok (.ishr, 1) := by decide +kernel
theorem dX7_above_45 : decode cX7_above 45 = .ok (.iconst 1, 1) := by decide +kernel
theorem dX7_above_46 : decode cX7_above 46 = .ok (.iand, 1) := by decide +kernel
theorem dX7_above_47 : decode cX7_above 47 = .ok (.iconst 1, 1) := by decide +kernel
theorem dX7_above_48 : decode cX7_above 48 = .ok (.if_icmp .ne 7, 3) := by decide +kernel
theorem dX7_above_51 : decode cX7_above 51 = .ok (.iconst 1, 1) := by decide +kernel
theorem dX7_above_52 : decode cX7_above 52 = .ok (.goto 4, 3) := by decide +kernel
theorem dX7_above_55 : decode cX7_above 55 = .ok (.iconst 0, 1) := by decide +kernel
theorem dX7_above_56 : decode cX7_above 56 = .ok (.istore 6, 2) := by decide +kernel
theorem dX7_above_58 : decode cX7_above 58 = .ok (.iload_n 2, 1) := by decide +kernel
theorem dX7_above_59 : decode cX7_above 59 = .ok (.iload 6, 2) := by decide +kernel
theorem dX7_above_61 : decode cX7_above 61 = .ok (.ifCond .eq 21, 3) := by decide +kernel
theorem dX7_above_64 : decode cX7_above 64 = .ok (.aload_n 0, 1) := by decide +kernel
theorem dX7_above_65 : decode cX7_above 65 = .ok (.iload 4, 2) := by decide +kernel
theorem dX7_above_67 : decode cX7_above 67 = .ok (.iload 5, 2) := by decide +kernel
theorem dX7_above_69 : decode cX7_above 69 = .ok (.invokevirtual 115, 3) := by decide +kernel
theorem dX7_above_72 : decode cX7_above 72 = .ok (.ifCond .eq 10, 3) := by decide +kernel
theorem dX7_above_75 : decode cX7_above 75 = .ok (.iconst 1, 1) := by decide +kernel
theorem dX7_above_76 : decode cX7_above 76 = .ok (.iload 4, 2) := by decide +kernel
theorem dX7_above_78 : decode cX7_above 78 = .ok (.ishl, 1) := by decide +kernel
theorem dX7_above_79 : decode cX7_above 79 = .ok (.goto 4, 3) := by decide +kernel
theorem dX7_above_82 : decode cX7_above 82 = .ok (.iconst 0, 1) := by decide +kernel
theorem dX7_above_83 : decode cX7_above 83 = .ok (.ior, 1) := by decide +kernel
theorem dX7_above_84 : decode cX7_above 84 = .ok (.istore_n 2, 1) := by decide +kernel
theorem dX7_above_85 : decode cX7_above 85 = .ok (.iinc 5 1, 3) := by decide +kernel
theorem dX7_above_88 : decode cX7_above 88 = .ok (.goto (-62), 3) := by decide +kernel
theorem dX7_above_91 : decode cX7_above 91 = .ok (.iinc 4 1, 3) := by decide +kernel
theorem dX7_above_94 : decode cX7_above 94 = .ok (.goto (-80), 3) := by decide +kernel
theorem dX7_above_97 : decode cX7_above 97 = .ok (.goto (-93), 3) := by decide +kernel
theorem dX7_above_100 : decode cX7_above 100 = .ok (.iload_n 2, 1) := by decide +kernel
theorem dX7_above_101 : decode cX7_above 101 = .ok (.ireturn, 1) := by decide +kernel
theorem dX7_lift_0 : decode cX7_lift 0 = .ok (.iconst 0, 1) := by decide +kernel
theorem dX7_lift_1 : decode cX7_lift 1 = .ok (.istore_n 2, 1) := by decide +kernel
theorem dX7_lift_2 : decode cX7_lift 2 = .ok (.aload_n 0, 1) := by decide +kernel
theorem dX7_lift_3 : decode cX7_lift 3 = .ok (.iload_n 1, 1) := by decide +kernel
theorem dX7_lift_4 : decode cX7_lift 4 = .ok (.invokevirtual 118, 3) := by decide +kernel
theorem dX7_lift_7 : decode cX7_lift 7 = .ok (.istore_n 3, 1) := by decide +kernel
theorem dX7_lift_8 : decode cX7_lift 8 = .ok (.iload_n 3, 1) := by decide +kernel
theorem dX7_lift_9 : decode cX7_lift 9 = .ok (.ifCond .eq 15, 3) := by decide +kernel
theorem dX7_lift_12 : decode cX7_lift 12 = .ok (.iinc 2 1, 3) := by decide +kernel
theorem dX7_lift_15 : decode cX7_lift 15 = .ok (.iload_n 3, 1) := by decide +kernel
theorem dX7_lift_16 : decode cX7_lift 16 = .ok (.iload_n 3, 1) := by decide +kernel
theorem dX7_lift_17 : decode cX7_lift 17 = .ok (.iconst 1, 1) := by decide +kernel
theorem dX7_lift_18 : decode cX7_lift 18 = .ok (.isub, 1) := by decide +kernel
theorem dX7_lift_19 : decode cX7_lift 19 = .ok (.iand, 1) := by decide +kernel
theorem dX7_lift_20 : decode cX7_lift 20 = .ok (.istore_n 3, 1) := by decide +kernel
theorem dX7_lift_21 : decode cX7_lift 21 = .ok (.goto (-13), 3) := by decide +kernel
theorem dX7_lift_24 : decode cX7_lift 24 = .ok (.iload_n 2, 1) := by decide +kernel
theorem dX7_lift_25 : decode cX7_lift 25 = .ok (.ireturn, 1) := by decide +kernel
theorem dX7_fault_0 : decode cX7_fault 0 = .ok (.aload_n 0, 1) := by decide +kernel
theorem dX7_fault_1 : decode cX7_fault 1 = .ok (.iload_n 1, 1) := by decide +kernel
theorem dX7_fault_2 : decode cX7_fault 2 = .ok (.invokevirtual 118, 3) := by decide +kernel
theorem dX7_fault_5 : decode cX7_fault 5 = .ok (.istore_n 2, 1) := by decide +kernel
theorem dX7_fault_6 : decode cX7_fault 6 = .ok (.iconst 0, 1) := by decide +kernel
theorem dX7_fault_7 : decode cX7_fault 7 = .ok (.istore_n 3, 1) := by decide +kernel
theorem dX7_fault_8 : decode cX7_fault 8 = .ok (.iconst 0, 1) := by decide +kernel
theorem dX7_fault_9 : decode cX7_fault 9 = .ok (.istore 4, 2) := by decide +kernel
theorem dX7_fault_11 : decode cX7_fault 11 = .ok (.iload 4, 2) := by decide +kernel
theorem dX7_fault_13 : decode cX7_fault 13 = .ok (.aload_n 0, 1) := by decide +kernel
theorem dX7_fault_14 : decode cX7_fault 14 = .ok (.invokevirtual 39, 3) := by decide +kernel
theorem dX7_fault_17 : decode cX7_fault 17 = .ok (.if_icmp .ge 43, 3) := by decide +kernel
theorem dX7_fault_20 : decode cX7_fault 20 = .ok (.iload_n 3, 1) := by decide +kernel
theorem dX7_fault_21 : decode cX7_fault 21 = .ok (.iload_n 2, 1) := by decide +kernel
theorem dX7_fault_22 : decode cX7_fault 22 = .ok (.iload 4, 2) := by decide +kernel
theorem dX7_fault_24 : decode cX7_fault 24 = .ok (.ishr, 1) := by decide +kernel
theorem dX7_fault_25 : decode cX7_fault 25 = .ok (.iconst 1, 1) := by decide +kernel
theorem dX7_fault_26 : decode cX7_fault 26 = .ok (.iand, 1) := by decide +kernel
theorem dX7_fault_27 : decode cX7_fault 27 = .ok (.iconst 1, 1) := by decide +kernel
theorem dX7_fault_28 : decode cX7_fault 28 = .ok (.if_icmp .ne 23, 3) := by decide +kernel
theorem dX7_fault_31 : decode cX7_fault 31 = .ok (.aload_n 0, 1) := by decide +kernel
theorem dX7_fault_32 : decode cX7_fault 32 = .ok (.iload 4, 2) := by decide +kernel
theorem dX7_fault_34 : decode cX7_fault 34 = .ok (.iconst 3, 1) := by decide +kernel
theorem dX7_fault_35 : decode cX7_fault 35 = .ok (.invokevirtual 47, 3) := by decide +kernel
theorem dX7_fault_38 : decode cX7_fault 38 = .ok (.aload_n 0, 1) := by decide +kernel
theorem dX7_fault_39 : decode cX7_fault 39 = .ok (.iload_n 1, 1) := by decide +kernel
theorem dX7_fault_40 : decode cX7_fault 40 = .ok (.iconst 3, 1) := by decide +kernel
theorem dX7_fault_41 : decode cX7_fault 41 = .ok (.invokevirtual 47, 3) := by decide +kernel
theorem dX7_fault_44 : decode cX7_fault 44 = .ok (.if_icmp .le 7, 3) := by decide +kernel
theorem dX7_fault_47 : decode cX7_fault 47 = .ok (.iconst 1, 1) := by decide +kernel
theorem dX7_fault_48 : decode cX7_fault 48 = .ok (.goto 4, 3) := by decide +kernel
theorem dX7_fault_51 : decode cX7_fault 51 = .ok (.iconst 0, 1) := by decide +kernel
theorem dX7_fault_52 : decode cX7_fault 52 = .ok (.iadd, 1) := by decide +kernel
theorem dX7_fault_53 : decode cX7_fault 53 = .ok (.istore_n 3, 1) := by decide +kernel
theorem dX7_fault_54 : decode cX7_fault 54 = .ok (.iinc 4 1, 3) := by decide +kernel
theorem dX7_fault_57 : decode cX7_fault 57 = .ok (.goto (-46), 3) := by decide +kernel
theorem dX7_fault_60 : decode cX7_fault 60 = .ok (.iload_n 3, 1) := by decide +kernel
theorem dX7_fault_61 : decode cX7_fault 61 = .ok (.ireturn, 1) := by decide +kernel
theorem dX7_rests_0 : decode cX7_rests 0 = .ok (.iconst 0, 1) := by decide +kernel
theorem dX7_rests_1 : decode cX7_rests 1 = .ok (.istore_n 2, 1) := by decide +kernel
theorem dX7_rests_2 : decode cX7_rests 2 = .ok (.iconst 0, 1) := by decide +kernel
theorem dX7_rests_3 : decode cX7_rests 3 = .ok (.istore_n 3, 1) := by decide +kernel
theorem dX7_rests_4 : decode cX7_rests 4 = .ok (.iload_n 3, 1) := by decide +kernel
theorem dX7_rests_5 : decode cX7_rests 5 = .ok (.bipush 100, 2) := by decide +kernel
theorem dX7_rests_7 : decode cX7_rests 7 = .ok (.if_icmp .ge 133, 3) := by decide +kernel
theorem dX7_rests_10 : decode cX7_rests 10 = .ok (.aload_n 0, 1) := by decide +kernel
theorem dX7_rests_11 : decode cX7_rests 11 = .ok (.iload_n 1, 1) := by decide +kernel
theorem dX7_rests_12 : decode cX7_rests 12 = .ok (.bipush 9, 2) := by decide +kernel
theorem dX7_rests_14 : decode cX7_rests 14 = .ok (.invokevirtual 47, 3) := by decide +kernel
theorem dX7_rests_17 : decode cX7_rests 17 = .ok (.ifCond .ne 7, 3) := by decide +kernel
theorem dX7_rests_20 : decode cX7_rests 20 = .ok (.iconst 1, 1) := by decide +kernel
theorem dX7_rests_21 : decode cX7_rests 21 = .ok (.goto 4, 3) := by decide +kernel
theorem dX7_rests_24 : decode cX7_rests 24 = .ok (.iconst 0, 1) := by decide +kernel
theorem dX7_rests_25 : decode cX7_rests 25 = .ok (.istore 4, 2) := by decide +kernel
theorem dX7_rests_27 : decode cX7_rests 27 = .ok (.iconst 0, 1) := by decide +kernel
theorem dX7_rests_28 : decode cX7_rests 28 = .ok (.istore 5, 2) := by decide +kernel
theorem dX7_rests_30 : decode cX7_rests 30 = .ok (.iload 5, 2) := by decide +kernel
theorem dX7_rests_32 : decode cX7_rests 32 = .ok (.aload_n 0, 1) := by decide +kernel
theorem dX7_rests_33 : decode cX7_rests 33 = .ok (.invokevirtual 39, 3) := by decide +kernel
theorem dX7_rests_36 : decode cX7_rests 36 = .ok (.if_icmp .ge 69, 3) := by decide +kernel
theorem dX7_rests_39 : decode cX7_rests 39 = .ok (.iload 4, 2) := by decide +kernel
theorem dX7_rests_41 : decode cX7_rests 41 = .ok (.ifCond .ne 51, 3) := by decide +kernel
theorem dX7_rests_44 : decode cX7_rests 44 = .ok (.iload 5, 2) := by decide +kernel
theorem dX7_rests_46 : decode cX7_rests 46 = .ok (.iload_n 1, 1) := by decide +kernel
theorem dX7_rests_47 : decode cX7_rests 47 = .ok (.if_icmp .eq 49, 3) := by decide +kernel
theorem dX7_rests_50 : decode cX7_rests 50 = .ok (.aload_n 0, 1) := by decide +kernel
theorem dX7_rests_51 : decode cX7_rests 51 = .ok (.iload 5, 2) := by decide +kernel
theorem dX7_rests_53 : decode cX7_rests 53 = .ok (.invokevirtual 71, 3) := by decide +kernel
theorem dX7_rests_56 : decode cX7_rests 56 = .ok (.ifCond .eq 40, 3) := by decide +kernel
theorem dX7_rests_59 : decode cX7_rests 59 = .ok (.aload_n 0, 1) := by decide +kernel
theorem dX7_rests_60 : decode cX7_rests 60 = .ok (.iload 5, 2) := by decide +kernel
theorem dX7_rests_62 : decode cX7_rests 62 = .ok (.iload_n 3, 1) := by decide +kernel
theorem dX7_rests_63 : decode cX7_rests 63 = .ok (.bipush 10, 2) := by decide +kernel
theorem dX7_rests_65 : decode cX7_rests 65 = .ok (.idiv, 1) := by decide +kernel
theorem dX7_rests_66 : decode cX7_rests 66 = .ok (.iload_n 3, 1) := by decide +kernel
theorem dX7_rests_67 : decode cX7_rests 67 = .ok (.bipush 10, 2) := by decide +kernel
theorem dX7_rests_69 : decode cX7_rests 69 = .ok (.irem, 1) := by decide +kernel
theorem dX7_rests_70 : decode cX7_rests 70 = .ok (.invokevirtual 75, 3) := by decide +kernel
theorem dX7_rests_73 : decode cX7_rests 73 = .ok (.ifCond .eq 23, 3) := by decide +kernel
theorem dX7_rests_76 : decode cX7_rests 76 = .ok (.aload_n 0, 1) := by decide +kernel
theorem dX7_rests_77 : decode cX7_rests 77 = .ok (.iload 5, 2) := by decide +kernel
theorem dX7_rests_79 : decode cX7_rests 79 = .ok (.invokevirtual 78, 3) := by decide +kernel
theorem dX7_rests_82 : decode cX7_rests 82 = .ok (.aload_n 0, 1) := by decide +kernel
theorem dX7_rests_83 : decode cX7_rests 83 = .ok (.iload_n 1, 1) := by decide +kernel
theorem dX7_rests_84 : decode cX7_rests 84 = .ok (.bipush 9, 2) := by decide +kernel
theorem dX7_rests_86 : decode cX7_rests 86 = .ok (.invokevirtual 47, 3) := by decide +kernel
theorem dX7_rests_89 : decode cX7_rests 89 = .ok (.if_icmp .ne 7, 3) := by decide +kernel
theorem dX7_rests_92 : decode cX7_rests 92 = .ok (.iconst 1, 1) := by decide +kernel
theorem dX7_rests_93 : decode cX7_rests 93 = .ok (.goto 4, 3) := by decide +kernel
theorem dX7_rests_96 : decode cX7_rests 96 = .ok (.iconst 0, 1) := by decide +kernel
theorem dX7_rests_97 : decode cX7_rests 97 = .ok (.istore 4, 2) := by decide +kernel
theorem dX7_rests_99 : decode cX7_rests 99 = .ok (.iinc 5 1, 3) := by decide +kernel
theorem dX7_rests_102 : decode cX7_rests 102 = .ok (.goto (-72), 3) := by decide +kernel
theorem dX7_rests_105 : decode cX7_rests 105 = .ok (.iload_n 2, 1) := by decide +kernel
theorem dX7_rests_106 : decode cX7_rests 106 = .ok (.iload 4, 2) := by decide +kernel
theorem dX7_rests_108 : decode cX7_rests 108 = .ok (.ifCond .eq 23, 3) := by decide +kernel
theorem dX7_rests_111 : decode cX7_rests 111 = .ok (.aload_n 0, 1) := by decide +kernel
theorem dX7_rests_112 : decode cX7_rests 112 = .ok (.iload_n 1, 1) := by decide +kernel
theorem dX7_rests_113 : decode cX7_rests 113 = .ok (.iload_n 3, 1) := by decide +kernel
theorem dX7_rests_114 : decode cX7_rests 114 = .ok (.bipush 10, 2) := by decide +kernel
theorem dX7_rests_116 : decode cX7_rests 116 = .ok (.idiv, 1) := by decide +kernel
theorem dX7_rests_117 : decode cX7_rests 117 = .ok (.iload_n 3, 1) := by decide +kernel
theorem dX7_rests_118 : decode cX7_rests 118 = .ok (.bipush 10, 2) := by decide +kernel
theorem dX7_rests_120 : decode cX7_rests 120 = .ok (.irem, 1) := by decide +kernel
theorem dX7_rests_121 : decode cX7_rests 121 = .ok (.invokevirtual 75, 3) := by decide +kernel
theorem dX7_rests_124 : decode cX7_rests 124 = .ok (.ifCond .eq 7, 3) := by decide +kernel
theorem dX7_rests_127 : decode cX7_rests 127 = .ok (.iconst 1, 1) := by decide +kernel
theorem dX7_rests_128 : decode cX7_rests 128 = .ok (.goto 4, 3) := by decide +kernel
theorem dX7_rests_131 : decode cX7_rests 131 = .ok (.iconst 0, 1) := by decide +kernel
theorem dX7_rests_132 : decode cX7_rests 132 = .ok (.iadd, 1) := by decide +kernel
theorem dX7_rests_133 : decode cX7_rests 133 = .ok (.istore_n 2, 1) := by decide +kernel
theorem dX7_rests_134 : decode cX7_rests 134 = .ok (.iinc 3 1, 3) := by decide +kernel
theorem dX7_rests_137 : decode cX7_rests 137 = .ok (.goto (-133), 3) := by decide +kernel
theorem dX7_rests_140 : decode cX7_rests 140 = .ok (.iload_n 2, 1) := by decide +kernel
theorem dX7_rests_141 : decode cX7_rests 141 = .ok (.ireturn, 1) := by decide +kernel
theorem dX7_faults_0 : decode cX7_faults 0 = .ok (.iconst 0, 1) := by decide +kernel
theorem dX7_faults_1 : decode cX7_faults 1 = .ok (.istore_n 1, 1) := by decide +kernel
theorem dX7_faults_2 : decode cX7_faults 2 = .ok (.iconst 0, 1) := by decide +kernel
theorem dX7_faults_3 : decode cX7_faults 3 = .ok (.istore_n 2, 1) := by decide +kernel
theorem dX7_faults_4 : decode cX7_faults 4 = .ok (.iload_n 2, 1) := by decide +kernel
theorem dX7_faults_5 : decode cX7_faults 5 = .ok (.aload_n 0, 1) := by decide +kernel
theorem dX7_faults_6 : decode cX7_faults 6 = .ok (.invokevirtual 39, 3) := by decide +kernel
theorem dX7_faults_9 : decode cX7_faults 9 = .ok (.if_icmp .ge 29, 3) := by decide +kernel
theorem dX7_faults_12 : decode cX7_faults 12 = .ok (.iload_n 1, 1) := by decide +kernel
theorem dX7_faults_13 : decode cX7_faults 13 = .ok (.aload_n 0, 1) := by decide +kernel
theorem dX7_faults_14 : decode cX7_faults 14 = .ok (.iload_n 2, 1) := by decide +kernel
theorem dX7_faults_15 : decode cX7_faults 15 = .ok (.invokevirtual 71, 3) := by decide +kernel
theorem dX7_faults_18 : decode cX7_faults 18 = .ok (.ifCond .eq 11, 3) := by decide +kernel
theorem dX7_faults_21 : decode cX7_faults 21 = .ok (.aload_n 0, 1) := by decide +kernel
theorem dX7_faults_22 : decode cX7_faults 22 = .ok (.iload_n 2, 1) := by decide +kernel
theorem dX7_faults_23 : decode cX7_faults 23 = .ok (.invokevirtual 121, 3) := by decide +kernel
theorem dX7_faults_26 : decode cX7_faults 26 = .ok (.goto 4, 3) := by decide +kernel
theorem dX7_faults_29 : decode cX7_faults 29 = .ok (.iconst 0, 1) := by decide +kernel
theorem dX7_faults_30 : decode cX7_faults 30 = .ok (.iadd, 1) := by decide +kernel
theorem dX7_faults_31 : decode cX7_faults 31 = .ok (.istore_n 1, 1) := by decide +kernel
theorem dX7_faults_32 : decode cX7_faults 32 = .ok (.iinc 2 1, 3) := by decide +kernel
theorem dX7_faults_35 : decode cX7_faults 35 = .ok (.goto (-31), 3) := by decide +kernel
theorem dX7_faults_38 : decode cX7_faults 38 = .ok (.iload_n 1, 1) := by decide +kernel
theorem dX7_faults_39 : decode cX7_faults 39 = .ok (.ireturn, 1) := by decide +kernel
theorem dX7_lifts_0 : decode cX7_lifts 0 = .ok (.iconst 0, 1) := by decide +kernel
theorem dX7_lifts_1 : decode cX7_lifts 1 = .ok (.istore_n 1, 1) := by decide +kernel
theorem dX7_lifts_2 : decode cX7_lifts 2 = .ok (.iconst 0, 1) := by decide +kernel
theorem dX7_lifts_3 : decode cX7_lifts 3 = .ok (.istore_n 2, 1) := by decide +kernel
theorem dX7_lifts_4 : decode cX7_lifts 4 = .ok (.iload_n 2, 1) := by decide +kernel
theorem dX7_lifts_5 : decode cX7_lifts 5 = .ok (.aload_n 0, 1) := by decide +kernel
theorem dX7_lifts_6 : decode cX7_lifts 6 = .ok (.invokevirtual 39, 3) := by decide +kernel
theorem dX7_lifts_9 : decode cX7_lifts 9 = .ok (.if_icmp .ge 29, 3) := by decide +kernel
theorem dX7_lifts_12 : decode cX7_lifts 12 = .ok (.iload_n 1, 1) := by decide +kernel
theorem dX7_lifts_13 : decode cX7_lifts 13 = .ok (.aload_n 0, 1) := by decide +kernel
theorem dX7_lifts_14 : decode cX7_lifts 14 = .ok (.iload_n 2, 1) := by decide +kernel
theorem dX7_lifts_15 : decode cX7_lifts 15 = .ok (.invokevirtual 71, 3) := by decide +kernel
theorem dX7_lifts_18 : decode cX7_lifts 18 = .ok (.ifCond .eq 11, 3) := by decide +kernel
theorem dX7_lifts_21 : decode cX7_lifts 21 = .ok (.aload_n 0, 1) := by decide +kernel
theorem dX7_lifts_22 : decode cX7_lifts 22 = .ok (.iload_n 2, 1) := by decide +kernel
theorem dX7_lifts_23 : decode cX7_lifts 23 = .ok (.invokevirtual 124, 3) := by decide +kernel
theorem dX7_lifts_26 : decode cX7_lifts 26 = .ok (.goto 4, 3) := by decide +kernel
theorem dX7_lifts_29 : decode cX7_lifts 29 = .ok (.iconst 0, 1) := by decide +kernel
theorem dX7_lifts_30 : decode cX7_lifts 30 = .ok (.iadd, 1) := by decide +kernel
theorem dX7_lifts_31 : decode cX7_lifts 31 = .ok (.istore_n 1, 1) := by decide +kernel
theorem dX7_lifts_32 : decode cX7_lifts 32 = .ok (.iinc 2 1, 3) := by decide +kernel
theorem dX7_lifts_35 : decode cX7_lifts 35 = .ok (.goto (-31), 3) := by decide +kernel
theorem dX7_lifts_38 : decode cX7_lifts 38 = .ok (.iload_n 1, 1) := by decide +kernel
theorem dX7_lifts_39 : decode cX7_lifts 39 = .ok (.ireturn, 1) := by decide +kernel
theorem dX7_frees_0 : decode cX7_frees 0 = .ok (.iconst 0, 1) := by decide +kernel
theorem dX7_frees_1 : decode cX7_frees 1 = .ok (.istore_n 1, 1) := by decide +kernel
theorem dX7_frees_2 : decode cX7_frees 2 = .ok (.iconst 0, 1) := by decide +kernel
theorem dX7_frees_3 : decode cX7_frees 3 = .ok (.istore_n 2, 1) := by decide +kernel
theorem dX7_frees_4 : decode cX7_frees 4 = .ok (.iload_n 2, 1) := by decide +kernel
theorem dX7_frees_5 : decode cX7_frees 5 = .ok (.aload_n 0, 1) := by decide +kernel
theorem dX7_frees_6 : decode cX7_frees 6 = .ok (.invokevirtual 39, 3) := by decide +kernel
theorem dX7_frees_9 : decode cX7_frees 9 = .ok (.if_icmp .ge 33, 3) := by decide +kernel
theorem dX7_frees_12 : decode cX7_frees 12 = .ok (.iload_n 1, 1) := by decide +kernel
theorem dX7_frees_13 : decode cX7_frees 13 = .ok (.aload_n 0, 1) := by decide +kernel
theorem dX7_frees_14 : decode cX7_frees 14 = .ok (.iload_n 2, 1) := by decide +kernel
theorem dX7_frees_15 : decode cX7_frees 15 = .ok (.invokevirtual 71, 3) := by decide +kernel
theorem dX7_frees_18 : decode cX7_frees 18 = .ok (.ifCond .eq 15, 3) := by decide +kernel
theorem dX7_frees_21 : decode cX7_frees 21 = .ok (.aload_n 0, 1) := by decide +kernel
theorem dX7_frees_22 : decode cX7_frees 22 = .ok (.iload_n 2, 1) := by decide +kernel
theorem dX7_frees_23 : decode cX7_frees 23 = .ok (.invokevirtual 118, 3) := by decide +kernel
theorem dX7_frees_26 : decode cX7_frees 26 = .ok (.ifCond .ne 7, 3) := by decide +kernel
theorem dX7_frees_29 : decode cX7_frees 29 = .ok (.iconst 1, 1) := by decide +kernel
theorem dX7_frees_30 : decode cX7_frees 30 = .ok (.goto 4, 3) := by decide +kernel
theorem dX7_frees_33 : decode cX7_frees 33 = .ok (.iconst 0, 1) := by decide +kernel
theorem dX7_frees_34 : decode cX7_frees 34 = .ok (.iadd, 1) := by decide +kernel
theorem dX7_frees_35 : decode cX7_frees 35 = .ok (.istore_n 1, 1) := by decide +kernel
theorem dX7_frees_36 : decode cX7_frees 36 = .ok (.iinc 2 1, 3) := by decide +kernel
theorem dX7_frees_39 : decode cX7_frees 39 = .ok (.goto (-35), 3) := by decide +kernel
theorem dX7_frees_42 : decode cX7_frees 42 = .ok (.iload_n 1, 1) := by decide +kernel
theorem dX7_frees_43 : decode cX7_frees 43 = .ok (.ireturn, 1) := by decide +kernel
theorem dX7_boxHeight_0 : decode cX7_boxHeight 0 = .ok (.iconst 0, 1) := by decide +kernel
theorem dX7_boxHeight_1 : decode cX7_boxHeight 1 = .ok (.istore_n 1, 1) := by decide +kernel
theorem dX7_boxHeight_2 : decode cX7_boxHeight 2 = .ok (.iconst 0, 1) := by decide +kernel
theorem dX7_boxHeight_3 : decode cX7_boxHeight 3 = .ok (.istore_n 2, 1) := by decide +kernel
theorem dX7_boxHeight_4 : decode cX7_boxHeight 4 = .ok (.iload_n 2, 1) := by decide +kernel
theorem dX7_boxHeight_5 : decode cX7_boxHeight 5 = .ok (.aload_n 0, 1) := by decide +kernel
theorem dX7_boxHeight_6 : decode cX7_boxHeight 6 = .ok (.invokevirtual 39, 3) := by decide +kernel
theorem dX7_boxHeight_9 : decode cX7_boxHeight 9 = .ok (.if_icmp .ge 36, 3) := by decide +kernel
theorem dX7_boxHeight_12 : decode cX7_boxHeight 12 = .ok (.aload_n 0, 1) := by decide +kernel
theorem dX7_boxHeight_13 : decode cX7_boxHeight 13 = .ok (.iload_n 2, 1) := by decide +kernel
theorem dX7_boxHeight_14 : decode cX7_boxHeight 14 = .ok (.invokevirtual 71, 3) := by decide +kernel
theorem dX7_boxHeight_17 : decode cX7_boxHeight 17 = .ok (.ifCond .eq 20, 3) := by decide +kernel
theorem dX7_boxHeight_20 : decode cX7_boxHeight 20 = .ok (.aload_n 0, 1) := by decide +kernel
theorem dX7_boxHeight_21 : decode cX7_boxHeight 21 = .ok (.iload_n 2, 1) := by decide +kernel
theorem dX7_boxHeight_22 : decode cX7_boxHeight 22 = .ok (.invokevirtual 78, 3) := by decide +kernel
theorem dX7_boxHeight_25 : decode cX7_boxHeight 25 = .ok (.iload_n 1, 1) := by decide +kernel
theorem dX7_boxHeight_26 : decode cX7_boxHeight 26 = .ok (.if_icmp .le 11, 3) := by decide +kernel
theorem dX7_boxHeight_29 : decode cX7_boxHeight 29 = .ok (.aload_n 0, 1) := by decide +kernel
theorem dX7_boxHeight_30 : decode cX7_boxHeight 30 = .ok (.iload_n 2, 1) := by decide +kernel
theorem dX7_boxHeight_31 : decode cX7_boxHeight 31 = .ok (.invokevirtual 78, 3) := by decide +kernel
theorem dX7_boxHeight_34 : decode cX7_boxHeight 34 = .ok (.goto 4, 3) := by decide +kernel
theorem dX7_boxHeight_37 : decode cX7_boxHeight 37 = .ok (.iload_n 1, 1) := by decide +kernel
theorem dX7_boxHeight_38 : decode cX7_boxHeight 38 = .ok (.istore_n 1, 1) := by decide +kernel
theorem dX7_boxHeight_39 : decode cX7_boxHeight 39 = .ok (.iinc 2 1, 3) := by decide +kernel
theorem dX7_boxHeight_42 : decode cX7_boxHeight 42 = .ok (.goto (-38), 3) := by decide +kernel
theorem dX7_boxHeight_45 : decode cX7_boxHeight 45 = .ok (.iload_n 1, 1) := by decide +kernel
theorem dX7_boxHeight_46 : decode cX7_boxHeight 46 = .ok (.ireturn, 1) := by decide +kernel
theorem dX7_air_0 : decode cX7_air 0 = .ok (.aload_n 0, 1) := by decide +kernel
theorem dX7_air_1 : decode cX7_air 1 = .ok (.getfield 7, 3) := by decide +kernel
theorem dX7_air_4 : decode cX7_air 4 = .ok (.iconst 0, 1) := by decide +kernel
theorem dX7_air_5 : decode cX7_air 5 = .ok (.iaload, 1) := by decide +kernel
theorem dX7_air_6 : decode cX7_air 6 = .ok (.aload_n 0, 1) := by decide +kernel
theorem dX7_air_7 : decode cX7_air 7 = .ok (.getfield 7, 3) := by decide +kernel
theorem dX7_air_10 : decode cX7_air 10 = .ok (.iconst 1, 1) := by decide +kernel
theorem dX7_air_11 : decode cX7_air 11 = .ok (.iaload, 1) := by decide +kernel
theorem dX7_air_12 : decode cX7_air 12 = .ok (.imul, 1) := by decide +kernel
theorem dX7_air_13 : decode cX7_air 13 = .ok (.aload_n 0, 1) := by decide +kernel
theorem dX7_air_14 : decode cX7_air 14 = .ok (.invokevirtual 127, 3) := by decide +kernel
theorem dX7_air_17 : decode cX7_air 17 = .ok (.imul, 1) := by decide +kernel
theorem dX7_air_18 : decode cX7_air 18 = .ok (.istore_n 1, 1) := by decide +kernel
theorem dX7_air_19 : decode cX7_air 19 = .ok (.iconst 0, 1) := by decide +kernel
theorem dX7_air_20 : decode cX7_air 20 = .ok (.istore_n 2, 1) := by decide +kernel
theorem dX7_air_21 : decode cX7_air 21 = .ok (.iload_n 2, 1) := by decide +kernel
theorem dX7_air_22 : decode cX7_air 22 = .ok (.aload_n 0, 1) := by decide +kernel
theorem dX7_air_23 : decode cX7_air 23 = .ok (.invokevirtual 39, 3) := by decide +kernel
theorem dX7_air_26 : decode cX7_air 26 = .ok (.if_icmp .ge 43, 3) := by decide +kernel
theorem dX7_air_29 : decode cX7_air 29 = .ok (.iload_n 1, 1) := by decide +kernel
theorem dX7_air_30 : decode cX7_air 30 = .ok (.aload_n 0, 1) := by decide +kernel
theorem dX7_air_31 : decode cX7_air 31 = .ok (.iload_n 2, 1) := by decide +kernel
theorem dX7_air_32 : decode cX7_air 32 = .ok (.invokevirtual 71, 3) := by decide +kernel
theorem dX7_air_35 : decode cX7_air 35 = .ok (.ifCond .eq 25, 3) := by decide +kernel
theorem dX7_air_38 : decode cX7_air 38 = .ok (.aload_n 0, 1) := by decide +kernel
theorem dX7_air_39 : decode cX7_air 39 = .ok (.iload_n 2, 1) := by decide +kernel
theorem dX7_air_40 : decode cX7_air 40 = .ok (.iconst 0, 1) := by decide +kernel
theorem dX7_air_41 : decode cX7_air 41 = .ok (.invokevirtual 47, 3) := by decide +kernel
theorem dX7_air_44 : decode cX7_air 44 = .ok (.aload_n 0, 1) := by decide +kernel
theorem dX7_air_45 : decode cX7_air 45 = .ok (.iload_n 2, 1) := by decide +kernel
theorem dX7_air_46 : decode cX7_air 46 = .ok (.iconst 1, 1) := by decide +kernel
theorem dX7_air_47 : decode cX7_air 47 = .ok (.invokevirtual 47, 3) := by decide +kernel
theorem dX7_air_50 : decode cX7_air 50 = .ok (.imul, 1) := by decide +kernel
theorem dX7_air_51 : decode cX7_air 51 = .ok (.aload_n 0, 1) := by decide +kernel
theorem dX7_air_52 : decode cX7_air 52 = .ok (.iload_n 2, 1) := by decide +kernel
theorem dX7_air_53 : decode cX7_air 53 = .ok (.invokevirtual 51, 3) := by decide +kernel
theorem dX7_air_56 : decode cX7_air 56 = .ok (.imul, 1) := by decide +kernel
theorem dX7_air_57 : decode cX7_air 57 = .ok (.goto 4, 3) := by decide +kernel
theorem dX7_air_60 : decode cX7_air 60 = .ok (.iconst 0, 1) := by decide +kernel
theorem dX7_air_61 : decode cX7_air 61 = .ok (.isub, 1) := by decide +kernel
theorem dX7_air_62 : decode cX7_air 62 = .ok (.istore_n 1, 1) := by decide +kernel
theorem dX7_air_63 : decode cX7_air 63 = .ok (.iinc 2 1, 3) := by decide +kernel
theorem dX7_air_66 : decode cX7_air 66 = .ok (.goto (-45), 3) := by decide +kernel
theorem dX7_air_69 : decode cX7_air 69 = .ok (.iload_n 1, 1) := by decide +kernel
theorem dX7_air_70 : decode cX7_air 70 = .ok (.ireturn, 1) := by decide +kernel
theorem dX7_type_0 : decode cX7_type 0 = .ok (.iload_n 1, 1) := by decide +kernel
theorem dX7_type_1 : decode cX7_type 1 = .ok (.bipush 32, 2) := by decide +kernel
theorem dX7_type_3 : decode cX7_type 3 = .ok (.bipush 126, 2) := by decide +kernel
theorem dX7_type_5 : decode cX7_type 5 = .ok (.invokestatic 43, 3) := by decide +kernel
theorem dX7_type_8 : decode cX7_type 8 = .ok (.ifCond .ne 5, 3) := by decide +kernel
theorem dX7_type_11 : decode cX7_type 11 = .ok (.iconst (-1), 1) := by decide +kernel
theorem dX7_type_12 : decode cX7_type 12 = .ok (.ireturn, 1) := by decide +kernel
theorem dX7_type_13 : decode cX7_type 13 = .ok (.aload_n 0, 1) := by decide +kernel
theorem dX7_type_14 : decode cX7_type 14 = .ok (.getfield 130, 3) := by decide +kernel
theorem dX7_type_17 : decode cX7_type 17 = .ok (.bipush 100, 2) := by decide +kernel
theorem dX7_type_19 : decode cX7_type 19 = .ok (.if_icmp .ne 6, 3) := by decide +kernel
theorem dX7_type_22 : decode cX7_type 22 = .ok (.bipush (-3), 2) := by decide +kernel
theorem dX7_type_24 : decode cX7_type 24 = .ok (.ireturn, 1) := by decide +kernel
theorem dX7_type_25 : decode cX7_type 25 = .ok (.aload_n 0, 1) := by decide +kernel
theorem dX7_type_26 : decode cX7_type 26 = .ok (.getfield 16, 3) := by decide +kernel
theorem dX7_type_29 : decode cX7_type 29 = .ok (.aload_n 0, 1) := by decide +kernel
theorem dX7_type_30 : decode cX7_type 30 = .ok (.getfield 130, 3) := by decide +kernel
theorem dX7_type_33 : decode cX7_type 33 = .ok (.iload_n 1, 1) := by decide +kernel
theorem dX7_type_34 : decode cX7_type 34 = .ok (.iastore, 1) := by decide +kernel
theorem dX7_type_35 : decode cX7_type 35 = .ok (.aload_n 0, 1) := by decide +kernel
theorem dX7_type_36 : decode cX7_type 36 = .ok (.dup, 1) := by decide +kernel
theorem dX7_type_37 : decode cX7_type 37 = .ok (.getfield 130, 3) := by decide +kernel
theorem dX7_type_40 : decode cX7_type 40 = .ok (.iconst 1, 1) := by decide +kernel
theorem dX7_type_41 : decode cX7_type 41 = .ok (.iadd, 1) := by decide +kernel
theorem dX7_type_42 : decode cX7_type 42 = .ok (.putfield 130, 3) := by decide +kernel
theorem dX7_type_45 : decode cX7_type 45 = .ok (.aload_n 0, 1) := by decide +kernel
theorem dX7_type_46 : decode cX7_type 46 = .ok (.getfield 130, 3) := by decide +kernel
theorem dX7_type_49 : decode cX7_type 49 = .ok (.ireturn, 1) := by decide +kernel
theorem dX7_clearText_0 : decode cX7_clearText 0 = .ok (.aload_n 0, 1) := by decide +kernel
theorem dX7_clearText_1 : decode cX7_clearText 1 = .ok (.getfield 130, 3) := by decide +kernel
theorem dX7_clearText_4 : decode cX7_clearText 4 = .ok (.istore_n 1, 1) := by decide +kernel
theorem dX7_clearText_5 : decode cX7_clearText 5 = .ok (.aload_n 0, 1) := by decide +kernel
theorem dX7_clearText_6 : decode cX7_clearText 6 = .ok (.iconst 0, 1) := by decide +kernel
theorem dX7_clearText_7 : decode cX7_clearText 7 = .ok (.putfield 130, 3) := by decide +kernel
theorem dX7_clearText_10 : decode cX7_clearText 10 = .ok (.iload_n 1, 1) := by decide +kernel
theorem dX7_clearText_11 : decode cX7_clearText 11 = .ok (.ireturn, 1) := by decide +kernel
theorem dX7_here_0 : decode cX7_here 0 = .ok (.aload_n 0, 1) := by decide +kernel
theorem dX7_here_1 : decode cX7_here 1 = .ok (.getfield 133, 3) := by decide +kernel
theorem dX7_here_4 : decode cX7_here 4 = .ok (.aload_n 0, 1) := by decide +kernel
theorem dX7_here_5 : decode cX7_here 5 = .ok (.getfield 130, 3) := by decide +kernel
theorem dX7_here_8 : decode cX7_here 8 = .ok (.if_icmp .ge 15, 3) := by decide +kernel
theorem dX7_here_11 : decode cX7_here 11 = .ok (.aload_n 0, 1) := by decide +kernel
theorem dX7_here_12 : decode cX7_here 12 = .ok (.getfield 16, 3) := by decide +kernel
theorem dX7_here_15 : decode cX7_here 15 = .ok (.aload_n 0, 1) := by decide +kernel
theorem dX7_here_16 : decode cX7_here 16 = .ok (.getfield 133, 3) := by decide +kernel
theorem dX7_here_19 : decode cX7_here 19 = .ok (.iaload, 1) := by decide +kernel
theorem dX7_here_20 : decode cX7_here 20 = .ok (.goto 5, 3) := by decide +kernel
theorem dX7_here_23 : decode cX7_here 23 = .ok (.bipush (-9), 2) := by decide +kernel
theorem dX7_here_25 : decode cX7_here 25 = .ok (.ireturn, 1) := by decide +kernel
theorem dX7_isDigit_0 : decode cX7_isDigit 0 = .ok (.aload_n 0, 1) := by decide +kernel
theorem dX7_isDigit_1 : decode cX7_isDigit 1 = .ok (.invokevirtual 136, 3) := by decide +kernel
theorem dX7_isDigit_4 : decode cX7_isDigit 4 = .ok (.bipush 48, 2) := by decide +kernel
theorem dX7_isDigit_6 : decode cX7_isDigit 6 = .ok (.bipush 57, 2) := by decide +kernel
theorem dX7_isDigit_8 : decode cX7_isDigit 8 = .ok (.invokestatic 43, 3) := by decide +kernel
theorem dX7_isDigit_11 : decode cX7_isDigit 11 = .ok (.ireturn, 1) := by decide +kernel
theorem dX7_fails_0 : decode cX7_fails 0 = .ok (.aload_n 0, 1) := by decide +kernel
theorem dX7_fails_1 : decode cX7_fails 1 = .ok (.iload_n 1, 1) := by decide +kernel
theorem dX7_fails_2 : decode cX7_fails 2 = .ok (.putfield 139, 3) := by decide +kernel
theorem dX7_fails_5 : decode cX7_fails 5 = .ok (.aload_n 0, 1) := by decide +kernel
theorem dX7_fails_6 : decode cX7_fails 6 = .ok (.iload_n 2, 1) := by decide +kernel
theorem dX7_fails_7 : decode cX7_fails 7 = .ok (.putfield 141, 3) := by decide +kernel
theorem dX7_fails_10 : decode cX7_fails 10 = .ok (.iconst 0, 1) := by decide +kernel
theorem dX7_fails_11 : decode cX7_fails 11 = .ok (.ireturn, 1) := by decide +kernel
theorem dX7_takes_0 : decode cX7_takes 0 = .ok (.aload_n 0, 1) := by decide +kernel
theorem dX7_takes_1 : decode cX7_takes 1 = .ok (.invokevirtual 136, 3) := by decide +kernel
theorem dX7_takes_4 : decode cX7_takes 4 = .ok (.iload_n 1, 1) := by decide +kernel
theorem dX7_takes_5 : decode cX7_takes 5 = .ok (.if_icmp .eq 13, 3) := by decide +kernel
theorem dX7_takes_8 : decode cX7_takes 8 = .ok (.aload_n 0, 1) := by decide +kernel
theorem dX7_takes_9 : decode cX7_takes 9 = .ok (.iconst 1, 1) := by decide +kernel
theorem dX7_takes_10 : decode cX7_takes 10 = .ok (.aload_n 0, 1) := by decide +kernel
theorem dX7_takes_11 : decode cX7_takes 11 = .ok (.getfield 133, 3) := by decide +kernel
theorem dX7_takes_14 : decode cX7_takes 14 = .ok (.invokevirtual 144, 3) := by decide +kernel
theorem dX7_takes_17 : decode cX7_takes 17 = .ok (.ireturn, 1) := by decide +kernel
theorem dX7_takes_18 : decode cX7_takes 18 = .ok (.aload_n 0, 1) := by decide +kernel
theorem dX7_takes_19 : decode cX7_takes 19 = .ok (.dup, 1) := by decide +kernel
theorem dX7_takes_20 : decode cX7_takes 20 = .ok (.getfield 133, 3) := by decide +kernel
theorem dX7_takes_23 : decode cX7_takes 23 = .ok (.iconst 1, 1) := by decide +kernel
theorem dX7_takes_24 : decode cX7_takes 24 = .ok (.iadd, 1) := by decide +kernel
theorem dX7_takes_25 : decode cX7_takes 25 = .ok (.putfield 133, 3) := by decide +kernel
theorem dX7_takes_28 : decode cX7_takes 28 = .ok (.iconst 1, 1) := by decide +kernel
theorem dX7_takes_29 : decode cX7_takes 29 = .ok (.ireturn, 1) := by decide +kernel
theorem dX7_readsNumber_0 : decode cX7_readsNumber 0 = .ok (.aload_n 0, 1) := by decide +kernel
theorem dX7_readsNumber_1 : decode cX7_readsNumber 1 = .ok (.getfield 133, 3) := by decide +kernel
theorem dX7_readsNumber_4 : decode cX7_readsNumber 4 = .ok (.istore 4, 2) := by decide +kernel
theorem dX7_readsNumber_6 : decode cX7_readsNumber 6 = .ok (.aload_n 0, 1) := by decide +kernel
theorem dX7_readsNumber_7 : decode cX7_readsNumber 7 = .ok (.iconst 0, 1) := by decide +kernel
theorem dX7_readsNumber_8 : decode cX7_readsNumber 8 = .ok (.putfield 147, 3) := by decide +kernel
theorem dX7_readsNumber_11 : decode cX7_readsNumber 11 = .ok (.aload_n 0, 1) := by decide +kernel
theorem dX7_readsNumber_12 : decode cX7_readsNumber 12 = .ok (.invokevirtual 150, 3) := by decide +kernel
theorem dX7_readsNumber_15 : decode cX7_readsNumber 15 = .ok (.ifCond .eq 46, 3) := by decide +kernel
theorem dX7_readsNumber_18 : decode cX7_readsNumber 18 = .ok (.aload_n 0, 1) := by decide +kernel
theorem dX7_readsNumber_19 : decode cX7_readsNumber 19 = .ok (.getfield 133, 3) := by decide +kernel
theorem dX7_readsNumber_22 : decode cX7_readsNumber 22 = .ok (.iload 4, 2) := by decide +kernel
theorem dX7_readsNumber_24 : decode cX7_readsNumber 24 = .ok (.iload_n 1, 1) := by decide +kernel
theorem dX7_readsNumber_25 : decode cX7_readsNumber 25 = .ok (.iadd, 1) := by decide +kernel
theorem dX7_readsNumber_26 : decode cX7_readsNumber 26 = .ok (.if_icmp .ge 35, 3) := by decide +kernel
theorem dX7_readsNumber_29 : decode cX7_readsNumber 29 = .ok (.aload_n 0, 1) := by decide +kernel
theorem dX7_readsNumber_30 : decode cX7_readsNumber 30 = .ok (.bipush 10, 2) := by decide +kernel
theorem dX7_readsNumber_32 : decode cX7_readsNumber 32 = .ok (.aload_n 0, 1) := by decide +kernel
theorem dX7_readsNumber_33 : decode cX7_readsNumber 33 = .ok (.getfield 147, 3) := by decide +kernel
theorem dX7_readsNumber_36 : decode cX7_readsNumber 36 = .ok (.imul, 1) := by decide +kernel
theorem dX7_readsNumber_37 : decode cX7_readsNumber 37 = .ok (.aload_n 0, 1) := by decide +kernel
theorem dX7_readsNumber_38 : decode cX7_readsNumber 38 = .ok (.invokevirtual 136, 3) := by decide +kernel
theorem dX7_readsNumber_41 : decode cX7_readsNumber 41 = .ok (.iadd, 1) := by decide +kernel
theorem dX7_readsNumber_42 : decode cX7_readsNumber 42 = .ok (.bipush 48, 2) := by decide +kernel
theorem dX7_readsNumber_44 : decode cX7_readsNumber 44 = .ok (.isub, 1) := by decide +kernel
theorem dX7_readsNumber_45 : decode cX7_readsNumber 45 = .ok (.putfield 147, 3) := by decide +kernel
theorem dX7_readsNumber_48 : decode cX7_readsNumber 48 = .ok (.aload_n 0, 1) := by decide +kernel
theorem dX7_readsNumber_49 : decode cX7_readsNumber 49 = .ok (.dup, 1) := by decide +kernel
theorem dX7_readsNumber_50 : decode cX7_readsNumber 50 = .ok (.getfield 133, 3) := by decide +kernel
theorem dX7_readsNumber_53 : decode cX7_readsNumber 53 = .ok (.iconst 1, 1) := by decide +kernel
theorem dX7_readsNumber_54 : decode cX7_readsNumber 54 = .ok (.iadd, 1) := by decide +kernel
theorem dX7_readsNumber_55 : decode cX7_readsNumber 55 = .ok (.putfield 133, 3) := by decide +kernel
theorem dX7_readsNumber_58 : decode cX7_readsNumber 58 = .ok (.goto (-47), 3) := by decide +kernel
theorem dX7_readsNumber_61 : decode cX7_readsNumber 61 = .ok (.aload_n 0, 1) := by decide +kernel
theorem dX7_readsNumber_62 : decode cX7_readsNumber 62 = .ok (.getfield 133, 3) := by decide +kernel
theorem dX7_readsNumber_65 : decode cX7_readsNumber 65 = .ok (.iload 4, 2) := by decide +kernel
theorem dX7_readsNumber_67 : decode cX7_readsNumber 67 = .ok (.if_icmp .eq 10, 3) := by decide +kernel
theorem dX7_readsNumber_70 : decode cX7_readsNumber 70 = .ok (.aload_n 0, 1) := by decide +kernel
theorem dX7_readsNumber_71 : decode cX7_readsNumber 71 = .ok (.invokevirtual 150, 3) := by decide +kernel
theorem dX7_readsNumber_74 : decode cX7_readsNumber 74 = .ok (.ifCond .eq 13, 3) := by decide +kernel
theorem dX7_readsNumber_77 : decode cX7_readsNumber 77 = .ok (.aload_n 0, 1) := by decide +kernel
theorem dX7_readsNumber_78 : decode cX7_readsNumber 78 = .ok (.iconst 1, 1) := by decide +kernel
theorem dX7_readsNumber_79 : decode cX7_readsNumber 79 = .ok (.aload_n 0, 1) := by decide +kernel
theorem dX7_readsNumber_80 : decode cX7_readsNumber 80 = .ok (.getfield 133, 3) := by decide +kernel
theorem dX7_readsNumber_83 : decode cX7_readsNumber 83 = .ok (.invokevirtual 144, 3) := by decide +kernel
theorem dX7_readsNumber_86 : decode cX7_readsNumber 86 = .ok (.ireturn, 1) := by decide +kernel
theorem dX7_readsNumber_87 : decode cX7_readsNumber 87 = .ok (.aload_n 0, 1) := by decide +kernel
theorem dX7_readsNumber_88 : decode cX7_readsNumber 88 = .ok (.getfield 147, 3) := by decide +kernel
theorem dX7_readsNumber_91 : decode cX7_readsNumber 91 = .ok (.iload_n 2, 1) := by decide +kernel
theorem dX7_readsNumber_92 : decode cX7_readsNumber 92 = .ok (.iload_n 3, 1) := by decide +kernel
theorem dX7_readsNumber_93 : decode cX7_readsNumber 93 = .ok (.invokestatic 43, 3) := by decide +kernel
theorem dX7_readsNumber_96 : decode cX7_readsNumber 96 = .ok (.ifCond .ne 13, 3) := by decide +kernel
theorem dX7_readsNumber_99 : decode cX7_readsNumber 99 = .ok (.aload_n 0, 1) := by decide +kernel
theorem dX7_readsNumber_100 : decode cX7_readsNumber 100 = .ok (.iconst 2, 1) := by decide +kernel
theorem dX7_readsNumber_101 : decode cX7_readsNumber 101 = .ok (.iload 4, 2) := by decide +kernel
theorem dX7_readsNumber_103 : decode cX7_readsNumber 103 = .ok (.invokevirtual 144, 3) := by decide +kernel
theorem dX7_readsNumber_106 : decode cX7_readsNumber 106 = .ok (.ifCond .eq 7, 3) := by decide +kernel
theorem dX7_readsNumber_109 : decode cX7_readsNumber 109 = .ok (.iconst 1, 1) := by decide +kernel
theorem dX7_readsNumber_110 : decode cX7_readsNumber 110 = .ok (.goto 4, 3) := by decide +kernel
theorem dX7_readsNumber_113 : decode cX7_readsNumber 113 = .ok (.iconst 0, 1) := by decide +kernel
theorem dX7_readsNumber_114 : decode cX7_readsNumber 114 = .ok (.ireturn, 1) := by decide +kernel
theorem dX7_readsInto_0 : decode cX7_readsInto 0 = .ok (.aload_n 0, 1) := by decide +kernel
theorem dX7_readsInto_1 : decode cX7_readsInto 1 = .ok (.iconst 2, 1) := by decide +kernel
theorem dX7_readsInto_2 : decode cX7_readsInto 2 = .ok (.iconst 1, 1) := by decide +kernel
theorem dX7_readsInto_3 : decode cX7_readsInto 3 = .ok (.iload_n 3, 1) := by decide +kernel
theorem dX7_readsInto_4 : decode cX7_readsInto 4 = .ok (.invokevirtual 154, 3) := by decide +kernel
theorem dX7_readsInto_7 : decode cX7_readsInto 7 = .ok (.istore 4, 2) := by decide +kernel
theorem dX7_readsInto_9 : decode cX7_readsInto 9 = .ok (.aload_n 0, 1) := by decide +kernel
theorem dX7_readsInto_10 : decode cX7_readsInto 10 = .ok (.iload_n 1, 1) := by decide +kernel
theorem dX7_readsInto_11 : decode cX7_readsInto 11 = .ok (.iload_n 2, 1) := by decide +kernel
theorem dX7_readsInto_12 : decode cX7_readsInto 12 = .ok (.aload_n 0, 1) := by decide +kernel
theorem dX7_readsInto_13 : decode cX7_readsInto 13 = .ok (.getfield 147, 3) := by decide +kernel
theorem dX7_readsInto_16 : decode cX7_readsInto 16 = .ok (.invokevirtual 63, 3) := by decide +kernel
theorem dX7_readsInto_19 : decode cX7_readsInto 19 = .ok (.iload 4, 2) := by decide +kernel
theorem dX7_readsInto_21 : decode cX7_readsInto 21 = .ok (.ireturn, 1) := by decide +kernel
theorem dX7_readsTray_0 : decode cX7_readsTray 0 = .ok (.aload_n 0, 1) := by decide +kernel
theorem dX7_readsTray_1 : decode cX7_readsTray 1 = .ok (.invokevirtual 39, 3) := by decide +kernel
theorem dX7_readsTray_4 : decode cX7_readsTray 4 = .ok (.istore_n 1, 1) := by decide +kernel
theorem dX7_readsTray_5 : decode cX7_readsTray 5 = .ok (.iload_n 1, 1) := by decide +kernel
theorem dX7_readsTray_6 : decode cX7_readsTray 6 = .ok (.bipush 12, 2) := by decide +kernel
theorem dX7_readsTray_8 : decode cX7_readsTray 8 = .ok (.if_icmp .ne 32, 3) := by decide +kernel
theorem dX7_readsTray_11 : decode cX7_readsTray 11 = .ok (.aload_n 0, 1) := by decide +kernel
theorem dX7_readsTray_12 : decode cX7_readsTray 12 = .ok (.invokevirtual 150, 3) := by decide +kernel
theorem dX7_readsTray_15 : decode cX7_readsTray 15 = .ok (.ifCond .eq 15, 3) := by decide +kernel
theorem dX7_readsTray_18 : decode cX7_readsTray 18 = .ok (.aload_n 0, 1) := by decide +kernel
theorem dX7_readsTray_19 : decode cX7_readsTray 19 = .ok (.iconst 3, 1) := by decide +kernel
theorem dX7_readsTray_20 : decode cX7_readsTray 20 = .ok (.aload_n 0, 1) := by decide +kernel
theorem dX7_readsTray_21 : decode cX7_readsTray 21 = .ok (.getfield 133, 3) := by decide +kernel
theorem dX7_readsTray_24 : decode cX7_readsTray 24 = .ok (.invokevirtual 144, 3) := by decide +kernel
theorem dX7_readsTray_27 : decode cX7_readsTray 27 = .ok (.goto 12, 3) := by decide +kernel
theorem dX7_readsTray_30 : decode cX7_readsTray 30 = .ok (.aload_n 0, 1) := by decide +kernel
theorem dX7_readsTray_31 : decode cX7_readsTray 31 = .ok (.iconst 1, 1) := by decide +kernel
theorem dX7_readsTray_32 : decode cX7_readsTray 32 = .ok (.aload_n 0, 1) := by decide +kernel
theorem dX7_readsTray_33 : decode cX7_readsTray 33 = .ok (.getfield 133, 3) := by decide +kernel
theorem dX7_readsTray_36 : decode cX7_readsTray 36 = .ok (.invokevirtual 144, 3) := by decide +kernel
theorem dX7_readsTray_39 : decode cX7_readsTray 39 = .ok (.ireturn, 1) := by decide +kernel
theorem dX7_readsTray_40 : decode cX7_readsTray 40 = .ok (.aload_n 0, 1) := by decide +kernel
theorem dX7_readsTray_41 : decode cX7_readsTray 41 = .ok (.iload_n 1, 1) := by decide +kernel
theorem dX7_readsTray_42 : decode cX7_readsTray 42 = .ok (.invokevirtual 67, 3) := by decide +kernel
theorem dX7_readsTray_45 : decode cX7_readsTray 45 = .ok (.aload_n 0, 1) := by decide +kernel
theorem dX7_readsTray_46 : decode cX7_readsTray 46 = .ok (.iload_n 1, 1) := by decide +kernel
theorem dX7_readsTray_47 : decode cX7_readsTray 47 = .ok (.iconst 3, 1) := by decide +kernel
theorem dX7_readsTray_48 : decode cX7_readsTray 48 = .ok (.iconst 0, 1) := by decide +kernel
theorem dX7_readsTray_49 : decode cX7_readsTray 49 = .ok (.invokevirtual 63, 3) := by decide +kernel
theorem dX7_readsTray_52 : decode cX7_readsTray 52 = .ok (.aload_n 0, 1) := by decide +kernel
theorem dX7_readsTray_53 : decode cX7_readsTray 53 = .ok (.iload_n 1, 1) := by decide +kernel
theorem dX7_readsTray_54 : decode cX7_readsTray 54 = .ok (.iconst 4, 1) := by decide +kernel
theorem dX7_readsTray_55 : decode cX7_readsTray 55 = .ok (.iconst 0, 1) := by decide +kernel
theorem dX7_readsTray_56 : decode cX7_readsTray 56 = .ok (.invokevirtual 63, 3) := by decide +kernel
theorem dX7_readsTray_59 : decode cX7_readsTray 59 = .ok (.aload_n 0, 1) := by decide +kernel
theorem dX7_readsTray_60 : decode cX7_readsTray 60 = .ok (.iload_n 1, 1) := by decide +kernel
theorem dX7_readsTray_61 : decode cX7_readsTray 61 = .ok (.iconst 0, 1) := by decide +kernel
theorem dX7_readsTray_62 : decode cX7_readsTray 62 = .ok (.bipush 10, 2) := by decide +kernel
theorem dX7_readsTray_64 : decode cX7_readsTray 64 = .ok (.invokevirtual 157, 3) := by decide +kernel
theorem dX7_readsTray_67 : decode cX7_readsTray 67 = .ok (.ifCond .eq 43, 3) := by decide +kernel
theorem dX7_readsTray_70 : decode cX7_readsTray 70 = .ok (.aload_n 0, 1) := by decide +kernel
theorem dX7_readsTray_71 : decode cX7_readsTray 71 = .ok (.bipush 120, 2) := by decide +kernel
theorem dX7_readsTray_73 : decode cX7_readsTray 73 = .ok (.invokevirtual 160, 3) := by decide +kernel
theorem dX7_readsTray_76 : decode cX7_readsTray 76 = .ok (.ifCond .eq 34, 3) := by decide +kernel
theorem dX7_readsTray_79 : decode cX7_readsTray 79 = .ok (.aload_n 0, 1) := by decide +kernel
theorem dX7_readsTray_80 : decode cX7_readsTray 80 = .ok (.iload_n 1, 1) := by decide +kernel
theorem dX7_readsTray_81 : decode cX7_readsTray 81 = .ok (.iconst 1, 1) := by decide +kernel
theorem dX7_readsTray_82 : decode cX7_readsTray 82 = .ok (.bipush 10, 2) := by decide +kernel
theorem dX7_readsTray_84 : decode cX7_readsTray 84 = .ok (.invokevirtual 157, 3) := by decide +kernel
theorem dX7_readsTray_87 : decode cX7_readsTray 87 = .ok (.ifCond .eq 23, 3) := by decide +kernel
theorem dX7_readsTray_90 : decode cX7_readsTray 90 = .ok (.aload_n 0, 1) := by decide +kernel
theorem dX7_readsTray_91 : decode cX7_readsTray 91 = .ok (.bipush 120, 2) := by decide +kernel
theorem dX7_readsTray_93 : decode cX7_readsTray 93 = .ok (.invokevirtual 160, 3) := by decide +kernel
theorem dX7_readsTray_96 : decode cX7_readsTray 96 = .ok (.ifCond .eq 14, 3) := by decide +kernel
theorem dX7_readsTray_99 : decode cX7_readsTray 99 = .ok (.aload_n 0, 1) := by decide +kernel
theorem dX7_readsTray_100 : decode cX7_readsTray 100 = .ok (.iload_n 1, 1) := by decide +kernel
theorem dX7_readsTray_101 : decode cX7_readsTray 101 = .ok (.iconst 2, 1) := by decide +kernel
theorem dX7_readsTray_102 : decode cX7_readsTray 102 = .ok (.bipush 9, 2) := by decide +kernel
theorem dX7_readsTray_104 : decode cX7_readsTray 104 = .ok (.invokevirtual 157, 3) := by decide +kernel
theorem dX7_readsTray_107 : decode cX7_readsTray 107 = .ok (.ifCond .ne 5, 3) := by decide +kernel
theorem dX7_readsTray_110 : decode cX7_readsTray 110 = .ok (.iconst 0, 1) := by decide +kernel
theorem dX7_readsTray_111 : decode cX7_readsTray 111 = .ok (.ireturn, 1) := by decide +kernel
theorem dX7_readsTray_112 : decode cX7_readsTray 112 = .ok (.aload_n 0, 1) := by decide +kernel
theorem dX7_readsTray_113 : decode cX7_readsTray 113 = .ok (.invokevirtual 136, 3) := by decide +kernel
theorem dX7_readsTray_116 : decode cX7_readsTray 116 = .ok (.bipush 108, 2) := by decide +kernel
theorem dX7_readsTray_118 : decode cX7_readsTray 118 = .ok (.if_icmp .ne 20, 3) := by decide +kernel
theorem dX7_readsTray_121 : decode cX7_readsTray 121 = .ok (.aload_n 0, 1) := by decide +kernel
theorem dX7_readsTray_122 : decode cX7_readsTray 122 = .ok (.iload_n 1, 1) := by decide +kernel
theorem dX7_readsTray_123 : decode cX7_readsTray 123 = .ok (.iconst 4, 1) := by decide +kernel
theorem dX7_readsTray_124 : decode cX7_readsTray 124 = .ok (.iconst 1, 1) := by decide +kernel
theorem dX7_readsTray_125 : decode cX7_readsTray 125 = .ok (.invokevirtual 63, 3) := by decide +kernel
theorem dX7_readsTray_128 : decode cX7_readsTray 128 = .ok (.aload_n 0, 1) := by decide +kernel
theorem dX7_readsTray_129 : decode cX7_readsTray 129 = .ok (.dup, 1) := by decide +kernel
theorem dX7_readsTray_130 : decode cX7_readsTray 130 = .ok (.getfield 133, 3) := by decide +kernel
theorem dX7_readsTray_133 : decode cX7_readsTray 133 = .ok (.iconst 1, 1) := by decide +kernel
theorem dX7_readsTray_134 : decode cX7_readsTray 134 = .ok (.iadd, 1) := by decide +kernel
theorem dX7_readsTray_135 : decode cX7_readsTray 135 = .ok (.putfield 133, 3) := by decide +kernel
theorem dX7_readsTray_138 : decode cX7_readsTray 138 = .ok (.aload_n 0, 1) := by decide +kernel
theorem dX7_readsTray_139 : decode cX7_readsTray 139 = .ok (.invokevirtual 136, 3) := by decide +kernel
theorem dX7_readsTray_142 : decode cX7_readsTray 142 = .ok (.bipush 64, 2) := by decide +kernel
theorem dX7_readsTray_144 : decode cX7_readsTray 144 = .ok (.if_icmp .ne 36, 3) := by decide +kernel
theorem dX7_readsTray_147 : decode cX7_readsTray 147 = .ok (.aload_n 0, 1) := by decide +kernel
theorem dX7_readsTray_148 : decode cX7_readsTray 148 = .ok (.dup, 1) := by decide +kernel
theorem dX7_readsTray_149 : decode cX7_readsTray 149 = .ok (.getfield 133, 3) := by decide +kernel
theorem dX7_readsTray_152 : decode cX7_readsTray 152 = .ok (.iconst 1, 1) := by decide +kernel
theorem dX7_readsTray_153 : decode cX7_readsTray 153 = .ok (.iadd, 1) := by decide +kernel
theorem dX7_readsTray_154 : decode cX7_readsTray 154 = .ok (.putfield 133, 3) := by decide +kernel
theorem dX7_readsTray_157 : decode cX7_readsTray 157 = .ok (.aload_n 0, 1) := by decide +kernel
theorem dX7_readsTray_158 : decode cX7_readsTray 158 = .ok (.iconst 1, 1) := by decide +kernel
theorem dX7_readsTray_159 : decode cX7_readsTray 159 = .ok (.iconst 0, 1) := by decide +kernel
theorem dX7_readsTray_160 : decode cX7_readsTray 160 = .ok (.bipush 9, 2) := by decide +kernel
theorem dX7_readsTray_162 : decode cX7_readsTray 162 = .ok (.invokevirtual 154, 3) := by decide +kernel
theorem dX7_readsTray_165 : decode cX7_readsTray 165 = .ok (.ifCond .ne 5, 3) := by decide +kernel
theorem dX7_readsTray_168 : decode cX7_readsTray 168 = .ok (.iconst 0, 1) := by decide +kernel
theorem dX7_readsTray_169 : decode cX7_readsTray 169 = .ok (.ireturn, 1) := by decide +kernel
theorem dX7_readsTray_170 : decode cX7_readsTray 170 = .ok (.aload_n 0, 1) := by decide +kernel
theorem dX7_readsTray_171 : decode cX7_readsTray 171 = .ok (.iload_n 1, 1) := by decide +kernel
theorem dX7_readsTray_172 : decode cX7_readsTray 172 = .ok (.iconst 3, 1) := by decide +kernel
theorem dX7_readsTray_173 : decode cX7_readsTray 173 = .ok (.aload_n 0, 1) := by decide +kernel
theorem dX7_readsTray_174 : decode cX7_readsTray 174 = .ok (.getfield 147, 3) := by decide +kernel
theorem dX7_readsTray_177 : decode cX7_readsTray 177 = .ok (.invokevirtual 63, 3) := by decide +kernel
theorem dX7_readsTray_180 : decode cX7_readsTray 180 = .ok (.aload_n 0, 1) := by decide +kernel
theorem dX7_readsTray_181 : decode cX7_readsTray 181 = .ok (.getfield 7, 3) := by decide +kernel
theorem dX7_readsTray_184 : decode cX7_readsTray 184 = .ok (.iconst 4, 1) := by decide +kernel
theorem dX7_readsTray_185 : decode cX7_readsTray 185 = .ok (.dup2, 1) := by decide +kernel
theorem dX7_readsTray_186 : decode cX7_readsTray 186 = .ok (.iaload, 1) := by decide +kernel
theorem dX7_readsTray_187 : decode cX7_readsTray 187 = .ok (.iconst 1, 1) := by decide +kernel
theorem dX7_readsTray_188 : decode cX7_readsTray 188 = .ok (.iadd, 1) := by decide +kernel
theorem dX7_readsTray_189 : decode cX7_readsTray 189 = .ok (.iastore, 1) := by decide +kernel
theorem dX7_readsTray_190 : decode cX7_readsTray 190 = .ok (.aload_n 0, 1) := by decide +kernel
theorem dX7_readsTray_191 : decode cX7_readsTray 191 = .ok (.bipush 59, 2) := by decide +kernel
theorem dX7_readsTray_193 : decode cX7_readsTray 193 = .ok (.invokevirtual 160, 3) := by decide +kernel
theorem dX7_readsTray_196 : decode cX7_readsTray 196 = .ok (.ireturn, 1) := by decide +kernel
theorem dX7_load_0 : decode cX7_load 0 = .ok (.aload_n 0, 1) := by decide +kernel
theorem dX7_load_1 : decode cX7_load 1 = .ok (.iconst 0, 1) := by decide +kernel
theorem dX7_load_2 : decode cX7_load 2 = .ok (.bipush 9, 2) := by decide +kernel
theorem dX7_load_4 : decode cX7_load 4 = .ok (.invokevirtual 35, 3) := by decide +kernel
theorem dX7_load_7 : decode cX7_load 7 = .ok (.aload_n 0, 1) := by decide +kernel
theorem dX7_load_8 : decode cX7_load 8 = .ok (.iconst 0, 1) := by decide +kernel
theorem dX7_load_9 : decode cX7_load 9 = .ok (.putfield 139, 3) := by decide +kernel
theorem dX7_load_12 : decode cX7_load 12 = .ok (.aload_n 0, 1) := by decide +kernel
theorem dX7_load_13 : decode cX7_load 13 = .ok (.iconst 0, 1) := by decide +kernel
theorem dX7_load_14 : decode cX7_load 14 = .ok (.putfield 133, 3) := by decide +kernel
theorem dX7_load_17 : decode cX7_load 17 = .ok (.aload_n 0, 1) := by decide +kernel
theorem dX7_load_18 : decode cX7_load 18 = .ok (.getfield 7, 3) := by decide +kernel
theorem dX7_load_21 : decode cX7_load 21 = .ok (.iconst 4, 1) := by decide +kernel
theorem dX7_load_22 : decode cX7_load 22 = .ok (.iconst 0, 1) := by decide +kernel
theorem dX7_load_23 : decode cX7_load 23 = .ok (.iastore, 1) := by decide +kernel
theorem dX7_load_24 : decode cX7_load 24 = .ok (.iconst 1, 1) := by decide +kernel
theorem dX7_load_25 : decode cX7_load 25 = .ok (.istore_n 1, 1) := by decide +kernel
theorem dX7_load_26 : decode cX7_load 26 = .ok (.iload_n 1, 1) := by decide +kernel
theorem dX7_load_27 : decode cX7_load 27 = .ok (.ifCond .eq 22, 3) := by decide +kernel
theorem dX7_load_30 : decode cX7_load 30 = .ok (.aload_n 0, 1) := by decide +kernel
theorem dX7_load_31 : decode cX7_load 31 = .ok (.getfield 133, 3) := by decide +kernel
theorem dX7_load_34 : decode cX7_load 34 = .ok (.aload_n 0, 1) := by decide +kernel
theorem dX7_load_35 : decode cX7_load 35 = .ok (.getfield 130, 3) := by decide +kernel
theorem dX7_load_38 : decode cX7_load 38 = .ok (.if_icmp .ge 11, 3) := by decide +kernel
theorem dX7_load_41 : decode cX7_load 41 = .ok (.aload_n 0, 1) := by decide +kernel
theorem dX7_load_42 : decode cX7_load 42 = .ok (.invokevirtual 163, 3) := by decide +kernel
theorem dX7_load_45 : decode cX7_load 45 = .ok (.istore_n 1, 1) := by decide +kernel
theorem dX7_load_46 : decode cX7_load 46 = .ok (.goto (-20), 3) := by decide +kernel
theorem dX7_load_49 : decode cX7_load 49 = .ok (.iload_n 1, 1) := by decide +kernel
theorem dX7_load_50 : decode cX7_load 50 = .ok (.ifCond .ne 18, 3) := by decide +kernel
theorem dX7_load_53 : decode cX7_load 53 = .ok (.aload_n 0, 1) := by decide +kernel
theorem dX7_load_54 : decode cX7_load 54 = .ok (.bipush 9, 2) := by decide +kernel
theorem dX7_load_56 : decode cX7_load 56 = .ok (.iconst 0, 1) := by decide +kernel
theorem dX7_load_57 : decode cX7_load 57 = .ok (.invokevirtual 35, 3) := by decide +kernel
theorem dX7_load_60 : decode cX7_load 60 = .ok (.bipush (-10), 2) := by decide +kernel
theorem dX7_load_62 : decode cX7_load 62 = .ok (.aload_n 0, 1) := by decide +kernel
theorem dX7_load_63 : decode cX7_load 63 = .ok (.getfield 141, 3) := by decide +kernel
theorem dX7_load_66 : decode cX7_load 66 = .ok (.isub, 1) := by decide +kernel
theorem dX7_load_67 : decode cX7_load 67 = .ok (.ireturn, 1) := by decide +kernel
theorem dX7_load_68 : decode cX7_load 68 = .ok (.aload_n 0, 1) := by decide +kernel
theorem dX7_load_69 : decode cX7_load 69 = .ok (.bipush 9, 2) := by decide +kernel
theorem dX7_load_71 : decode cX7_load 71 = .ok (.invokevirtual 166, 3) := by decide +kernel
theorem dX7_load_74 : decode cX7_load 74 = .ok (.aload_n 0, 1) := by decide +kernel
theorem dX7_load_75 : decode cX7_load 75 = .ok (.invokevirtual 39, 3) := by decide +kernel
theorem dX7_load_78 : decode cX7_load 78 = .ok (.ireturn, 1) := by decide +kernel
theorem dX7_recordsKept_0 : decode cX7_recordsKept 0 = .ok (.iconst 0, 1) := by decide +kernel
theorem dX7_recordsKept_1 : decode cX7_recordsKept 1 = .ok (.istore_n 2, 1) := by decide +kernel
theorem dX7_recordsKept_2 : decode cX7_recordsKept 2 = .ok (.iload_n 2, 1) := by decide +kernel
theorem dX7_recordsKept_3 : decode cX7_recordsKept 3 = .ok (.bipush 125, 2) := by decide +kernel
theorem dX7_recordsKept_5 : decode cX7_recordsKept 5 = .ok (.if_icmp .ge 45, 3) := by decide +kernel
theorem dX7_recordsKept_8 : decode cX7_recordsKept 8 = .ok (.aload_n 0, 1) := by decide +kernel
theorem dX7_recordsKept_9 : decode cX7_recordsKept 9 = .ok (.getfield 7, 3) := by decide +kernel
theorem dX7_recordsKept_12 : decode cX7_recordsKept 12 = .ok (.iload_n 2, 1) := by decide +kernel
theorem dX7_recordsKept_13 : decode cX7_recordsKept 13 = .ok (.iaload, 1) := by decide +kernel
theorem dX7_recordsKept_14 : decode cX7_recordsKept 14 = .ok (.istore_n 3, 1) := by decide +kernel
theorem dX7_recordsKept_15 : decode cX7_recordsKept 15 = .ok (.aload_n 0, 1) := by decide +kernel
theorem dX7_recordsKept_16 : decode cX7_recordsKept 16 = .ok (.getfield 7, 3) := by decide +kernel
theorem dX7_recordsKept_19 : decode cX7_recordsKept 19 = .ok (.iload_n 2, 1) := by decide +kernel
theorem dX7_recordsKept_20 : decode cX7_recordsKept 20 = .ok (.aload_n 0, 1) := by decide +kernel
theorem dX7_recordsKept_21 : decode cX7_recordsKept 21 = .ok (.getfield 7, 3) := by decide +kernel
theorem dX7_recordsKept_24 : decode cX7_recordsKept 24 = .ok (.bipush 125, 2) := by decide +kernel
theorem dX7_recordsKept_26 : decode cX7_recordsKept 26 = .ok (.iload_n 1, 1) := by decide +kernel
theorem dX7_recordsKept_27 : decode cX7_recordsKept 27 = .ok (.imul, 1) := by decide +kernel
theorem dX7_recordsKept_28 : decode cX7_recordsKept 28 = .ok (.iload_n 2, 1) := by decide +kernel
theorem dX7_recordsKept_29 : decode cX7_recordsKept 29 = .ok (.iadd, 1) := by decide +kernel
theorem dX7_recordsKept_30 : decode cX7_recordsKept 30 = .ok (.iaload, 1) := by decide +kernel
theorem dX7_recordsKept_31 : decode cX7_recordsKept 31 = .ok (.iastore, 1) := by decide +kernel
theorem dX7_recordsKept_32 : decode cX7_recordsKept 32 = .ok (.aload_n 0, 1) := by decide +kernel
theorem dX7_recordsKept_33 : decode cX7_recordsKept 33 = .ok (.getfield 7, 3) := by decide +kernel
theorem dX7_recordsKept_36 : decode cX7_recordsKept 36 = .ok (.bipush 125, 2) := by decide +kernel
theorem dX7_recordsKept_38 : decode cX7_recordsKept 38 = .ok (.iload_n 1, 1) := by decide +kernel
theorem dX7_recordsKept_39 : decode cX7_recordsKept 39 = .ok (.imul, 1) := by decide +kernel
theorem dX7_recordsKept_40 : decode cX7_recordsKept 40 = .ok (.iload_n 2, 1) := by decide +kernel
theorem dX7_recordsKept_41 : decode cX7_recordsKept 41 = .ok (.iadd, 1) := by decide +kernel
theorem dX7_recordsKept_42 : decode cX7_recordsKept 42 = .ok (.iload_n 3, 1) := by decide +kernel
theorem dX7_recordsKept_43 : decode cX7_recordsKept 43 = .ok (.iastore, 1) := by decide +kernel
theorem dX7_recordsKept_44 : decode cX7_recordsKept 44 = .ok (.iinc 2 1, 3) := by decide +kernel
theorem dX7_recordsKept_47 : decode cX7_recordsKept 47 = .ok (.goto (-45), 3) := by decide +kernel
theorem dX7_recordsKept_50 : decode cX7_recordsKept 50 = .ok (.aload_n 0, 1) := by decide +kernel
theorem dX7_recordsKept_51 : decode cX7_recordsKept 51 = .ok (.invokevirtual 104, 3) := by decide +kernel
theorem dX7_recordsKept_54 : decode cX7_recordsKept 54 = .ok (.aload_n 0, 1) := by decide +kernel
theorem dX7_recordsKept_55 : decode cX7_recordsKept 55 = .ok (.iload_n 1, 1) := by decide +kernel
theorem dX7_recordsKept_56 : decode cX7_recordsKept 56 = .ok (.iconst 0, 1) := by decide +kernel
theorem dX7_recordsKept_57 : decode cX7_recordsKept 57 = .ok (.invokevirtual 35, 3) := by decide +kernel
theorem dX7_recordsKept_60 : decode cX7_recordsKept 60 = .ok (.return_, 1) := by decide +kernel
theorem dX7_faultKind_0 : decode cX7_faultKind 0 = .ok (.aload_n 0, 1) := by decide +kernel
theorem dX7_faultKind_1 : decode cX7_faultKind 1 = .ok (.getfield 139, 3) := by decide +kernel
theorem dX7_faultKind_4 : decode cX7_faultKind 4 = .ok (.ireturn, 1) := by decide +kernel
theorem dX7_setBox_0 : decode cX7_setBox 0 = .ok (.iload_n 1, 1) := by decide +kernel
theorem dX7_setBox_1 : decode cX7_setBox 1 = .ok (.iconst 2, 1) := by decide +kernel
theorem dX7_setBox_2 : decode cX7_setBox 2 = .ok (.bipush 10, 2) := by decide +kernel
theorem dX7_setBox_4 : decode cX7_setBox 4 = .ok (.invokestatic 43, 3) := by decide +kernel
theorem dX7_setBox_7 : decode cX7_setBox 7 = .ok (.ifCond .eq 23, 3) := by decide +kernel
theorem dX7_setBox_10 : decode cX7_setBox 10 = .ok (.iload_n 2, 1) := by decide +kernel
theorem dX7_setBox_11 : decode cX7_setBox 11 = .ok (.iconst 2, 1) := by decide +kernel
theorem dX7_setBox_12 : decode cX7_setBox 12 = .ok (.bipush 10, 2) := by decide +kernel
theorem dX7_setBox_14 : decode cX7_setBox 14 = .ok (.invokestatic 43, 3) := by decide +kernel
theorem dX7_setBox_17 : decode cX7_setBox 17 = .ok (.ifCond .eq 13, 3) := by decide +kernel
theorem dX7_setBox_20 : decode cX7_setBox 20 = .ok (.iload_n 3, 1) := by decide +kernel
theorem dX7_setBox_21 : decode cX7_setBox 21 = .ok (.iconst 1, 1) := by decide +kernel
theorem dX7_setBox_22 : decode cX7_setBox 22 = .ok (.bipush 30, 2) := by decide +kernel
theorem dX7_setBox_24 : decode cX7_setBox 24 = .ok (.invokestatic 43, 3) := by decide +kernel
theorem dX7_setBox_27 : decode cX7_setBox 27 = .ok (.ifCond .ne 5, 3) := by decide +kernel
theorem dX7_setBox_30 : decode cX7_setBox 30 = .ok (.iconst (-1), 1) := by decide +kernel
theorem dX7_setBox_31 : decode cX7_setBox 31 = .ok (.ireturn, 1) := by decide +kernel
theorem dX7_setBox_32 : decode cX7_setBox 32 = .ok (.aload_n 0, 1) := by decide +kernel
theorem dX7_setBox_33 : decode cX7_setBox 33 = .ok (.invokevirtual 104, 3) := by decide +kernel
theorem dX7_setBox_36 : decode cX7_setBox 36 = .ok (.aload_n 0, 1) := by decide +kernel
theorem dX7_setBox_37 : decode cX7_setBox 37 = .ok (.invokevirtual 169, 3) := by decide +kernel
theorem dX7_setBox_40 : decode cX7_setBox 40 = .ok (.istore 4, 2) := by decide +kernel
theorem dX7_setBox_42 : decode cX7_setBox 42 = .ok (.aload_n 0, 1) := by decide +kernel
theorem dX7_setBox_43 : decode cX7_setBox 43 = .ok (.invokevirtual 172, 3) := by decide +kernel
theorem dX7_setBox_46 : decode cX7_setBox 46 = .ok (.aload_n 0, 1) := by decide +kernel
theorem dX7_setBox_47 : decode cX7_setBox 47 = .ok (.getfield 7, 3) := by decide +kernel
theorem dX7_setBox_50 : decode cX7_setBox 50 = .ok (.iconst 0, 1) := by decide +kernel
theorem dX7_setBox_51 : decode cX7_setBox 51 = .ok (.iload_n 1, 1) := by decide +kernel
theorem dX7_setBox_52 : decode cX7_setBox 52 = .ok (.iastore, 1) := by decide +kernel
theorem dX7_setBox_53 : decode cX7_setBox 53 = .ok (.aload_n 0, 1) := by decide +kernel
theorem dX7_setBox_54 : decode cX7_setBox 54 = .ok (.getfield 7, 3) := by decide +kernel
theorem dX7_setBox_57 : decode cX7_setBox 57 = .ok (.iconst 1, 1) := by decide +kernel
theorem dX7_setBox_58 : decode cX7_setBox 58 = .ok (.iload_n 2, 1) := by decide +kernel
theorem dX7_setBox_59 : decode cX7_setBox 59 = .ok (.iastore, 1) := by decide +kernel
theorem dX7_setBox_60 : decode cX7_setBox 60 = .ok (.aload_n 0, 1) := by decide +kernel
theorem dX7_setBox_61 : decode cX7_setBox 61 = .ok (.getfield 7, 3) := by decide +kernel
theorem dX7_setBox_64 : decode cX7_setBox 64 = .ok (.iconst 2, 1) := by decide +kernel
theorem dX7_setBox_65 : decode cX7_setBox 65 = .ok (.iload_n 3, 1) := by decide +kernel
theorem dX7_setBox_66 : decode cX7_setBox 66 = .ok (.iastore, 1) := by decide +kernel
theorem dX7_setBox_67 : decode cX7_setBox 67 = .ok (.iload 4, 2) := by decide +kernel
theorem dX7_setBox_69 : decode cX7_setBox 69 = .ok (.ireturn, 1) := by decide +kernel
theorem dX7_setShare_0 : decode cX7_setShare 0 = .ok (.iload_n 1, 1) := by decide +kernel
theorem dX7_setShare_1 : decode cX7_setShare 1 = .ok (.iconst 0, 1) := by decide +kernel
theorem dX7_setShare_2 : decode cX7_setShare 2 = .ok (.bipush 100, 2) := by decide +kernel
theorem dX7_setShare_4 : decode cX7_setShare 4 = .ok (.invokestatic 43, 3) := by decide +kernel
theorem dX7_setShare_7 : decode cX7_setShare 7 = .ok (.ifCond .ne 5, 3) := by decide +kernel
theorem dX7_setShare_10 : decode cX7_setShare 10 = .ok (.iconst (-1), 1) := by decide +kernel
theorem dX7_setShare_11 : decode cX7_setShare 11 = .ok (.ireturn, 1) := by decide +kernel
theorem dX7_setShare_12 : decode cX7_setShare 12 = .ok (.aload_n 0, 1) := by decide +kernel
theorem dX7_setShare_13 : decode cX7_setShare 13 = .ok (.invokevirtual 104, 3) := by decide +kernel
theorem dX7_setShare_16 : decode cX7_setShare 16 = .ok (.aload_n 0, 1) := by decide +kernel
theorem dX7_setShare_17 : decode cX7_setShare 17 = .ok (.getfield 7, 3) := by decide +kernel
theorem dX7_setShare_20 : decode cX7_setShare 20 = .ok (.iconst 3, 1) := by decide +kernel
theorem dX7_setShare_21 : decode cX7_setShare 21 = .ok (.iaload, 1) := by decide +kernel
theorem dX7_setShare_22 : decode cX7_setShare 22 = .ok (.istore_n 2, 1) := by decide +kernel
theorem dX7_setShare_23 : decode cX7_setShare 23 = .ok (.aload_n 0, 1) := by decide +kernel
theorem dX7_setShare_24 : decode cX7_setShare 24 = .ok (.getfield 7, 3) := by decide +kernel
theorem dX7_setShare_27 : decode cX7_setShare 27 = .ok (.iconst 3, 1) := by decide +kernel
theorem dX7_setShare_28 : decode cX7_setShare 28 = .ok (.iload_n 1, 1) := by decide +kernel
theorem dX7_setShare_29 : decode cX7_setShare 29 = .ok (.iastore, 1) := by decide +kernel
theorem dX7_setShare_30 : decode cX7_setShare 30 = .ok (.iload_n 2, 1) := by decide +kernel
theorem dX7_setShare_31 : decode cX7_setShare 31 = .ok (.ireturn, 1) := by decide +kernel
theorem dX7_add_0 : decode cX7_add 0 = .ok (.iload_n 1, 1) := by decide +kernel
theorem dX7_add_1 : decode cX7_add 1 = .ok (.iconst 1, 1) := by decide +kernel
theorem dX7_add_2 : decode cX7_add 2 = .ok (.bipush 10, 2) := by decide +kernel
theorem dX7_add_4 : decode cX7_add 4 = .ok (.invokestatic 43, 3) := by decide +kernel
theorem dX7_add_7 : decode cX7_add 7 = .ok (.ifCond .eq 34, 3) := by decide +kernel
theorem dX7_add_10 : decode cX7_add 10 = .ok (.iload_n 2, 1) := by decide +kernel
theorem dX7_add_11 : decode cX7_add 11 = .ok (.iconst 1, 1) := by decide +kernel
theorem dX7_add_12 : decode cX7_add 12 = .ok (.bipush 10, 2) := by decide +kernel
theorem dX7_add_14 : decode cX7_add 14 = .ok (.invokestatic 43, 3) := by decide +kernel
theorem dX7_add_17 : decode cX7_add 17 = .ok (.ifCond .eq 24, 3) := by decide +kernel
theorem dX7_add_20 : decode cX7_add 20 = .ok (.iload_n 3, 1) := by decide +kernel
theorem dX7_add_21 : decode cX7_add 21 = .ok (.iconst 1, 1) := by decide +kernel
theorem dX7_add_22 : decode cX7_add 22 = .ok (.bipush 9, 2) := by decide +kernel
theorem dX7_add_24 : decode cX7_add 24 = .ok (.invokestatic 43, 3) := by decide +kernel
theorem dX7_add_27 : decode cX7_add 27 = .ok (.ifCond .eq 14, 3) := by decide +kernel
theorem dX7_add_30 : decode cX7_add 30 = .ok (.iload 4, 2) := by decide +kernel
theorem dX7_add_32 : decode cX7_add 32 = .ok (.iconst 0, 1) := by decide +kernel
theorem dX7_add_33 : decode cX7_add 33 = .ok (.bipush 9, 2) := by decide +kernel
theorem dX7_add_35 : decode cX7_add 35 = .ok (.invokestatic 43, 3) := by decide +kernel
theorem dX7_add_38 : decode cX7_add 38 = .ok (.ifCond .ne 5, 3) := by decide +kernel
theorem dX7_add_41 : decode cX7_add 41 = .ok (.iconst (-1), 1) := by decide +kernel
theorem dX7_add_42 : decode cX7_add 42 = .ok (.ireturn, 1) := by decide +kernel
theorem dX7_add_43 : decode cX7_add 43 = .ok (.aload_n 0, 1) := by decide +kernel
theorem dX7_add_44 : decode cX7_add 44 = .ok (.invokevirtual 39, 3) := by decide +kernel
theorem dX7_add_47 : decode cX7_add 47 = .ok (.bipush 12, 2) := by decide +kernel
theorem dX7_add_49 : decode cX7_add 49 = .ok (.if_icmp .ne 6, 3) := by decide +kernel
theorem dX7_add_52 : decode cX7_add 52 = .ok (.bipush (-3), 2) := by decide +kernel
theorem dX7_add_54 : decode cX7_add 54 = .ok (.ireturn, 1) := by decide +kernel
theorem dX7_add_55 : decode cX7_add 55 = .ok (.aload_n 0, 1) := by decide +kernel
theorem dX7_add_56 : decode cX7_add 56 = .ok (.invokevirtual 104, 3) := by decide +kernel
theorem dX7_add_59 : decode cX7_add 59 = .ok (.aload_n 0, 1) := by decide +kernel
theorem dX7_add_60 : decode cX7_add 60 = .ok (.invokevirtual 39, 3) := by decide +kernel
theorem dX7_add_63 : decode cX7_add 63 = .ok (.istore 5, 2) := by decide +kernel
theorem dX7_add_65 : decode cX7_add 65 = .ok (.aload_n 0, 1) := by decide +kernel
theorem dX7_add_66 : decode cX7_add 66 = .ok (.iload 5, 2) := by decide +kernel
theorem dX7_add_68 : decode cX7_add 68 = .ok (.invokevirtual 67, 3) := by decide +kernel
theorem dX7_add_71 : decode cX7_add 71 = .ok (.aload_n 0, 1) := by decide +kernel
theorem dX7_add_72 : decode cX7_add 72 = .ok (.iload 5, 2) := by decide +kernel
theorem dX7_add_74 : decode cX7_add 74 = .ok (.iconst 0, 1) := by decide +kernel
theorem dX7_add_75 : decode cX7_add 75 = .ok (.iload_n 1, 1) := by decide +kernel
theorem dX7_add_76 : decode cX7_add 76 = .ok (.invokevirtual 63, 3) := by decide +kernel
theorem dX7_add_79 : decode cX7_add 79 = .ok (.aload_n 0, 1) := by decide +kernel
theorem dX7_add_80 : decode cX7_add 80 = .ok (.iload 5, 2) := by decide +kernel
theorem dX7_add_82 : decode cX7_add 82 = .ok (.iconst 1, 1) := by decide +kernel
theorem dX7_add_83 : decode cX7_add 83 = .ok (.iload_n 2, 1) := by decide +kernel
theorem dX7_add_84 : decode cX7_add 84 = .ok (.invokevirtual 63, 3) := by decide +kernel
theorem dX7_add_87 : decode cX7_add 87 = .ok (.aload_n 0, 1) := by decide +kernel
theorem dX7_add_88 : decode cX7_add 88 = .ok (.iload 5, 2) := by decide +kernel
theorem dX7_add_90 : decode cX7_add 90 = .ok (.iconst 2, 1) := by decide +kernel
theorem dX7_add_91 : decode cX7_add 91 = .ok (.iload_n 3, 1) := by decide +kernel
theorem dX7_add_92 : decode cX7_add 92 = .ok (.invokevirtual 63, 3) := by decide +kernel
theorem dX7_add_95 : decode cX7_add 95 = .ok (.aload_n 0, 1) := by decide +kernel
theorem dX7_add_96 : decode cX7_add 96 = .ok (.iload 5, 2) := by decide +kernel
theorem dX7_add_98 : decode cX7_add 98 = .ok (.iconst 3, 1) := by decide +kernel
theorem dX7_add_99 : decode cX7_add 99 = .ok (.iload 4, 2) := by decide +kernel
theorem dX7_add_101 : decode cX7_add 101 = .ok (.invokevirtual 63, 3) := by decide +kernel
theorem dX7_add_104 : decode cX7_add 104 = .ok (.aload_n 0, 1) := by decide +kernel
theorem dX7_add_105 : decode cX7_add 105 = .ok (.iload 5, 2) := by decide +kernel
theorem dX7_add_107 : decode cX7_add 107 = .ok (.iconst 4, 1) := by decide +kernel
theorem dX7_add_108 : decode cX7_add 108 = .ok (.iconst 0, 1) := by decide +kernel
theorem dX7_add_109 : decode cX7_add 109 = .ok (.invokevirtual 63, 3) := by decide +kernel
theorem dX7_add_112 : decode cX7_add 112 = .ok (.aload_n 0, 1) := by decide +kernel
theorem dX7_add_113 : decode cX7_add 113 = .ok (.getfield 7, 3) := by decide +kernel
theorem dX7_add_116 : decode cX7_add 116 = .ok (.iconst 4, 1) := by decide +kernel
theorem dX7_add_117 : decode cX7_add 117 = .ok (.dup2, 1) := by decide +kernel
theorem dX7_add_118 : decode cX7_add 118 = .ok (.iaload, 1) := by decide +kernel
theorem dX7_add_119 : decode cX7_add 119 = .ok (.iconst 1, 1) := by decide +kernel
theorem dX7_add_120 : decode cX7_add 120 = .ok (.iadd, 1) := by decide +kernel
theorem dX7_add_121 : decode cX7_add 121 = .ok (.iastore, 1) := by decide +kernel
theorem dX7_add_122 : decode cX7_add 122 = .ok (.iload 5, 2) := by decide +kernel
theorem dX7_add_124 : decode cX7_add 124 = .ok (.ireturn, 1) := by decide +kernel
theorem dX7_drop_0 : decode cX7_drop 0 = .ok (.aload_n 0, 1) := by decide +kernel
theorem dX7_drop_1 : decode cX7_drop 1 = .ok (.iload_n 1, 1) := by decide +kernel
theorem dX7_drop_2 : decode cX7_drop 2 = .ok (.invokevirtual 94, 3) := by decide +kernel
theorem dX7_drop_5 : decode cX7_drop 5 = .ok (.ifCond .ne 5, 3) := by decide +kernel
theorem dX7_drop_8 : decode cX7_drop 8 = .ok (.iconst (-1), 1) := by decide +kernel
theorem dX7_drop_9 : decode cX7_drop 9 = .ok (.ireturn, 1) := by decide +kernel
theorem dX7_drop_10 : decode cX7_drop 10 = .ok (.aload_n 0, 1) := by decide +kernel
theorem dX7_drop_11 : decode cX7_drop 11 = .ok (.iload_n 1, 1) := by decide +kernel
theorem dX7_drop_12 : decode cX7_drop 12 = .ok (.invokevirtual 71, 3) := by decide +kernel
theorem dX7_drop_15 : decode cX7_drop 15 = .ok (.ifCond .eq 6, 3) := by decide +kernel
theorem dX7_drop_18 : decode cX7_drop 18 = .ok (.bipush (-2), 2) := by decide +kernel
theorem dX7_drop_20 : decode cX7_drop 20 = .ok (.ireturn, 1) := by decide +kernel
theorem dX7_drop_21 : decode cX7_drop 21 = .ok (.aload_n 0, 1) := by decide +kernel
theorem dX7_drop_22 : decode cX7_drop 22 = .ok (.invokevirtual 104, 3) := by decide +kernel
theorem dX7_drop_25 : decode cX7_drop 25 = .ok (.aload_n 0, 1) := by decide +kernel
theorem dX7_drop_26 : decode cX7_drop 26 = .ok (.getfield 7, 3) := by decide +kernel
theorem dX7_drop_29 : decode cX7_drop 29 = .ok (.iconst 4, 1) := by decide +kernel
theorem dX7_drop_30 : decode cX7_drop 30 = .ok (.dup2, 1) := by decide +kernel
theorem dX7_drop_31 : decode cX7_drop 31 = .ok (.iaload, 1) := by decide +kernel
theorem dX7_drop_32 : decode cX7_drop 32 = .ok (.iconst 1, 1) := by decide +kernel
theorem dX7_drop_33 : decode cX7_drop 33 = .ok (.isub, 1) := by decide +kernel
theorem dX7_drop_34 : decode cX7_drop 34 = .ok (.iastore, 1) := by decide +kernel
theorem dX7_drop_35 : decode cX7_drop 35 = .ok (.iconst 5, 1) := by decide +kernel
theorem dX7_drop_36 : decode cX7_drop 36 = .ok (.bipush 10, 2) := by decide +kernel
theorem dX7_drop_38 : decode cX7_drop 38 = .ok (.iload_n 1, 1) := by decide +kernel
theorem dX7_drop_39 : decode cX7_drop 39 = .ok (.imul, 1) := by decide +kernel
theorem dX7_drop_40 : decode cX7_drop 40 = .ok (.iadd, 1) := by decide +kernel
theorem dX7_drop_41 : decode cX7_drop 41 = .ok (.istore_n 2, 1) := by decide +kernel
theorem dX7_drop_42 : decode cX7_drop 42 = .ok (.iload_n 2, 1) := by decide +kernel
theorem dX7_drop_43 : decode cX7_drop 43 = .ok (.iconst 5, 1) := by decide +kernel
theorem dX7_drop_44 : decode cX7_drop 44 = .ok (.bipush 10, 2) := by decide +kernel
theorem dX7_drop_46 : decode cX7_drop 46 = .ok (.aload_n 0, 1) := by decide +kernel
theorem dX7_drop_47 : decode cX7_drop 47 = .ok (.invokevirtual 39, 3) := by decide +kernel
theorem dX7_drop_50 : decode cX7_drop 50 = .ok (.imul, 1) := by decide +kernel
theorem dX7_drop_51 : decode cX7_drop 51 = .ok (.iadd, 1) := by decide +kernel
theorem dX7_drop_52 : decode cX7_drop 52 = .ok (.if_icmp .ge 24, 3) := by decide +kernel
theorem dX7_drop_55 : decode cX7_drop 55 = .ok (.aload_n 0, 1) := by decide +kernel
theorem dX7_drop_56 : decode cX7_drop 56 = .ok (.getfield 7, 3) := by decide +kernel
theorem dX7_drop_59 : decode cX7_drop 59 = .ok (.iload_n 2, 1) := by decide +kernel
theorem dX7_drop_60 : decode cX7_drop 60 = .ok (.aload_n 0, 1) := by decide +kernel
theorem dX7_drop_61 : decode cX7_drop 61 = .ok (.getfield 7, 3) := by decide +kernel
theorem dX7_drop_64 : decode cX7_drop 64 = .ok (.iload_n 2, 1) := by decide +kernel
theorem dX7_drop_65 : decode cX7_drop 65 = .ok (.bipush 10, 2) := by decide +kernel
theorem dX7_drop_67 : decode cX7_drop 67 = .ok (.iadd, 1) := by decide +kernel
theorem dX7_drop_68 : decode cX7_drop 68 = .ok (.iaload, 1) := by decide +kernel
theorem dX7_drop_69 : decode cX7_drop 69 = .ok (.iastore, 1) := by decide +kernel
theorem dX7_drop_70 : decode cX7_drop 70 = .ok (.iinc 2 1, 3) := by decide +kernel
theorem dX7_drop_73 : decode cX7_drop 73 = .ok (.goto (-31), 3) := by decide +kernel
theorem dX7_drop_76 : decode cX7_drop 76 = .ok (.aload_n 0, 1) := by decide +kernel
theorem dX7_drop_77 : decode cX7_drop 77 = .ok (.invokevirtual 39, 3) := by decide +kernel
theorem dX7_drop_80 : decode cX7_drop 80 = .ok (.ireturn, 1) := by decide +kernel
theorem dX7_setTray_0 : decode cX7_setTray 0 = .ok (.aload_n 0, 1) := by decide +kernel
theorem dX7_setTray_1 : decode cX7_setTray 1 = .ok (.iload_n 1, 1) := by decide +kernel
theorem dX7_setTray_2 : decode cX7_setTray 2 = .ok (.invokevirtual 94, 3) := by decide +kernel
theorem dX7_setTray_5 : decode cX7_setTray 5 = .ok (.ifCond .eq 30, 3) := by decide +kernel
theorem dX7_setTray_8 : decode cX7_setTray 8 = .ok (.iload_n 2, 1) := by decide +kernel
theorem dX7_setTray_9 : decode cX7_setTray 9 = .ok (.iconst 0, 1) := by decide +kernel
theorem dX7_setTray_10 : decode cX7_setTray 10 = .ok (.iconst 1, 1) := by decide +kernel
theorem dX7_setTray_11 : decode cX7_setTray 11 = .ok (.invokestatic 43, 3) := by decide +kernel
theorem dX7_setTray_14 : decode cX7_setTray 14 = .ok (.ifCond .eq 21, 3) := by decide +kernel
theorem dX7_setTray_17 : decode cX7_setTray 17 = .ok (.iload_n 3, 1) := by decide +kernel
theorem dX7_setTray_18 : decode cX7_setTray 18 = .ok (.iconst 0, 1) := by decide +kernel
theorem dX7_setTray_19 : decode cX7_setTray 19 = .ok (.iload_n 2, 1) := by decide +kernel
theorem dX7_setTray_20 : decode cX7_setTray 20 = .ok (.ifCond .ne 8, 3) := by decide +kernel
theorem dX7_setTray_23 : decode cX7_setTray 23 = .ok (.bipush 9, 2) := by decide +kernel
theorem dX7_setTray_25 : decode cX7_setTray 25 = .ok (.goto 4, 3) := by decide +kernel
theorem dX7_setTray_28 : decode cX7_setTray 28 = .ok (.iconst 1, 1) := by decide +kernel
theorem dX7_setTray_29 : decode cX7_setTray 29 = .ok (.invokestatic 43, 3) := by decide +kernel
theorem dX7_setTray_32 : decode cX7_setTray 32 = .ok (.ifCond .ne 5, 3) := by decide +kernel
theorem dX7_setTray_35 : decode cX7_setTray 35 = .ok (.iconst (-1), 1) := by decide +kernel
theorem dX7_setTray_36 : decode cX7_setTray 36 = .ok (.ireturn, 1) := by decide +kernel
theorem dX7_setTray_37 : decode cX7_setTray 37 = .ok (.iload_n 2, 1) := by decide +kernel
theorem dX7_setTray_38 : decode cX7_setTray 38 = .ok (.iconst 1, 1) := by decide +kernel
theorem dX7_setTray_39 : decode cX7_setTray 39 = .ok (.if_icmp .ne 14, 3) := by decide +kernel
theorem dX7_setTray_42 : decode cX7_setTray 42 = .ok (.aload_n 0, 1) := by decide +kernel
theorem dX7_setTray_43 : decode cX7_setTray 43 = .ok (.iload_n 1, 1) := by decide +kernel
theorem dX7_setTray_44 : decode cX7_setTray 44 = .ok (.invokevirtual 71, 3) := by decide +kernel
theorem dX7_setTray_47 : decode cX7_setTray 47 = .ok (.ifCond .eq 6, 3) := by decide +kernel
theorem dX7_setTray_50 : decode cX7_setTray 50 = .ok (.bipush (-2), 2) := by decide +kernel
theorem dX7_setTray_52 : decode cX7_setTray 52 = .ok (.ireturn, 1) := by decide +kernel
theorem dX7_setTray_53 : decode cX7_setTray 53 = .ok (.aload_n 0, 1) := by decide +kernel
theorem dX7_setTray_54 : decode cX7_setTray 54 = .ok (.invokevirtual 104, 3) := by decide +kernel
theorem dX7_setTray_57 : decode cX7_setTray 57 = .ok (.aload_n 0, 1) := by decide +kernel
theorem dX7_setTray_58 : decode cX7_setTray 58 = .ok (.iload_n 1, 1) := by decide +kernel
theorem dX7_setTray_59 : decode cX7_setTray 59 = .ok (.iconst 3, 1) := by decide +kernel
theorem dX7_setTray_60 : decode cX7_setTray 60 = .ok (.iload_n 2, 1) := by decide +kernel
theorem dX7_setTray_61 : decode cX7_setTray 61 = .ok (.iadd, 1) := by decide +kernel
theorem dX7_setTray_62 : decode cX7_setTray 62 = .ok (.invokevirtual 47, 3) := by decide +kernel
theorem dX7_setTray_65 : decode cX7_setTray 65 = .ok (.istore 4, 2) := by decide +kernel
theorem dX7_setTray_67 : decode cX7_setTray 67 = .ok (.aload_n 0, 1) := by decide +kernel
theorem dX7_setTray_68 : decode cX7_setTray 68 = .ok (.iload_n 1, 1) := by decide +kernel
theorem dX7_setTray_69 : decode cX7_setTray 69 = .ok (.iconst 3, 1) := by decide +kernel
theorem dX7_setTray_70 : decode cX7_setTray 70 = .ok (.iload_n 2, 1) := by decide +kernel
theorem dX7_setTray_71 : decode cX7_setTray 71 = .ok (.iadd, 1) := by decide +kernel
theorem dX7_setTray_72 : decode cX7_setTray 72 = .ok (.iload_n 3, 1) := by decide +kernel
theorem dX7_setTray_73 : decode cX7_setTray 73 = .ok (.invokevirtual 63, 3) := by decide +kernel
theorem dX7_setTray_76 : decode cX7_setTray 76 = .ok (.iload 4, 2) := by decide +kernel
theorem dX7_setTray_78 : decode cX7_setTray 78 = .ok (.ireturn, 1) := by decide +kernel
theorem dX7_takeOut_0 : decode cX7_takeOut 0 = .ok (.aload_n 0, 1) := by decide +kernel
theorem dX7_takeOut_1 : decode cX7_takeOut 1 = .ok (.iload_n 1, 1) := by decide +kernel
theorem dX7_takeOut_2 : decode cX7_takeOut 2 = .ok (.invokevirtual 94, 3) := by decide +kernel
theorem dX7_takeOut_5 : decode cX7_takeOut 5 = .ok (.ifCond .ne 5, 3) := by decide +kernel
theorem dX7_takeOut_8 : decode cX7_takeOut 8 = .ok (.iconst (-1), 1) := by decide +kernel
theorem dX7_takeOut_9 : decode cX7_takeOut 9 = .ok (.ireturn, 1) := by decide +kernel
theorem dX7_takeOut_10 : decode cX7_takeOut 10 = .ok (.aload_n 0, 1) := by decide +kernel
theorem dX7_takeOut_11 : decode cX7_takeOut 11 = .ok (.iload_n 1, 1) := by decide +kernel
theorem dX7_takeOut_12 : decode cX7_takeOut 12 = .ok (.invokevirtual 71, 3) := by decide +kernel
theorem dX7_takeOut_15 : decode cX7_takeOut 15 = .ok (.ifCond .eq 11, 3) := by decide +kernel
theorem dX7_takeOut_18 : decode cX7_takeOut 18 = .ok (.aload_n 0, 1) := by decide +kernel
theorem dX7_takeOut_19 : decode cX7_takeOut 19 = .ok (.iload_n 1, 1) := by decide +kernel
theorem dX7_takeOut_20 : decode cX7_takeOut 20 = .ok (.invokevirtual 118, 3) := by decide +kernel
theorem dX7_takeOut_23 : decode cX7_takeOut 23 = .ok (.ifCond .eq 6, 3) := by decide +kernel
theorem dX7_takeOut_26 : decode cX7_takeOut 26 = .ok (.bipush (-2), 2) := by decide +kernel
theorem dX7_takeOut_28 : decode cX7_takeOut 28 = .ok (.ireturn, 1) := by decide +kernel
theorem dX7_takeOut_29 : decode cX7_takeOut 29 = .ok (.aload_n 0, 1) := by decide +kernel
theorem dX7_takeOut_30 : decode cX7_takeOut 30 = .ok (.invokevirtual 104, 3) := by decide +kernel
theorem dX7_takeOut_33 : decode cX7_takeOut 33 = .ok (.aload_n 0, 1) := by decide +kernel
theorem dX7_takeOut_34 : decode cX7_takeOut 34 = .ok (.iload_n 1, 1) := by decide +kernel
theorem dX7_takeOut_35 : decode cX7_takeOut 35 = .ok (.bipush 9, 2) := by decide +kernel
theorem dX7_takeOut_37 : decode cX7_takeOut 37 = .ok (.invokevirtual 47, 3) := by decide +kernel
theorem dX7_takeOut_40 : decode cX7_takeOut 40 = .ok (.istore_n 2, 1) := by decide +kernel
theorem dX7_takeOut_41 : decode cX7_takeOut 41 = .ok (.aload_n 0, 1) := by decide +kernel
theorem dX7_takeOut_42 : decode cX7_takeOut 42 = .ok (.iload_n 1, 1) := by decide +kernel
theorem dX7_takeOut_43 : decode cX7_takeOut 43 = .ok (.invokevirtual 67, 3) := by decide +kernel
theorem dX7_takeOut_46 : decode cX7_takeOut 46 = .ok (.iload_n 2, 1) := by decide +kernel
theorem dX7_takeOut_47 : decode cX7_takeOut 47 = .ok (.ireturn, 1) := by decide +kernel
theorem dX7_empty_0 : decode cX7_empty 0 = .ok (.aload_n 0, 1) := by decide +kernel
theorem dX7_empty_1 : decode cX7_empty 1 = .ok (.invokevirtual 104, 3) := by decide +kernel
theorem dX7_empty_4 : decode cX7_empty 4 = .ok (.aload_n 0, 1) := by decide +kernel
theorem dX7_empty_5 : decode cX7_empty 5 = .ok (.invokevirtual 169, 3) := by decide +kernel
theorem dX7_empty_8 : decode cX7_empty 8 = .ok (.istore_n 1, 1) := by decide +kernel
theorem dX7_empty_9 : decode cX7_empty 9 = .ok (.aload_n 0, 1) := by decide +kernel
theorem dX7_empty_10 : decode cX7_empty 10 = .ok (.invokevirtual 172, 3) := by decide +kernel
theorem dX7_empty_13 : decode cX7_empty 13 = .ok (.iload_n 1, 1) := by decide +kernel
theorem dX7_empty_14 : decode cX7_empty 14 = .ok (.ireturn, 1) := by decide +kernel
theorem dX7_tray_0 : decode cX7_tray 0 = .ok (.aload_n 0, 1) := by decide +kernel
theorem dX7_tray_1 : decode cX7_tray 1 = .ok (.iload_n 1, 1) := by decide +kernel
theorem dX7_tray_2 : decode cX7_tray 2 = .ok (.invokevirtual 94, 3) := by decide +kernel
theorem dX7_tray_5 : decode cX7_tray 5 = .ok (.ifCond .eq 13, 3) := by decide +kernel
theorem dX7_tray_8 : decode cX7_tray 8 = .ok (.iload_n 2, 1) := by decide +kernel
theorem dX7_tray_9 : decode cX7_tray 9 = .ok (.iconst 0, 1) := by decide +kernel
theorem dX7_tray_10 : decode cX7_tray 10 = .ok (.bipush 15, 2) := by decide +kernel
theorem dX7_tray_12 : decode cX7_tray 12 = .ok (.invokestatic 43, 3) := by decide +kernel
theorem dX7_tray_15 : decode cX7_tray 15 = .ok (.ifCond .ne 5, 3) := by decide +kernel
theorem dX7_tray_18 : decode cX7_tray 18 = .ok (.iconst (-1), 1) := by decide +kernel
theorem dX7_tray_19 : decode cX7_tray 19 = .ok (.ireturn, 1) := by decide +kernel
theorem dX7_tray_20 : decode cX7_tray 20 = .ok (.iload_n 2, 1) := by decide +kernel
theorem dX7_tray_21 : decode cX7_tray 21 = .ok (.bipush 7, 2) := by decide +kernel
theorem dX7_tray_23 : decode cX7_tray 23 = .ok (.if_icmp .ge 10, 3) := by decide +kernel
theorem dX7_tray_26 : decode cX7_tray 26 = .ok (.aload_n 0, 1) := by decide +kernel
theorem dX7_tray_27 : decode cX7_tray 27 = .ok (.iload_n 1, 1) := by decide +kernel
theorem dX7_tray_28 : decode cX7_tray 28 = .ok (.iload_n 2, 1) := by decide +kernel
theorem dX7_tray_29 : decode cX7_tray 29 = .ok (.invokevirtual 47, 3) := by decide +kernel
theorem dX7_tray_32 : decode cX7_tray 32 = .ok (.ireturn, 1) := by decide +kernel
theorem dX7_tray_33 : decode cX7_tray 33 = .ok (.aload_n 0, 1) := by decide +kernel
theorem dX7_tray_34 : decode cX7_tray 34 = .ok (.iload_n 1, 1) := by decide +kernel
theorem dX7_tray_35 : decode cX7_tray 35 = .ok (.invokevirtual 71, 3) := by decide +kernel
theorem dX7_tray_38 : decode cX7_tray 38 = .ok (.ifCond .ne 6, 3) := by decide +kernel
theorem dX7_tray_41 : decode cX7_tray 41 = .ok (.bipush (-9), 2) := by decide +kernel
theorem dX7_tray_43 : decode cX7_tray 43 = .ok (.ireturn, 1) := by decide +kernel
theorem dX7_tray_44 : decode cX7_tray 44 = .ok (.iload_n 2, 1) := by decide +kernel
theorem dX7_tray_45 : decode cX7_tray 45 = .ok (.tableswitch 92 7 14 #[47, 47, 47, 54, 60, 66, 72, 86], 47) := by decide +kernel
theorem dX7_tray_92 : decode cX7_tray 92 = .ok (.aload_n 0, 1) := by decide +kernel
theorem dX7_tray_93 : decode cX7_tray 93 = .ok (.iload_n 1, 1) := by decide +kernel
theorem dX7_tray_94 : decode cX7_tray 94 = .ok (.iload_n 2, 1) := by decide +kernel
theorem dX7_tray_95 : decode cX7_tray 95 = .ok (.invokevirtual 47, 3) := by decide +kernel
theorem dX7_tray_98 : decode cX7_tray 98 = .ok (.ireturn, 1) := by decide +kernel
theorem dX7_tray_99 : decode cX7_tray 99 = .ok (.aload_n 0, 1) := by decide +kernel
theorem dX7_tray_100 : decode cX7_tray 100 = .ok (.iload_n 1, 1) := by decide +kernel
theorem dX7_tray_101 : decode cX7_tray 101 = .ok (.invokevirtual 78, 3) := by decide +kernel
theorem dX7_tray_104 : decode cX7_tray 104 = .ok (.ireturn, 1) := by decide +kernel
theorem dX7_tray_105 : decode cX7_tray 105 = .ok (.aload_n 0, 1) := by decide +kernel
theorem dX7_tray_106 : decode cX7_tray 106 = .ok (.iload_n 1, 1) := by decide +kernel
theorem dX7_tray_107 : decode cX7_tray 107 = .ok (.invokevirtual 124, 3) := by decide +kernel
theorem dX7_tray_110 : decode cX7_tray 110 = .ok (.ireturn, 1) := by decide +kernel
theorem dX7_tray_111 : decode cX7_tray 111 = .ok (.aload_n 0, 1) := by decide +kernel
theorem dX7_tray_112 : decode cX7_tray 112 = .ok (.iload_n 1, 1) := by decide +kernel
theorem dX7_tray_113 : decode cX7_tray 113 = .ok (.invokevirtual 121, 3) := by decide +kernel
theorem dX7_tray_116 : decode cX7_tray 116 = .ok (.ireturn, 1) := by decide +kernel
theorem dX7_tray_117 : decode cX7_tray 117 = .ok (.aload_n 0, 1) := by decide +kernel
theorem dX7_tray_118 : decode cX7_tray 118 = .ok (.iload_n 1, 1) := by decide +kernel
theorem dX7_tray_119 : decode cX7_tray 119 = .ok (.invokevirtual 118, 3) := by decide +kernel
theorem dX7_tray_122 : decode cX7_tray 122 = .ok (.ifCond .ne 7, 3) := by decide +kernel
theorem dX7_tray_125 : decode cX7_tray 125 = .ok (.iconst 1, 1) := by decide +kernel
theorem dX7_tray_126 : decode cX7_tray 126 = .ok (.goto 4, 3) := by decide +kernel
theorem dX7_tray_129 : decode cX7_tray 129 = .ok (.iconst 0, 1) := by decide +kernel
theorem dX7_tray_130 : decode cX7_tray 130 = .ok (.ireturn, 1) := by decide +kernel
theorem dX7_tray_131 : decode cX7_tray 131 = .ok (.aload_n 0, 1) := by decide +kernel
theorem dX7_tray_132 : decode cX7_tray 132 = .ok (.iload_n 1, 1) := by decide +kernel
theorem dX7_tray_133 : decode cX7_tray 133 = .ok (.invokevirtual 118, 3) := by decide +kernel
theorem dX7_tray_136 : decode cX7_tray 136 = .ok (.ireturn, 1) := by decide +kernel
theorem dX7_tray_137 : decode cX7_tray 137 = .ok (.aload_n 0, 1) := by decide +kernel
theorem dX7_tray_138 : decode cX7_tray 138 = .ok (.iload_n 1, 1) := by decide +kernel
theorem dX7_tray_139 : decode cX7_tray 139 = .ok (.invokevirtual 175, 3) := by decide +kernel
theorem dX7_tray_142 : decode cX7_tray 142 = .ok (.ireturn, 1) := by decide +kernel
theorem dX7_seen_0 : decode cX7_seen 0 = .ok (.iload_n 1, 1) := by decide +kernel
theorem dX7_seen_1 : decode cX7_seen 1 = .ok (.iconst 0, 1) := by decide +kernel
theorem dX7_seen_2 : decode cX7_seen 2 = .ok (.aload_n 0, 1) := by decide +kernel
theorem dX7_seen_3 : decode cX7_seen 3 = .ok (.getfield 7, 3) := by decide +kernel
theorem dX7_seen_6 : decode cX7_seen 6 = .ok (.iconst 0, 1) := by decide +kernel
theorem dX7_seen_7 : decode cX7_seen 7 = .ok (.iaload, 1) := by decide +kernel
theorem dX7_seen_8 : decode cX7_seen 8 = .ok (.iconst 1, 1) := by decide +kernel
theorem dX7_seen_9 : decode cX7_seen 9 = .ok (.isub, 1) := by decide +kernel
theorem dX7_seen_10 : decode cX7_seen 10 = .ok (.invokestatic 43, 3) := by decide +kernel
theorem dX7_seen_13 : decode cX7_seen 13 = .ok (.ifCond .eq 19, 3) := by decide +kernel
theorem dX7_seen_16 : decode cX7_seen 16 = .ok (.iload_n 2, 1) := by decide +kernel
theorem dX7_seen_17 : decode cX7_seen 17 = .ok (.iconst 0, 1) := by decide +kernel
theorem dX7_seen_18 : decode cX7_seen 18 = .ok (.aload_n 0, 1) := by decide +kernel
theorem dX7_seen_19 : decode cX7_seen 19 = .ok (.getfield 7, 3) := by decide +kernel
theorem dX7_seen_22 : decode cX7_seen 22 = .ok (.iconst 1, 1) := by decide +kernel
theorem dX7_seen_23 : decode cX7_seen 23 = .ok (.iaload, 1) := by decide +kernel
theorem dX7_seen_24 : decode cX7_seen 24 = .ok (.iconst 1, 1) := by decide +kernel
theorem dX7_seen_25 : decode cX7_seen 25 = .ok (.isub, 1) := by decide +kernel
theorem dX7_seen_26 : decode cX7_seen 26 = .ok (.invokestatic 43, 3) := by decide +kernel
theorem dX7_seen_29 : decode cX7_seen 29 = .ok (.ifCond .ne 5, 3) := by decide +kernel
theorem dX7_seen_32 : decode cX7_seen 32 = .ok (.iconst (-1), 1) := by decide +kernel
theorem dX7_seen_33 : decode cX7_seen 33 = .ok (.ireturn, 1) := by decide +kernel
theorem dX7_seen_34 : decode cX7_seen 34 = .ok (.bipush (-9), 2) := by decide +kernel
theorem dX7_seen_36 : decode cX7_seen 36 = .ok (.istore 4, 2) := by decide +kernel
theorem dX7_seen_38 : decode cX7_seen 38 = .ok (.iconst 0, 1) := by decide +kernel
theorem dX7_seen_39 : decode cX7_seen 39 = .ok (.istore 5, 2) := by decide +kernel
theorem dX7_seen_41 : decode cX7_seen 41 = .ok (.iload 5, 2) := by decide +kernel
theorem dX7_seen_43 : decode cX7_seen 43 = .ok (.aload_n 0, 1) := by decide +kernel
theorem dX7_seen_44 : decode cX7_seen 44 = .ok (.invokevirtual 39, 3) := by decide +kernel
theorem dX7_seen_47 : decode cX7_seen 47 = .ok (.if_icmp .ge 72, 3) := by decide +kernel
theorem dX7_seen_50 : decode cX7_seen 50 = .ok (.aload_n 0, 1) := by decide +kernel
theorem dX7_seen_51 : decode cX7_seen 51 = .ok (.iload 5, 2) := by decide +kernel
theorem dX7_seen_53 : decode cX7_seen 53 = .ok (.invokevirtual 71, 3) := by decide +kernel
theorem dX7_seen_56 : decode cX7_seen 56 = .ok (.ifCond .eq 18, 3) := by decide +kernel
theorem dX7_seen_59 : decode cX7_seen 59 = .ok (.aload_n 0, 1) := by decide +kernel
theorem dX7_seen_60 : decode cX7_seen 60 = .ok (.iload 5, 2) := by decide +kernel
