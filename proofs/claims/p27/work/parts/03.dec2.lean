theorem dX3_packByBest_36 : decode cX3_packByBest 36 = .ok (.iconst 0, 1) := by decide +kernel
theorem dX3_packByBest_37 : decode cX3_packByBest 37 = .ok (.istore_n 3, 1) := by decide +kernel
theorem dX3_packByBest_38 : decode cX3_packByBest 38 = .ok (.iload_n 3, 1) := by decide +kernel
theorem dX3_packByBest_39 : decode cX3_packByBest 39 = .ok (.bipush 120, 2) := by decide +kernel
theorem dX3_packByBest_41 : decode cX3_packByBest 41 = .ok (.if_icmp .ge 75, 3) := by decide +kernel
theorem dX3_packByBest_44 : decode cX3_packByBest 44 = .ok (.iload_n 2, 1) := by decide +kernel
theorem dX3_packByBest_45 : decode cX3_packByBest 45 = .ok (.ifCond .lt 71, 3) := by decide +kernel
theorem dX3_packByBest_48 : decode cX3_packByBest 48 = .ok (.aload_n 0, 1) := by decide +kernel
theorem dX3_packByBest_49 : decode cX3_packByBest 49 = .ok (.aload_n 0, 1) := by decide +kernel
theorem dX3_packByBest_50 : decode cX3_packByBest 50 = .ok (.getfield 25, 3) := by decide +kernel
theorem dX3_packByBest_53 : decode cX3_packByBest 53 = .ok (.iload_n 2, 1) := by decide +kernel
theorem dX3_packByBest_54 : decode cX3_packByBest 54 = .ok (.invokevirtual 54, 3) := by decide +kernel
theorem dX3_packByBest_57 : decode cX3_packByBest 57 = .ok (.aload_n 0, 1) := by decide +kernel
theorem dX3_packByBest_58 : decode cX3_packByBest 58 = .ok (.aload_n 0, 1) := by decide +kernel
theorem dX3_packByBest_59 : decode cX3_packByBest 59 = .ok (.getfield 28, 3) := by decide +kernel
theorem dX3_packByBest_62 : decode cX3_packByBest 62 = .ok (.invokevirtual 58, 3) := by decide +kernel
theorem dX3_packByBest_65 : decode cX3_packByBest 65 = .ok (.iload_n 3, 1) := by decide +kernel
theorem dX3_packByBest_66 : decode cX3_packByBest 66 = .ok (.ifCond .eq 10, 3) := by decide +kernel
theorem dX3_packByBest_69 : decode cX3_packByBest 69 = .ok (.aload_n 0, 1) := by decide +kernel
theorem dX3_packByBest_70 : decode cX3_packByBest 70 = .ok (.invokevirtual 71, 3) := by decide +kernel
theorem dX3_packByBest_73 : decode cX3_packByBest 73 = .ok (.ifCond .eq 32, 3) := by decide +kernel
theorem dX3_packByBest_76 : decode cX3_packByBest 76 = .ok (.aload_n 0, 1) := by decide +kernel
theorem dX3_packByBest_77 : decode cX3_packByBest 77 = .ok (.getfield 25, 3) := by decide +kernel
theorem dX3_packByBest_80 : decode cX3_packByBest 80 = .ok (.iconst 0, 1) := by decide +kernel
theorem dX3_packByBest_81 : decode cX3_packByBest 81 = .ok (.aload_n 0, 1) := by decide +kernel
theorem dX3_packByBest_82 : decode cX3_packByBest 82 = .ok (.getfield 9, 3) := by decide +kernel
theorem dX3_packByBest_85 : decode cX3_packByBest 85 = .ok (.iconst 0, 1) := by decide +kernel
theorem dX3_packByBest_86 : decode cX3_packByBest 86 = .ok (.bipush 12, 2) := by decide +kernel
theorem dX3_packByBest_88 : decode cX3_packByBest 88 = .ok (.invokestatic 75, 3) := by decide +kernel
theorem dX3_packByBest_91 : decode cX3_packByBest 91 = .ok (.aload_n 0, 1) := by decide +kernel
theorem dX3_packByBest_92 : decode cX3_packByBest 92 = .ok (.getfield 28, 3) := by decide +kernel
theorem dX3_packByBest_95 : decode cX3_packByBest 95 = .ok (.iconst 0, 1) := by decide +kernel
theorem dX3_packByBest_96 : decode cX3_packByBest 96 = .ok (.aload_n 0, 1) := by decide +kernel
theorem dX3_packByBest_97 : decode cX3_packByBest 97 = .ok (.getfield 15, 3) := by decide +kernel
theorem dX3_packByBest_100 : decode cX3_packByBest 100 = .ok (.iconst 0, 1) := by decide +kernel
theorem dX3_packByBest_101 : decode cX3_packByBest 101 = .ok (.iconst 4, 1) := by decide +kernel
theorem dX3_packByBest_102 : decode cX3_packByBest 102 = .ok (.invokestatic 75, 3) := by decide +kernel
theorem dX3_packByBest_105 : decode cX3_packByBest 105 = .ok (.aload_n 0, 1) := by decide +kernel
theorem dX3_packByBest_106 : decode cX3_packByBest 106 = .ok (.invokevirtual 81, 3) := by decide +kernel
theorem dX3_packByBest_109 : decode cX3_packByBest 109 = .ok (.istore_n 2, 1) := by decide +kernel
theorem dX3_packByBest_110 : decode cX3_packByBest 110 = .ok (.iinc 3 1, 3) := by decide +kernel
theorem dX3_packByBest_113 : decode cX3_packByBest 113 = .ok (.goto (-75), 3) := by decide +kernel
theorem dX3_packByBest_116 : decode cX3_packByBest 116 = .ok (.aload_n 0, 1) := by decide +kernel
theorem dX3_packByBest_117 : decode cX3_packByBest 117 = .ok (.aload_n 0, 1) := by decide +kernel
theorem dX3_packByBest_118 : decode cX3_packByBest 118 = .ok (.getfield 9, 3) := by decide +kernel
theorem dX3_packByBest_121 : decode cX3_packByBest 121 = .ok (.iconst 0, 1) := by decide +kernel
theorem dX3_packByBest_122 : decode cX3_packByBest 122 = .ok (.invokevirtual 54, 3) := by decide +kernel
theorem dX3_packByBest_125 : decode cX3_packByBest 125 = .ok (.return_, 1) := by decide +kernel
theorem dX3_letDownFrom_0 : decode cX3_letDownFrom 0 = .ok (.iload_n 2, 1) := by decide +kernel
theorem dX3_letDownFrom_1 : decode cX3_letDownFrom 1 = .ok (.istore_n 3, 1) := by decide +kernel
theorem dX3_letDownFrom_2 : decode cX3_letDownFrom 2 = .ok (.iload_n 3, 1) := by decide +kernel
theorem dX3_letDownFrom_3 : decode cX3_letDownFrom 3 = .ok (.aload_n 0, 1) := by decide +kernel
theorem dX3_letDownFrom_4 : decode cX3_letDownFrom 4 = .ok (.getfield 21, 3) := by decide +kernel
theorem dX3_letDownFrom_7 : decode cX3_letDownFrom 7 = .ok (.getfield 42, 3) := by decide +kernel
theorem dX3_letDownFrom_10 : decode cX3_letDownFrom 10 = .ok (.if_icmp .ge 23, 3) := by decide +kernel
theorem dX3_letDownFrom_13 : decode cX3_letDownFrom 13 = .ok (.aload_n 0, 1) := by decide +kernel
theorem dX3_letDownFrom_14 : decode cX3_letDownFrom 14 = .ok (.getfield 21, 3) := by decide +kernel
theorem dX3_letDownFrom_17 : decode cX3_letDownFrom 17 = .ok (.getfield 46, 3) := by decide +kernel
theorem dX3_letDownFrom_20 : decode cX3_letDownFrom 20 = .ok (.aload_n 1, 1) := by decide +kernel
theorem dX3_letDownFrom_21 : decode cX3_letDownFrom 21 = .ok (.iload_n 3, 1) := by decide +kernel
theorem dX3_letDownFrom_22 : decode cX3_letDownFrom 22 = .ok (.iaload, 1) := by decide +kernel
theorem dX3_letDownFrom_23 : decode cX3_letDownFrom 23 = .ok (.aaload, 1) := by decide +kernel
theorem dX3_letDownFrom_24 : decode cX3_letDownFrom 24 = .ok (.invokevirtual 84, 3) := by decide +kernel
theorem dX3_letDownFrom_27 : decode cX3_letDownFrom 27 = .ok (.iinc 3 1, 3) := by decide +kernel
theorem dX3_letDownFrom_30 : decode cX3_letDownFrom 30 = .ok (.goto (-28), 3) := by decide +kernel
theorem dX3_letDownFrom_33 : decode cX3_letDownFrom 33 = .ok (.aload_n 0, 1) := by decide +kernel
theorem dX3_letDownFrom_34 : decode cX3_letDownFrom 34 = .ok (.getfield 34, 3) := by decide +kernel
theorem dX3_letDownFrom_37 : decode cX3_letDownFrom 37 = .ok (.aload_n 0, 1) := by decide +kernel
theorem dX3_letDownFrom_38 : decode cX3_letDownFrom 38 = .ok (.getfield 21, 3) := by decide +kernel
theorem dX3_letDownFrom_41 : decode cX3_letDownFrom 41 = .ok (.invokevirtual 87, 3) := by decide +kernel
theorem dX3_letDownFrom_44 : decode cX3_letDownFrom 44 = .ok (.iload_n 2, 1) := by decide +kernel
theorem dX3_letDownFrom_45 : decode cX3_letDownFrom 45 = .ok (.istore_n 3, 1) := by decide +kernel
theorem dX3_letDownFrom_46 : decode cX3_letDownFrom 46 = .ok (.iload_n 3, 1) := by decide +kernel
theorem dX3_letDownFrom_47 : decode cX3_letDownFrom 47 = .ok (.aload_n 0, 1) := by decide +kernel
theorem dX3_letDownFrom_48 : decode cX3_letDownFrom 48 = .ok (.getfield 21, 3) := by decide +kernel
theorem dX3_letDownFrom_51 : decode cX3_letDownFrom 51 = .ok (.getfield 42, 3) := by decide +kernel
theorem dX3_letDownFrom_54 : decode cX3_letDownFrom 54 = .ok (.if_icmp .ge 99, 3) := by decide +kernel
theorem dX3_letDownFrom_57 : decode cX3_letDownFrom 57 = .ok (.aload_n 0, 1) := by decide +kernel
theorem dX3_letDownFrom_58 : decode cX3_letDownFrom 58 = .ok (.getfield 21, 3) := by decide +kernel
theorem dX3_letDownFrom_61 : decode cX3_letDownFrom 61 = .ok (.getfield 46, 3) := by decide +kernel
theorem dX3_letDownFrom_64 : decode cX3_letDownFrom 64 = .ok (.aload_n 1, 1) := by decide +kernel
theorem dX3_letDownFrom_65 : decode cX3_letDownFrom 65 = .ok (.iload_n 3, 1) := by decide +kernel
theorem dX3_letDownFrom_66 : decode cX3_letDownFrom 66 = .ok (.iaload, 1) := by decide +kernel
theorem dX3_letDownFrom_67 : decode cX3_letDownFrom 67 = .ok (.aaload, 1) := by decide +kernel
theorem dX3_letDownFrom_68 : decode cX3_letDownFrom 68 = .ok (.astore 4, 2) := by decide +kernel
theorem dX3_letDownFrom_70 : decode cX3_letDownFrom 70 = .ok (.aload_n 0, 1) := by decide +kernel
theorem dX3_letDownFrom_71 : decode cX3_letDownFrom 71 = .ok (.getfield 34, 3) := by decide +kernel
theorem dX3_letDownFrom_74 : decode cX3_letDownFrom 74 = .ok (.aload_n 0, 1) := by decide +kernel
theorem dX3_letDownFrom_75 : decode cX3_letDownFrom 75 = .ok (.getfield 21, 3) := by decide +kernel
theorem dX3_letDownFrom_78 : decode cX3_letDownFrom 78 = .ok (.aload 4, 2) := by decide +kernel
theorem dX3_letDownFrom_80 : decode cX3_letDownFrom 80 = .ok (.iconst 1, 1) := by decide +kernel
theorem dX3_letDownFrom_81 : decode cX3_letDownFrom 81 = .ok (.invokevirtual 90, 3) := by decide +kernel
theorem dX3_letDownFrom_84 : decode cX3_letDownFrom 84 = .ok (.aload_n 0, 1) := by decide +kernel
theorem dX3_letDownFrom_85 : decode cX3_letDownFrom 85 = .ok (.getfield 34, 3) := by decide +kernel
theorem dX3_letDownFrom_88 : decode cX3_letDownFrom 88 = .ok (.getfield 94, 3) := by decide +kernel
theorem dX3_letDownFrom_91 : decode cX3_letDownFrom 91 = .ok (.ifCond .le 56, 3) := by decide +kernel
theorem dX3_letDownFrom_94 : decode cX3_letDownFrom 94 = .ok (.aload 4, 2) := by decide +kernel
theorem dX3_letDownFrom_96 : decode cX3_letDownFrom 96 = .ok (.aload_n 0, 1) := by decide +kernel
theorem dX3_letDownFrom_97 : decode cX3_letDownFrom 97 = .ok (.getfield 34, 3) := by decide +kernel
theorem dX3_letDownFrom_100 : decode cX3_letDownFrom 100 = .ok (.getfield 97, 3) := by decide +kernel
theorem dX3_letDownFrom_103 : decode cX3_letDownFrom 103 = .ok (.aload_n 0, 1) := by decide +kernel
theorem dX3_letDownFrom_104 : decode cX3_letDownFrom 104 = .ok (.getfield 34, 3) := by decide +kernel
theorem dX3_letDownFrom_107 : decode cX3_letDownFrom 107 = .ok (.getfield 100, 3) := by decide +kernel
theorem dX3_letDownFrom_110 : decode cX3_letDownFrom 110 = .ok (.aload_n 0, 1) := by decide +kernel
theorem dX3_letDownFrom_111 : decode cX3_letDownFrom 111 = .ok (.getfield 34, 3) := by decide +kernel
theorem dX3_letDownFrom_114 : decode cX3_letDownFrom 114 = .ok (.getfield 103, 3) := by decide +kernel
theorem dX3_letDownFrom_117 : decode cX3_letDownFrom 117 = .ok (.aload_n 0, 1) := by decide +kernel
theorem dX3_letDownFrom_118 : decode cX3_letDownFrom 118 = .ok (.getfield 34, 3) := by decide +kernel
theorem dX3_letDownFrom_121 : decode cX3_letDownFrom 121 = .ok (.getfield 107, 3) := by decide +kernel
theorem dX3_letDownFrom_124 : decode cX3_letDownFrom 124 = .ok (.aload_n 0, 1) := by decide +kernel
theorem dX3_letDownFrom_125 : decode cX3_letDownFrom 125 = .ok (.getfield 34, 3) := by decide +kernel
theorem dX3_letDownFrom_128 : decode cX3_letDownFrom 128 = .ok (.getfield 110, 3) := by decide +kernel
theorem dX3_letDownFrom_131 : decode cX3_letDownFrom 131 = .ok (.invokevirtual 113, 3) := by decide +kernel
theorem dX3_letDownFrom_134 : decode cX3_letDownFrom 134 = .ok (.aload_n 0, 1) := by decide +kernel
theorem dX3_letDownFrom_135 : decode cX3_letDownFrom 135 = .ok (.getfield 34, 3) := by decide +kernel
theorem dX3_letDownFrom_138 : decode cX3_letDownFrom 138 = .ok (.aload_n 0, 1) := by decide +kernel
theorem dX3_letDownFrom_139 : decode cX3_letDownFrom 139 = .ok (.getfield 21, 3) := by decide +kernel
theorem dX3_letDownFrom_142 : decode cX3_letDownFrom 142 = .ok (.aload 4, 2) := by decide +kernel
theorem dX3_letDownFrom_144 : decode cX3_letDownFrom 144 = .ok (.invokevirtual 117, 3) := by decide +kernel
theorem dX3_letDownFrom_147 : decode cX3_letDownFrom 147 = .ok (.iinc 3 1, 3) := by decide +kernel
theorem dX3_letDownFrom_150 : decode cX3_letDownFrom 150 = .ok (.goto (-104), 3) := by decide +kernel
theorem dX3_letDownFrom_153 : decode cX3_letDownFrom 153 = .ok (.return_, 1) := by decide +kernel
theorem dX3_measure_0 : decode cX3_measure 0 = .ok (.aload_n 1, 1) := by decide +kernel
theorem dX3_measure_1 : decode cX3_measure 1 = .ok (.iconst 0, 1) := by decide +kernel
theorem dX3_measure_2 : decode cX3_measure 2 = .ok (.aload_n 0, 1) := by decide +kernel
theorem dX3_measure_3 : decode cX3_measure 3 = .ok (.getfield 21, 3) := by decide +kernel
theorem dX3_measure_6 : decode cX3_measure 6 = .ok (.getfield 42, 3) := by decide +kernel
theorem dX3_measure_9 : decode cX3_measure 9 = .ok (.aload_n 0, 1) := by decide +kernel
theorem dX3_measure_10 : decode cX3_measure 10 = .ok (.getfield 21, 3) := by decide +kernel
theorem dX3_measure_13 : decode cX3_measure 13 = .ok (.invokevirtual 121, 3) := by decide +kernel
theorem dX3_measure_16 : decode cX3_measure 16 = .ok (.invokestatic 124, 3) := by decide +kernel
theorem dX3_measure_19 : decode cX3_measure 19 = .ok (.isub, 1) := by decide +kernel
theorem dX3_measure_20 : decode cX3_measure 20 = .ok (.iastore, 1) := by decide +kernel
theorem dX3_measure_21 : decode cX3_measure 21 = .ok (.aload_n 1, 1) := by decide +kernel
theorem dX3_measure_22 : decode cX3_measure 22 = .ok (.iconst 1, 1) := by decide +kernel
theorem dX3_measure_23 : decode cX3_measure 23 = .ok (.aload_n 0, 1) := by decide +kernel
theorem dX3_measure_24 : decode cX3_measure 24 = .ok (.getfield 21, 3) := by decide +kernel
theorem dX3_measure_27 : decode cX3_measure 27 = .ok (.invokevirtual 130, 3) := by decide +kernel
theorem dX3_measure_30 : decode cX3_measure 30 = .ok (.iastore, 1) := by decide +kernel
theorem dX3_measure_31 : decode cX3_measure 31 = .ok (.aload_n 1, 1) := by decide +kernel
theorem dX3_measure_32 : decode cX3_measure 32 = .ok (.iconst 2, 1) := by decide +kernel
theorem dX3_measure_33 : decode cX3_measure 33 = .ok (.aload_n 0, 1) := by decide +kernel
theorem dX3_measure_34 : decode cX3_measure 34 = .ok (.getfield 21, 3) := by decide +kernel
theorem dX3_measure_37 : decode cX3_measure 37 = .ok (.invokevirtual 133, 3) := by decide +kernel
theorem dX3_measure_40 : decode cX3_measure 40 = .ok (.iastore, 1) := by decide +kernel
theorem dX3_measure_41 : decode cX3_measure 41 = .ok (.aload_n 1, 1) := by decide +kernel
theorem dX3_measure_42 : decode cX3_measure 42 = .ok (.iconst 3, 1) := by decide +kernel
theorem dX3_measure_43 : decode cX3_measure 43 = .ok (.aload_n 0, 1) := by decide +kernel
theorem dX3_measure_44 : decode cX3_measure 44 = .ok (.getfield 21, 3) := by decide +kernel
theorem dX3_measure_47 : decode cX3_measure 47 = .ok (.invokevirtual 136, 3) := by decide +kernel
theorem dX3_measure_50 : decode cX3_measure 50 = .ok (.iastore, 1) := by decide +kernel
theorem dX3_measure_51 : decode cX3_measure 51 = .ok (.return_, 1) := by decide +kernel
theorem dX3_isTriedBetter_0 : decode cX3_isTriedBetter 0 = .ok (.iconst 0, 1) := by decide +kernel
theorem dX3_isTriedBetter_1 : decode cX3_isTriedBetter 1 = .ok (.istore_n 1, 1) := by decide +kernel
theorem dX3_isTriedBetter_2 : decode cX3_isTriedBetter 2 = .ok (.iload_n 1, 1) := by decide +kernel
theorem dX3_isTriedBetter_3 : decode cX3_isTriedBetter 3 = .ok (.iconst 4, 1) := by decide +kernel
theorem dX3_isTriedBetter_4 : decode cX3_isTriedBetter 4 = .ok (.if_icmp .ge 45, 3) := by decide +kernel
theorem dX3_isTriedBetter_7 : decode cX3_isTriedBetter 7 = .ok (.aload_n 0, 1) := by decide +kernel
theorem dX3_isTriedBetter_8 : decode cX3_isTriedBetter 8 = .ok (.getfield 28, 3) := by decide +kernel
theorem dX3_isTriedBetter_11 : decode cX3_isTriedBetter 11 = .ok (.iload_n 1, 1) := by decide +kernel
theorem dX3_isTriedBetter_12 : decode cX3_isTriedBetter 12 = .ok (.iaload, 1) := by decide +kernel
theorem dX3_isTriedBetter_13 : decode cX3_isTriedBetter 13 = .ok (.aload_n 0, 1) := by decide +kernel
theorem dX3_isTriedBetter_14 : decode cX3_isTriedBetter 14 = .ok (.getfield 15, 3) := by decide +kernel
theorem dX3_isTriedBetter_17 : decode cX3_isTriedBetter 17 = .ok (.iload_n 1, 1) := by decide +kernel
theorem dX3_isTriedBetter_18 : decode cX3_isTriedBetter 18 = .ok (.iaload, 1) := by decide +kernel
theorem dX3_isTriedBetter_19 : decode cX3_isTriedBetter 19 = .ok (.if_icmp .eq 24, 3) := by decide +kernel
theorem dX3_isTriedBetter_22 : decode cX3_isTriedBetter 22 = .ok (.aload_n 0, 1) := by decide +kernel
theorem dX3_isTriedBetter_23 : decode cX3_isTriedBetter 23 = .ok (.getfield 28, 3) := by decide +kernel
theorem dX3_isTriedBetter_26 : decode cX3_isTriedBetter 26 = .ok (.iload_n 1, 1) := by decide +kernel
theorem dX3_isTriedBetter_27 : decode cX3_isTriedBetter 27 = .ok (.iaload, 1) := by decide +kernel
theorem dX3_isTriedBetter_28 : decode cX3_isTriedBetter 28 = .ok (.aload_n 0, 1) := by decide +kernel
theorem dX3_isTriedBetter_29 : decode cX3_isTriedBetter 29 = .ok (.getfield 15, 3) := by decide +kernel
theorem dX3_isTriedBetter_32 : decode cX3_isTriedBetter 32 = .ok (.iload_n 1, 1) := by decide +kernel
theorem dX3_isTriedBetter_33 : decode cX3_isTriedBetter 33 = .ok (.iaload, 1) := by decide +kernel
theorem dX3_isTriedBetter_34 : decode cX3_isTriedBetter 34 = .ok (.if_icmp .ge 7, 3) := by decide +kernel
theorem dX3_isTriedBetter_37 : decode cX3_isTriedBetter 37 = .ok (.iconst 1, 1) := by decide +kernel
theorem dX3_isTriedBetter_38 : decode cX3_isTriedBetter 38 = .ok (.goto 4, 3) := by decide +kernel
theorem dX3_isTriedBetter_41 : decode cX3_isTriedBetter 41 = .ok (.iconst 0, 1) := by decide +kernel
theorem dX3_isTriedBetter_42 : decode cX3_isTriedBetter 42 = .ok (.ireturn, 1) := by decide +kernel
theorem dX3_isTriedBetter_43 : decode cX3_isTriedBetter 43 = .ok (.iinc 1 1, 3) := by decide +kernel
theorem dX3_isTriedBetter_46 : decode cX3_isTriedBetter 46 = .ok (.goto (-44), 3) := by decide +kernel
theorem dX3_isTriedBetter_49 : decode cX3_isTriedBetter 49 = .ok (.iconst 0, 1) := by decide +kernel
theorem dX3_isTriedBetter_50 : decode cX3_isTriedBetter 50 = .ok (.ireturn, 1) := by decide +kernel
theorem dX3_stepToNextOrder_0 : decode cX3_stepToNextOrder 0 = .ok (.aload_n 0, 1) := by decide +kernel
theorem dX3_stepToNextOrder_1 : decode cX3_stepToNextOrder 1 = .ok (.getfield 21, 3) := by decide +kernel
theorem dX3_stepToNextOrder_4 : decode cX3_stepToNextOrder 4 = .ok (.getfield 42, 3) := by decide +kernel
theorem dX3_stepToNextOrder_7 : decode cX3_stepToNextOrder 7 = .ok (.iconst 2, 1) := by decide +kernel
theorem dX3_stepToNextOrder_8 : decode cX3_stepToNextOrder 8 = .ok (.isub, 1) := by decide +kernel
theorem dX3_stepToNextOrder_9 : decode cX3_stepToNextOrder 9 = .ok (.istore_n 1, 1) := by decide +kernel
theorem dX3_stepToNextOrder_10 : decode cX3_stepToNextOrder 10 = .ok (.iload_n 1, 1) := by decide +kernel
theorem dX3_stepToNextOrder_11 : decode cX3_stepToNextOrder 11 = .ok (.ifCond .lt 26, 3) := by decide +kernel
theorem dX3_stepToNextOrder_14 : decode cX3_stepToNextOrder 14 = .ok (.aload_n 0, 1) := by decide +kernel
theorem dX3_stepToNextOrder_15 : decode cX3_stepToNextOrder 15 = .ok (.getfield 25, 3) := by decide +kernel
theorem dX3_stepToNextOrder_18 : decode cX3_stepToNextOrder 18 = .ok (.iload_n 1, 1) := by decide +kernel
theorem dX3_stepToNextOrder_19 : decode cX3_stepToNextOrder 19 = .ok (.iaload, 1) := by decide +kernel
theorem dX3_stepToNextOrder_20 : decode cX3_stepToNextOrder 20 = .ok (.aload_n 0, 1) := by decide +kernel
theorem dX3_stepToNextOrder_21 : decode cX3_stepToNextOrder 21 = .ok (.getfield 25, 3) := by decide +kernel
theorem dX3_stepToNextOrder_24 : decode cX3_stepToNextOrder 24 = .ok (.iload_n 1, 1) := by decide +kernel
theorem dX3_stepToNextOrder_25 : decode cX3_stepToNextOrder 25 = .ok (.iconst 1, 1) := by decide +kernel
theorem dX3_stepToNextOrder_26 : decode cX3_stepToNextOrder 26 = .ok (.iadd, 1) := by decide +kernel
theorem dX3_stepToNextOrder_27 : decode cX3_stepToNextOrder 27 = .ok (.iaload, 1) := by decide +kernel
theorem dX3_stepToNextOrder_28 : decode cX3_stepToNextOrder 28 = .ok (.if_icmp .le 9, 3) := by decide +kernel
theorem dX3_stepToNextOrder_31 : decode cX3_stepToNextOrder 31 = .ok (.iinc 1 (-1), 3) := by decide +kernel
theorem dX3_stepToNextOrder_34 : decode cX3_stepToNextOrder 34 = .ok (.goto (-24), 3) := by decide +kernel
theorem dX3_stepToNextOrder_37 : decode cX3_stepToNextOrder 37 = .ok (.iload_n 1, 1) := by decide +kernel
theorem dX3_stepToNextOrder_38 : decode cX3_stepToNextOrder 38 = .ok (.ifCond .ge 6, 3) := by decide +kernel
theorem dX3_stepToNextOrder_41 : decode cX3_stepToNextOrder 41 = .ok (.bipush (-9), 2) := by decide +kernel
theorem dX3_stepToNextOrder_43 : decode cX3_stepToNextOrder 43 = .ok (.ireturn, 1) := by decide +kernel
theorem dX3_stepToNextOrder_44 : decode cX3_stepToNextOrder 44 = .ok (.aload_n 0, 1) := by decide +kernel
theorem dX3_stepToNextOrder_45 : decode cX3_stepToNextOrder 45 = .ok (.getfield 21, 3) := by decide +kernel
theorem dX3_stepToNextOrder_48 : decode cX3_stepToNextOrder 48 = .ok (.getfield 42, 3) := by decide +kernel
theorem dX3_stepToNextOrder_51 : decode cX3_stepToNextOrder 51 = .ok (.iconst 1, 1) := by decide +kernel
theorem dX3_stepToNextOrder_52 : decode cX3_stepToNextOrder 52 = .ok (.isub, 1) := by decide +kernel
theorem dX3_stepToNextOrder_53 : decode cX3_stepToNextOrder 53 = .ok (.istore_n 2, 1) := by decide +kernel
theorem dX3_stepToNextOrder_54 : decode cX3_stepToNextOrder 54 = .ok (.iload_n 2, 1) := by decide +kernel
theorem dX3_stepToNextOrder_55 : decode cX3_stepToNextOrder 55 = .ok (.iload_n 1, 1) := by decide +kernel
theorem dX3_stepToNextOrder_56 : decode cX3_stepToNextOrder 56 = .ok (.if_icmp .le 24, 3) := by decide +kernel
theorem dX3_stepToNextOrder_59 : decode cX3_stepToNextOrder 59 = .ok (.aload_n 0, 1) := by decide +kernel
theorem dX3_stepToNextOrder_60 : decode cX3_stepToNextOrder 60 = .ok (.getfield 25, 3) := by decide +kernel
theorem dX3_stepToNextOrder_63 : decode cX3_stepToNextOrder 63 = .ok (.iload_n 2, 1) := by decide +kernel
theorem dX3_stepToNextOrder_64 : decode cX3_stepToNextOrder 64 = .ok (.iaload, 1) := by decide +kernel
theorem dX3_stepToNextOrder_65 : decode cX3_stepToNextOrder 65 = .ok (.aload_n 0, 1) := by decide +kernel
theorem dX3_stepToNextOrder_66 : decode cX3_stepToNextOrder 66 = .ok (.getfield 25, 3) := by decide +kernel
theorem dX3_stepToNextOrder_69 : decode cX3_stepToNextOrder 69 = .ok (.iload_n 1, 1) := by decide +kernel
theorem dX3_stepToNextOrder_70 : decode cX3_stepToNextOrder 70 = .ok (.iaload, 1) := by decide +kernel
theorem dX3_stepToNextOrder_71 : decode cX3_stepToNextOrder 71 = .ok (.if_icmp .ge 9, 3) := by decide +kernel
theorem dX3_stepToNextOrder_74 : decode cX3_stepToNextOrder 74 = .ok (.iinc 2 (-1), 3) := by decide +kernel
theorem dX3_stepToNextOrder_77 : decode cX3_stepToNextOrder 77 = .ok (.goto (-23), 3) := by decide +kernel
theorem dX3_stepToNextOrder_80 : decode cX3_stepToNextOrder 80 = .ok (.aload_n 0, 1) := by decide +kernel
theorem dX3_stepToNextOrder_81 : decode cX3_stepToNextOrder 81 = .ok (.iload_n 1, 1) := by decide +kernel
theorem dX3_stepToNextOrder_82 : decode cX3_stepToNextOrder 82 = .ok (.iload_n 2, 1) := by decide +kernel
theorem dX3_stepToNextOrder_83 : decode cX3_stepToNextOrder 83 = .ok (.invokevirtual 139, 3) := by decide +kernel
theorem dX3_stepToNextOrder_86 : decode cX3_stepToNextOrder 86 = .ok (.iload_n 1, 1) := by decide +kernel
theorem dX3_stepToNextOrder_87 : decode cX3_stepToNextOrder 87 = .ok (.iconst 1, 1) := by decide +kernel
theorem dX3_stepToNextOrder_88 : decode cX3_stepToNextOrder 88 = .ok (.iadd, 1) := by decide +kernel
theorem dX3_stepToNextOrder_89 : decode cX3_stepToNextOrder 89 = .ok (.istore_n 3, 1) := by decide +kernel
theorem dX3_stepToNextOrder_90 : decode cX3_stepToNextOrder 90 = .ok (.aload_n 0, 1) := by decide +kernel
theorem dX3_stepToNextOrder_91 : decode cX3_stepToNextOrder 91 = .ok (.getfield 21, 3) := by decide +kernel
theorem dX3_stepToNextOrder_94 : decode cX3_stepToNextOrder 94 = .ok (.getfield 42, 3) := by decide +kernel
theorem dX3_stepToNextOrder_97 : decode cX3_stepToNextOrder 97 = .ok (.iconst 1, 1) := by decide +kernel
theorem dX3_stepToNextOrder_98 : decode cX3_stepToNextOrder 98 = .ok (.isub, 1) := by decide +kernel
theorem dX3_stepToNextOrder_99 : decode cX3_stepToNextOrder 99 = .ok (.istore 4, 2) := by decide +kernel
theorem dX3_stepToNextOrder_101 : decode cX3_stepToNextOrder 101 = .ok (.iload_n 3, 1) := by decide +kernel
theorem dX3_stepToNextOrder_102 : decode cX3_stepToNextOrder 102 = .ok (.iload 4, 2) := by decide +kernel
theorem dX3_stepToNextOrder_104 : decode cX3_stepToNextOrder 104 = .ok (.if_icmp .ge 19, 3) := by decide +kernel
theorem dX3_stepToNextOrder_107 : decode cX3_stepToNextOrder 107 = .ok (.aload_n 0, 1) := by decide +kernel
theorem dX3_stepToNextOrder_108 : decode cX3_stepToNextOrder 108 = .ok (.iload_n 3, 1) := by decide +kernel
theorem dX3_stepToNextOrder_109 : decode cX3_stepToNextOrder 109 = .ok (.iload 4, 2) := by decide +kernel
theorem dX3_stepToNextOrder_111 : decode cX3_stepToNextOrder 111 = .ok (.invokevirtual 139, 3) := by decide +kernel
theorem dX3_stepToNextOrder_114 : decode cX3_stepToNextOrder 114 = .ok (.iinc 3 1, 3) := by decide +kernel
theorem dX3_stepToNextOrder_117 : decode cX3_stepToNextOrder 117 = .ok (.iinc 4 (-1), 3) := by decide +kernel
theorem dX3_stepToNextOrder_120 : decode cX3_stepToNextOrder 120 = .ok (.goto (-19), 3) := by decide +kernel
theorem dX3_stepToNextOrder_123 : decode cX3_stepToNextOrder 123 = .ok (.iload_n 1, 1) := by decide +kernel
theorem dX3_stepToNextOrder_124 : decode cX3_stepToNextOrder 124 = .ok (.ireturn, 1) := by decide +kernel
theorem dX3_swap_0 : decode cX3_swap 0 = .ok (.aload_n 0, 1) := by decide +kernel
theorem dX3_swap_1 : decode cX3_swap 1 = .ok (.getfield 25, 3) := by decide +kernel
theorem dX3_swap_4 : decode cX3_swap 4 = .ok (.iload_n 1, 1) := by decide +kernel
theorem dX3_swap_5 : decode cX3_swap 5 = .ok (.iaload, 1) := by decide +kernel
theorem dX3_swap_6 : decode cX3_swap 6 = .ok (.istore_n 3, 1) := by decide +kernel
theorem dX3_swap_7 : decode cX3_swap 7 = .ok (.aload_n 0, 1) := by decide +kernel
theorem dX3_swap_8 : decode cX3_swap 8 = .ok (.getfield 25, 3) := by decide +kernel
theorem dX3_swap_11 : decode cX3_swap 11 = .ok (.iload_n 1, 1) := by decide +kernel
theorem dX3_swap_12 : decode cX3_swap 12 = .ok (.aload_n 0, 1) := by decide +kernel
theorem dX3_swap_13 : decode cX3_swap 13 = .ok (.getfield 25, 3) := by decide +kernel
theorem dX3_swap_16 : decode cX3_swap 16 = .ok (.iload_n 2, 1) := by decide +kernel
theorem dX3_swap_17 : decode cX3_swap 17 = .ok (.iaload, 1) := by decide +kernel
theorem dX3_swap_18 : decode cX3_swap 18 = .ok (.iastore, 1) := by decide +kernel
theorem dX3_swap_19 : decode cX3_swap 19 = .ok (.aload_n 0, 1) := by decide +kernel
theorem dX3_swap_20 : decode cX3_swap 20 = .ok (.getfield 25, 3) := by decide +kernel
theorem dX3_swap_23 : decode cX3_swap 23 = .ok (.iload_n 2, 1) := by decide +kernel
theorem dX3_swap_24 : decode cX3_swap 24 = .ok (.iload_n 3, 1) := by decide +kernel
theorem dX3_swap_25 : decode cX3_swap 25 = .ok (.iastore, 1) := by decide +kernel
theorem dX3_swap_26 : decode cX3_swap 26 = .ok (.return_, 1) := by decide +kernel
theorem dX4_init_0 : decode cX4_init 0 = .ok (.aload_n 0, 1) := by decide +kernel
theorem dX4_init_1 : decode cX4_init 1 = .ok (.invokespecial 3, 3) := by decide +kernel
theorem dX4_init_4 : decode cX4_init 4 = .ok (.aload_n 0, 1) := by decide +kernel
theorem dX4_init_5 : decode cX4_init 5 = .ok (.iconst 0, 1) := by decide +kernel
theorem dX4_init_6 : decode cX4_init 6 = .ok (.putfield 9, 3) := by decide +kernel
theorem dX4_init_9 : decode cX4_init 9 = .ok (.aload_n 0, 1) := by decide +kernel
theorem dX4_init_10 : decode cX4_init 10 = .ok (.new 15, 3) := by decide +kernel
theorem dX4_init_13 : decode cX4_init 13 = .ok (.dup, 1) := by decide +kernel
theorem dX4_init_14 : decode cX4_init 14 = .ok (.invokespecial 17, 3) := by decide +kernel
theorem dX4_init_17 : decode cX4_init 17 = .ok (.putfield 18, 3) := by decide +kernel
theorem dX4_init_20 : decode cX4_init 20 = .ok (.aload_n 0, 1) := by decide +kernel
theorem dX4_init_21 : decode cX4_init 21 = .ok (.bipush 100, 2) := by decide +kernel
theorem dX4_init_23 : decode cX4_init 23 = .ok (.newarray .char, 2) := by decide +kernel
theorem dX4_init_25 : decode cX4_init 25 = .ok (.putfield 22, 3) := by decide +kernel
theorem dX4_init_28 : decode cX4_init 28 = .ok (.return_, 1) := by decide +kernel
theorem dX5_init_0 : decode cX5_init 0 = .ok (.aload_n 0, 1) := by decide +kernel
theorem dX5_init_1 : decode cX5_init 1 = .ok (.invokespecial 1, 3) := by decide +kernel
theorem dX5_init_4 : decode cX5_init 4 = .ok (.return_, 1) := by decide +kernel
theorem dX5_become_0 : decode cX5_become 0 = .ok (.aload_n 0, 1) := by decide +kernel
theorem dX5_become_1 : decode cX5_become 1 = .ok (.iload_n 1, 1) := by decide +kernel
theorem dX5_become_2 : decode cX5_become 2 = .ok (.putfield 7, 3) := by decide +kernel
theorem dX5_become_5 : decode cX5_become 5 = .ok (.aload_n 0, 1) := by decide +kernel
theorem dX5_become_6 : decode cX5_become 6 = .ok (.iload_n 2, 1) := by decide +kernel
theorem dX5_become_7 : decode cX5_become 7 = .ok (.putfield 13, 3) := by decide +kernel
theorem dX5_become_10 : decode cX5_become 10 = .ok (.aload_n 0, 1) := by decide +kernel
theorem dX5_become_11 : decode cX5_become 11 = .ok (.iload_n 3, 1) := by decide +kernel
theorem dX5_become_12 : decode cX5_become 12 = .ok (.putfield 16, 3) := by decide +kernel
theorem dX5_become_15 : decode cX5_become 15 = .ok (.aload_n 0, 1) := by decide +kernel
theorem dX5_become_16 : decode cX5_become 16 = .ok (.iload 4, 2) := by decide +kernel
theorem dX5_become_18 : decode cX5_become 18 = .ok (.putfield 19, 3) := by decide +kernel
theorem dX5_become_21 : decode cX5_become 21 = .ok (.aload_n 0, 1) := by decide +kernel
theorem dX5_become_22 : decode cX5_become 22 = .ok (.iconst 0, 1) := by decide +kernel
theorem dX5_become_23 : decode cX5_become 23 = .ok (.putfield 22, 3) := by decide +kernel
theorem dX5_become_26 : decode cX5_become 26 = .ok (.aload_n 0, 1) := by decide +kernel
theorem dX5_become_27 : decode cX5_become 27 = .ok (.invokevirtual 25, 3) := by decide +kernel
theorem dX5_become_30 : decode cX5_become 30 = .ok (.return_, 1) := by decide +kernel
theorem dX5_copyFrom_0 : decode cX5_copyFrom 0 = .ok (.aload_n 0, 1) := by decide +kernel
theorem dX5_copyFrom_1 : decode cX5_copyFrom 1 = .ok (.aload_n 1, 1) := by decide +kernel
theorem dX5_copyFrom_2 : decode cX5_copyFrom 2 = .ok (.getfield 7, 3) := by decide +kernel
theorem dX5_copyFrom_5 : decode cX5_copyFrom 5 = .ok (.putfield 7, 3) := by decide +kernel
theorem dX5_copyFrom_8 : decode cX5_copyFrom 8 = .ok (.aload_n 0, 1) := by decide +kernel
theorem dX5_copyFrom_9 : decode cX5_copyFrom 9 = .ok (.aload_n 1, 1) := by decide +kernel
theorem dX5_copyFrom_10 : decode cX5_copyFrom 10 = .ok (.getfield 13, 3) := by decide +kernel
theorem dX5_copyFrom_13 : decode cX5_copyFrom 13 = .ok (.putfield 13, 3) := by decide +kernel
theorem dX5_copyFrom_16 : decode cX5_copyFrom 16 = .ok (.aload_n 0, 1) := by decide +kernel
theorem dX5_copyFrom_17 : decode cX5_copyFrom 17 = .ok (.aload_n 1, 1) := by decide +kernel
theorem dX5_copyFrom_18 : decode cX5_copyFrom 18 = .ok (.getfield 16, 3) := by decide +kernel
theorem dX5_copyFrom_21 : decode cX5_copyFrom 21 = .ok (.putfield 16, 3) := by decide +kernel
theorem dX5_copyFrom_24 : decode cX5_copyFrom 24 = .ok (.aload_n 0, 1) := by decide +kernel
theorem dX5_copyFrom_25 : decode cX5_copyFrom 25 = .ok (.aload_n 1, 1) := by decide +kernel
theorem dX5_copyFrom_26 : decode cX5_copyFrom 26 = .ok (.getfield 19, 3) := by decide +kernel
theorem dX5_copyFrom_29 : decode cX5_copyFrom 29 = .ok (.putfield 19, 3) := by decide +kernel
theorem dX5_copyFrom_32 : decode cX5_copyFrom 32 = .ok (.aload_n 0, 1) := by decide +kernel
theorem dX5_copyFrom_33 : decode cX5_copyFrom 33 = .ok (.aload_n 1, 1) := by decide +kernel
theorem dX5_copyFrom_34 : decode cX5_copyFrom 34 = .ok (.getfield 22, 3) := by decide +kernel
theorem dX5_copyFrom_37 : decode cX5_copyFrom 37 = .ok (.putfield 22, 3) := by decide +kernel
theorem dX5_copyFrom_40 : decode cX5_copyFrom 40 = .ok (.aload_n 0, 1) := by decide +kernel
theorem dX5_copyFrom_41 : decode cX5_copyFrom 41 = .ok (.aload_n 1, 1) := by decide +kernel
theorem dX5_copyFrom_42 : decode cX5_copyFrom 42 = .ok (.getfield 28, 3) := by decide +kernel
theorem dX5_copyFrom_45 : decode cX5_copyFrom 45 = .ok (.putfield 28, 3) := by decide +kernel
theorem dX5_copyFrom_48 : decode cX5_copyFrom 48 = .ok (.aload_n 0, 1) := by decide +kernel
theorem dX5_copyFrom_49 : decode cX5_copyFrom 49 = .ok (.aload_n 1, 1) := by decide +kernel
theorem dX5_copyFrom_50 : decode cX5_copyFrom 50 = .ok (.getfield 32, 3) := by decide +kernel
theorem dX5_copyFrom_53 : decode cX5_copyFrom 53 = .ok (.putfield 32, 3) := by decide +kernel
theorem dX5_copyFrom_56 : decode cX5_copyFrom 56 = .ok (.aload_n 0, 1) := by decide +kernel
theorem dX5_copyFrom_57 : decode cX5_copyFrom 57 = .ok (.aload_n 1, 1) := by decide +kernel
theorem dX5_copyFrom_58 : decode cX5_copyFrom 58 = .ok (.getfield 35, 3) := by decide +kernel
theorem dX5_copyFrom_61 : decode cX5_copyFrom 61 = .ok (.putfield 35, 3) := by decide +kernel
theorem dX5_copyFrom_64 : decode cX5_copyFrom 64 = .ok (.aload_n 0, 1) := by decide +kernel
theorem dX5_copyFrom_65 : decode cX5_copyFrom 65 = .ok (.aload_n 1, 1) := by decide +kernel
theorem dX5_copyFrom_66 : decode cX5_copyFrom 66 = .ok (.getfield 38, 3) := by decide +kernel
theorem dX5_copyFrom_69 : decode cX5_copyFrom 69 = .ok (.putfield 38, 3) := by decide +kernel
theorem dX5_copyFrom_72 : decode cX5_copyFrom 72 = .ok (.aload_n 0, 1) := by decide +kernel
theorem dX5_copyFrom_73 : decode cX5_copyFrom 73 = .ok (.aload_n 1, 1) := by decide +kernel
theorem dX5_copyFrom_74 : decode cX5_copyFrom 74 = .ok (.getfield 41, 3) := by decide +kernel
theorem dX5_copyFrom_77 : decode cX5_copyFrom 77 = .ok (.putfield 41, 3) := by decide +kernel
theorem dX5_copyFrom_80 : decode cX5_copyFrom 80 = .ok (.aload_n 0, 1) := by decide +kernel
theorem dX5_copyFrom_81 : decode cX5_copyFrom 81 = .ok (.aload_n 1, 1) := by decide +kernel
theorem dX5_copyFrom_82 : decode cX5_copyFrom 82 = .ok (.getfield 44, 3) := by decide +kernel
theorem dX5_copyFrom_85 : decode cX5_copyFrom 85 = .ok (.putfield 44, 3) := by decide +kernel
theorem dX5_copyFrom_88 : decode cX5_copyFrom 88 = .ok (.aload_n 0, 1) := by decide +kernel
theorem dX5_copyFrom_89 : decode cX5_copyFrom 89 = .ok (.aload_n 1, 1) := by decide +kernel
theorem dX5_copyFrom_90 : decode cX5_copyFrom 90 = .ok (.getfield 47, 3) := by decide +kernel
theorem dX5_copyFrom_93 : decode cX5_copyFrom 93 = .ok (.putfield 47, 3) := by decide +kernel
theorem dX5_copyFrom_96 : decode cX5_copyFrom 96 = .ok (.aload_n 0, 1) := by decide +kernel
theorem dX5_copyFrom_97 : decode cX5_copyFrom 97 = .ok (.aload_n 1, 1) := by decide +kernel
theorem dX5_copyFrom_98 : decode cX5_copyFrom 98 = .ok (.getfield 50, 3) := by decide +kernel
theorem dX5_copyFrom_101 : decode cX5_copyFrom 101 = .ok (.putfield 50, 3) := by decide +kernel
theorem dX5_copyFrom_104 : decode cX5_copyFrom 104 = .ok (.aload_n 0, 1) := by decide +kernel
theorem dX5_copyFrom_105 : decode cX5_copyFrom 105 = .ok (.aload_n 1, 1) := by decide +kernel
theorem dX5_copyFrom_106 : decode cX5_copyFrom 106 = .ok (.getfield 53, 3) := by decide +kernel
theorem dX5_copyFrom_109 : decode cX5_copyFrom 109 = .ok (.putfield 53, 3) := by decide +kernel
theorem dX5_copyFrom_112 : decode cX5_copyFrom 112 = .ok (.return_, 1) := by decide +kernel
theorem dX5_lie_0 : decode cX5_lie 0 = .ok (.aload_n 0, 1) := by decide +kernel
theorem dX5_lie_1 : decode cX5_lie 1 = .ok (.iconst 1, 1) := by decide +kernel
theorem dX5_lie_2 : decode cX5_lie 2 = .ok (.putfield 28, 3) := by decide +kernel
theorem dX5_lie_5 : decode cX5_lie 5 = .ok (.aload_n 0, 1) := by decide +kernel
theorem dX5_lie_6 : decode cX5_lie 6 = .ok (.iload_n 3, 1) := by decide +kernel
theorem dX5_lie_7 : decode cX5_lie 7 = .ok (.putfield 32, 3) := by decide +kernel
theorem dX5_lie_10 : decode cX5_lie 10 = .ok (.aload_n 0, 1) := by decide +kernel
theorem dX5_lie_11 : decode cX5_lie 11 = .ok (.iload_n 1, 1) := by decide +kernel
theorem dX5_lie_12 : decode cX5_lie 12 = .ok (.putfield 35, 3) := by decide +kernel
theorem dX5_lie_15 : decode cX5_lie 15 = .ok (.aload_n 0, 1) := by decide +kernel
theorem dX5_lie_16 : decode cX5_lie 16 = .ok (.iload_n 2, 1) := by decide +kernel
theorem dX5_lie_17 : decode cX5_lie 17 = .ok (.putfield 38, 3) := by decide +kernel
theorem dX5_lie_20 : decode cX5_lie 20 = .ok (.aload_n 0, 1) := by decide +kernel
theorem dX5_lie_21 : decode cX5_lie 21 = .ok (.iload_n 1, 1) := by decide +kernel
theorem dX5_lie_22 : decode cX5_lie 22 = .ok (.aload_n 0, 1) := by decide +kernel
theorem dX5_lie_23 : decode cX5_lie 23 = .ok (.iload_n 3, 1) := by decide +kernel
theorem dX5_lie_24 : decode cX5_lie 24 = .ok (.invokevirtual 56, 3) := by decide +kernel
theorem dX5_lie_27 : decode cX5_lie 27 = .ok (.iadd, 1) := by decide +kernel
theorem dX5_lie_28 : decode cX5_lie 28 = .ok (.putfield 41, 3) := by decide +kernel
theorem dX5_lie_31 : decode cX5_lie 31 = .ok (.aload_n 0, 1) := by decide +kernel
theorem dX5_lie_32 : decode cX5_lie 32 = .ok (.iload_n 2, 1) := by decide +kernel
theorem dX5_lie_33 : decode cX5_lie 33 = .ok (.aload_n 0, 1) := by decide +kernel
theorem dX5_lie_34 : decode cX5_lie 34 = .ok (.iload_n 3, 1) := by decide +kernel
theorem dX5_lie_35 : decode cX5_lie 35 = .ok (.invokevirtual 60, 3) := by decide +kernel
theorem dX5_lie_38 : decode cX5_lie 38 = .ok (.iadd, 1) := by decide +kernel
theorem dX5_lie_39 : decode cX5_lie 39 = .ok (.putfield 44, 3) := by decide +kernel
theorem dX5_lie_42 : decode cX5_lie 42 = .ok (.aload_n 0, 1) := by decide +kernel
theorem dX5_lie_43 : decode cX5_lie 43 = .ok (.iload 4, 2) := by decide +kernel
theorem dX5_lie_45 : decode cX5_lie 45 = .ok (.putfield 47, 3) := by decide +kernel
theorem dX5_lie_48 : decode cX5_lie 48 = .ok (.aload_n 0, 1) := by decide +kernel
theorem dX5_lie_49 : decode cX5_lie 49 = .ok (.iload 4, 2) := by decide +kernel
theorem dX5_lie_51 : decode cX5_lie 51 = .ok (.aload_n 0, 1) := by decide +kernel
theorem dX5_lie_52 : decode cX5_lie 52 = .ok (.invokevirtual 63, 3) := by decide +kernel
theorem dX5_lie_55 : decode cX5_lie 55 = .ok (.iadd, 1) := by decide +kernel
theorem dX5_lie_56 : decode cX5_lie 56 = .ok (.putfield 50, 3) := by decide +kernel
theorem dX5_lie_59 : decode cX5_lie 59 = .ok (.aload_n 0, 1) := by decide +kernel
theorem dX5_lie_60 : decode cX5_lie 60 = .ok (.iload 5, 2) := by decide +kernel
theorem dX5_lie_62 : decode cX5_lie 62 = .ok (.putfield 53, 3) := by decide +kernel
theorem dX5_lie_65 : decode cX5_lie 65 = .ok (.return_, 1) := by decide +kernel
theorem dX5_leave_0 : decode cX5_leave 0 = .ok (.aload_n 0, 1) := by decide +kernel
theorem dX5_leave_1 : decode cX5_leave 1 = .ok (.iconst 0, 1) := by decide +kernel
theorem dX5_leave_2 : decode cX5_leave 2 = .ok (.putfield 28, 3) := by decide +kernel
theorem dX5_leave_5 : decode cX5_leave 5 = .ok (.aload_n 0, 1) := by decide +kernel
theorem dX5_leave_6 : decode cX5_leave 6 = .ok (.iconst 0, 1) := by decide +kernel
theorem dX5_leave_7 : decode cX5_leave 7 = .ok (.putfield 32, 3) := by decide +kernel
theorem dX5_leave_10 : decode cX5_leave 10 = .ok (.return_, 1) := by decide +kernel
theorem dX5_alongX_0 : decode cX5_alongX 0 = .ok (.iload_n 1, 1) := by decide +kernel
theorem dX5_alongX_1 : decode cX5_alongX 1 = .ok (.ifCond .eq 10, 3) := by decide +kernel
theorem dX5_alongX_4 : decode cX5_alongX 4 = .ok (.aload_n 0, 1) := by decide +kernel
theorem dX5_alongX_5 : decode cX5_alongX 5 = .ok (.getfield 13, 3) := by decide +kernel
theorem dX5_alongX_8 : decode cX5_alongX 8 = .ok (.goto 7, 3) := by decide +kernel
theorem dX5_alongX_11 : decode cX5_alongX 11 = .ok (.aload_n 0, 1) := by decide +kernel
theorem dX5_alongX_12 : decode cX5_alongX 12 = .ok (.getfield 7, 3) := by decide +kernel
theorem dX5_alongX_15 : decode cX5_alongX 15 = .ok (.ireturn, 1) := by decide +kernel
theorem dX5_alongY_0 : decode cX5_alongY 0 = .ok (.iload_n 1, 1) := by decide +kernel
theorem dX5_alongY_1 : decode cX5_alongY 1 = .ok (.ifCond .eq 10, 3) := by decide +kernel
theorem dX5_alongY_4 : decode cX5_alongY 4 = .ok (.aload_n 0, 1) := by decide +kernel
theorem dX5_alongY_5 : decode cX5_alongY 5 = .ok (.getfield 7, 3) := by decide +kernel
theorem dX5_alongY_8 : decode cX5_alongY 8 = .ok (.goto 7, 3) := by decide +kernel
theorem dX5_alongY_11 : decode cX5_alongY 11 = .ok (.aload_n 0, 1) := by decide +kernel
theorem dX5_alongY_12 : decode cX5_alongY 12 = .ok (.getfield 13, 3) := by decide +kernel
theorem dX5_alongY_15 : decode cX5_alongY 15 = .ok (.ireturn, 1) := by decide +kernel
theorem dX5_area_0 : decode cX5_area 0 = .ok (.aload_n 0, 1) := by decide +kernel
theorem dX5_area_1 : decode cX5_area 1 = .ok (.getfield 7, 3) := by decide +kernel
theorem dX5_area_4 : decode cX5_area 4 = .ok (.aload_n 0, 1) := by decide +kernel
theorem dX5_area_5 : decode cX5_area 5 = .ok (.getfield 13, 3) := by decide +kernel
theorem dX5_area_8 : decode cX5_area 8 = .ok (.imul, 1) := by decide +kernel
theorem dX5_area_9 : decode cX5_area 9 = .ok (.ireturn, 1) := by decide +kernel
theorem dX5_tall_0 : decode cX5_tall 0 = .ok (.aload_n 0, 1) := by decide +kernel
theorem dX5_tall_1 : decode cX5_tall 1 = .ok (.getfield 16, 3) := by decide +kernel
theorem dX5_tall_4 : decode cX5_tall 4 = .ok (.aload_n 0, 1) := by decide +kernel
theorem dX5_tall_5 : decode cX5_tall 5 = .ok (.getfield 22, 3) := by decide +kernel
theorem dX5_tall_8 : decode cX5_tall 8 = .ok (.iadd, 1) := by decide +kernel
theorem dX5_tall_9 : decode cX5_tall 9 = .ok (.ireturn, 1) := by decide +kernel
theorem dX5_covers_0 : decode cX5_covers 0 = .ok (.aload_n 0, 1) := by decide +kernel
theorem dX5_covers_1 : decode cX5_covers 1 = .ok (.getfield 28, 3) := by decide +kernel
theorem dX5_covers_4 : decode cX5_covers 4 = .ok (.ifCond .eq 39, 3) := by decide +kernel
theorem dX5_covers_7 : decode cX5_covers 7 = .ok (.iload_n 1, 1) := by decide +kernel
theorem dX5_covers_8 : decode cX5_covers 8 = .ok (.aload_n 0, 1) := by decide +kernel
theorem dX5_covers_9 : decode cX5_covers 9 = .ok (.getfield 35, 3) := by decide +kernel
theorem dX5_covers_12 : decode cX5_covers 12 = .ok (.if_icmp .lt 31, 3) := by decide +kernel
theorem dX5_covers_15 : decode cX5_covers 15 = .ok (.iload_n 1, 1) := by decide +kernel
theorem dX5_covers_16 : decode cX5_covers 16 = .ok (.aload_n 0, 1) := by decide +kernel
theorem dX5_covers_17 : decode cX5_covers 17 = .ok (.getfield 41, 3) := by decide +kernel
theorem dX5_covers_20 : decode cX5_covers 20 = .ok (.if_icmp .ge 23, 3) := by decide +kernel
theorem dX5_covers_23 : decode cX5_covers 23 = .ok (.iload_n 2, 1) := by decide +kernel
theorem dX5_covers_24 : decode cX5_covers 24 = .ok (.aload_n 0, 1) := by decide +kernel
theorem dX5_covers_25 : decode cX5_covers 25 = .ok (.getfield 38, 3) := by decide +kernel
theorem dX5_covers_28 : decode cX5_covers 28 = .ok (.if_icmp .lt 15, 3) := by decide +kernel
theorem dX5_covers_31 : decode cX5_covers 31 = .ok (.iload_n 2, 1) := by decide +kernel
theorem dX5_covers_32 : decode cX5_covers 32 = .ok (.aload_n 0, 1) := by decide +kernel
theorem dX5_covers_33 : decode cX5_covers 33 = .ok (.getfield 44, 3) := by decide +kernel
theorem dX5_covers_36 : decode cX5_covers 36 = .ok (.if_icmp .ge 7, 3) := by decide +kernel
theorem dX5_covers_39 : decode cX5_covers 39 = .ok (.iconst 1, 1) := by decide +kernel
theorem dX5_covers_40 : decode cX5_covers 40 = .ok (.goto 4, 3) := by decide +kernel
theorem dX5_covers_43 : decode cX5_covers 43 = .ok (.iconst 0, 1) := by decide +kernel
theorem dX5_covers_44 : decode cX5_covers 44 = .ok (.ireturn, 1) := by decide +kernel
theorem dX5_liesOn_0 : decode cX5_liesOn 0 = .ok (.aload_n 0, 1) := by decide +kernel
theorem dX5_liesOn_1 : decode cX5_liesOn 1 = .ok (.getfield 28, 3) := by decide +kernel
theorem dX5_liesOn_4 : decode cX5_liesOn 4 = .ok (.ifCond .eq 69, 3) := by decide +kernel
theorem dX5_liesOn_7 : decode cX5_liesOn 7 = .ok (.aload_n 1, 1) := by decide +kernel
theorem dX5_liesOn_8 : decode cX5_liesOn 8 = .ok (.getfield 28, 3) := by decide +kernel
theorem dX5_liesOn_11 : decode cX5_liesOn 11 = .ok (.ifCond .eq 62, 3) := by decide +kernel
theorem dX5_liesOn_14 : decode cX5_liesOn 14 = .ok (.aload_n 0, 1) := by decide +kernel
theorem dX5_liesOn_15 : decode cX5_liesOn 15 = .ok (.getfield 47, 3) := by decide +kernel
theorem dX5_liesOn_18 : decode cX5_liesOn 18 = .ok (.aload_n 1, 1) := by decide +kernel
theorem dX5_liesOn_19 : decode cX5_liesOn 19 = .ok (.getfield 50, 3) := by decide +kernel
theorem dX5_liesOn_22 : decode cX5_liesOn 22 = .ok (.if_icmp .lt 51, 3) := by decide +kernel
theorem dX5_liesOn_25 : decode cX5_liesOn 25 = .ok (.aload_n 0, 1) := by decide +kernel
theorem dX5_liesOn_26 : decode cX5_liesOn 26 = .ok (.getfield 35, 3) := by decide +kernel
theorem dX5_liesOn_29 : decode cX5_liesOn 29 = .ok (.aload_n 1, 1) := by decide +kernel
theorem dX5_liesOn_30 : decode cX5_liesOn 30 = .ok (.getfield 41, 3) := by decide +kernel
theorem dX5_liesOn_33 : decode cX5_liesOn 33 = .ok (.if_icmp .ge 40, 3) := by decide +kernel
theorem dX5_liesOn_36 : decode cX5_liesOn 36 = .ok (.aload_n 1, 1) := by decide +kernel
theorem dX5_liesOn_37 : decode cX5_liesOn 37 = .ok (.getfield 35, 3) := by decide +kernel
theorem dX5_liesOn_40 : decode cX5_liesOn 40 = .ok (.aload_n 0, 1) := by decide +kernel
theorem dX5_liesOn_41 : decode cX5_liesOn 41 = .ok (.getfield 41, 3) := by decide +kernel
theorem dX5_liesOn_44 : decode cX5_liesOn 44 = .ok (.if_icmp .ge 29, 3) := by decide +kernel
theorem dX5_liesOn_47 : decode cX5_liesOn 47 = .ok (.aload_n 0, 1) := by decide +kernel
theorem dX5_liesOn_48 : decode cX5_liesOn 48 = .ok (.getfield 38, 3) := by decide +kernel
theorem dX5_liesOn_51 : decode cX5_liesOn 51 = .ok (.aload_n 1, 1) := by decide +kernel
theorem dX5_liesOn_52 : decode cX5_liesOn 52 = .ok (.getfield 44, 3) := by decide +kernel
theorem dX5_liesOn_55 : decode cX5_liesOn 55 = .ok (.if_icmp .ge 18, 3) := by decide +kernel
theorem dX5_liesOn_58 : decode cX5_liesOn 58 = .ok (.aload_n 1, 1) := by decide +kernel
theorem dX5_liesOn_59 : decode cX5_liesOn 59 = .ok (.getfield 38, 3) := by decide +kernel
theorem dX5_liesOn_62 : decode cX5_liesOn 62 = .ok (.aload_n 0, 1) := by decide +kernel
theorem dX5_liesOn_63 : decode cX5_liesOn 63 = .ok (.getfield 44, 3) := by decide +kernel
theorem dX5_liesOn_66 : decode cX5_liesOn 66 = .ok (.if_icmp .ge 7, 3) := by decide +kernel
theorem dX5_liesOn_69 : decode cX5_liesOn 69 = .ok (.iconst 1, 1) := by decide +kernel
theorem dX5_liesOn_70 : decode cX5_liesOn 70 = .ok (.goto 4, 3) := by decide +kernel
theorem dX5_liesOn_73 : decode cX5_liesOn 73 = .ok (.iconst 0, 1) := by decide +kernel
theorem dX5_liesOn_74 : decode cX5_liesOn 74 = .ok (.ireturn, 1) := by decide +kernel
theorem dX5_property_0 : decode cX5_property 0 = .ok (.iload_n 1, 1) := by decide +kernel
theorem dX5_property_1 : decode cX5_property 1 = .ok (.tableswitch 77 0 5 #[39, 44, 49, 54, 59, 64], 39) := by decide +kernel
theorem dX5_property_40 : decode cX5_property 40 = .ok (.aload_n 0, 1) := by decide +kernel
theorem dX5_property_41 : decode cX5_property 41 = .ok (.getfield 7, 3) := by decide +kernel
theorem dX5_property_44 : decode cX5_property 44 = .ok (.ireturn, 1) := by decide +kernel
theorem dX5_property_45 : decode cX5_property 45 = .ok (.aload_n 0, 1) := by decide +kernel
theorem dX5_property_46 : decode cX5_property 46 = .ok (.getfield 13, 3) := by decide +kernel
theorem dX5_property_49 : decode cX5_property 49 = .ok (.ireturn, 1) := by decide +kernel
theorem dX5_property_50 : decode cX5_property 50 = .ok (.aload_n 0, 1) := by decide +kernel
theorem dX5_property_51 : decode cX5_property 51 = .ok (.getfield 16, 3) := by decide +kernel
theorem dX5_property_54 : decode cX5_property 54 = .ok (.ireturn, 1) := by decide +kernel
theorem dX5_property_55 : decode cX5_property 55 = .ok (.aload_n 0, 1) := by decide +kernel
theorem dX5_property_56 : decode cX5_property 56 = .ok (.getfield 19, 3) := by decide +kernel
theorem dX5_property_59 : decode cX5_property 59 = .ok (.ireturn, 1) := by decide +kernel
theorem dX5_property_60 : decode cX5_property 60 = .ok (.aload_n 0, 1) := by decide +kernel
theorem dX5_property_61 : decode cX5_property 61 = .ok (.getfield 22, 3) := by decide +kernel
theorem dX5_property_64 : decode cX5_property 64 = .ok (.ireturn, 1) := by decide +kernel
theorem dX5_property_65 : decode cX5_property 65 = .ok (.aload_n 0, 1) := by decide +kernel
theorem dX5_property_66 : decode cX5_property 66 = .ok (.getfield 28, 3) := by decide +kernel
theorem dX5_property_69 : decode cX5_property 69 = .ok (.ifCond .eq 7, 3) := by decide +kernel
theorem dX5_property_72 : decode cX5_property 72 = .ok (.iconst 1, 1) := by decide +kernel
theorem dX5_property_73 : decode cX5_property 73 = .ok (.goto 4, 3) := by decide +kernel
theorem dX5_property_76 : decode cX5_property 76 = .ok (.iconst 0, 1) := by decide +kernel
theorem dX5_property_77 : decode cX5_property 77 = .ok (.ireturn, 1) := by decide +kernel
theorem dX5_property_78 : decode cX5_property 78 = .ok (.aload_n 0, 1) := by decide +kernel
theorem dX5_property_79 : decode cX5_property 79 = .ok (.getfield 32, 3) := by decide +kernel
theorem dX5_property_82 : decode cX5_property 82 = .ok (.ifCond .eq 7, 3) := by decide +kernel
theorem dX5_property_85 : decode cX5_property 85 = .ok (.iconst 1, 1) := by decide +kernel
theorem dX5_property_86 : decode cX5_property 86 = .ok (.goto 4, 3) := by decide +kernel
theorem dX5_property_89 : decode cX5_property 89 = .ok (.iconst 0, 1) := by decide +kernel
theorem dX5_property_90 : decode cX5_property 90 = .ok (.ireturn, 1) := by decide +kernel
theorem dX6_init_0 : decode cX6_init 0 = .ok (.aload_n 0, 1) := by decide +kernel
theorem dX6_init_1 : decode cX6_init 1 = .ok (.invokespecial 1, 3) := by decide +kernel
theorem dX6_init_4 : decode cX6_init 4 = .ok (.aload_n 0, 1) := by decide +kernel
theorem dX6_init_5 : decode cX6_init 5 = .ok (.new 7, 3) := by decide +kernel
theorem dX6_init_8 : decode cX6_init 8 = .ok (.dup, 1) := by decide +kernel
theorem dX6_init_9 : decode cX6_init 9 = .ok (.invokespecial 9, 3) := by decide +kernel
theorem dX6_init_12 : decode cX6_init 12 = .ok (.putfield 10, 3) := by decide +kernel
theorem dX6_init_15 : decode cX6_init 15 = .ok (.aload_n 0, 1) := by decide +kernel
theorem dX6_init_16 : decode cX6_init 16 = .ok (.new 16, 3) := by decide +kernel
theorem dX6_init_19 : decode cX6_init 19 = .ok (.dup, 1) := by decide +kernel
theorem dX6_init_20 : decode cX6_init 20 = .ok (.invokespecial 18, 3) := by decide +kernel
theorem dX6_init_23 : decode cX6_init 23 = .ok (.putfield 19, 3) := by decide +kernel
theorem dX6_init_26 : decode cX6_init 26 = .ok (.aload_n 0, 1) := by decide +kernel
theorem dX6_init_27 : decode cX6_init 27 = .ok (.new 23, 3) := by decide +kernel
theorem dX6_init_30 : decode cX6_init 30 = .ok (.dup, 1) := by decide +kernel
theorem dX6_init_31 : decode cX6_init 31 = .ok (.invokespecial 25, 3) := by decide +kernel
theorem dX6_init_34 : decode cX6_init 34 = .ok (.putfield 26, 3) := by decide +kernel
theorem dX6_init_37 : decode cX6_init 37 = .ok (.aload_n 0, 1) := by decide +kernel
theorem dX6_init_38 : decode cX6_init 38 = .ok (.new 30, 3) := by decide +kernel
theorem dX6_init_41 : decode cX6_init 41 = .ok (.dup, 1) := by decide +kernel
theorem dX6_init_42 : decode cX6_init 42 = .ok (.invokespecial 32, 3) := by decide +kernel
theorem dX6_init_45 : decode cX6_init 45 = .ok (.putfield 33, 3) := by decide +kernel
theorem dX6_init_48 : decode cX6_init 48 = .ok (.aload_n 0, 1) := by decide +kernel
theorem dX6_init_49 : decode cX6_init 49 = .ok (.new 37, 3) := by decide +kernel
theorem dX6_init_52 : decode cX6_init 52 = .ok (.dup, 1) := by decide +kernel
theorem dX6_init_53 : decode cX6_init 53 = .ok (.invokespecial 39, 3) := by decide +kernel
theorem dX6_init_56 : decode cX6_init 56 = .ok (.putfield 40, 3) := by decide +kernel
theorem dX6_init_59 : decode cX6_init 59 = .ok (.return_, 1) := by decide +kernel
theorem dX6_setBox_0 : decode cX6_setBox 0 = .ok (.iload_n 1, 1) := by decide +kernel
theorem dX6_setBox_1 : decode cX6_setBox 1 = .ok (.iconst 2, 1) := by decide +kernel
theorem dX6_setBox_2 : decode cX6_setBox 2 = .ok (.bipush 10, 2) := by decide +kernel
theorem dX6_setBox_4 : decode cX6_setBox 4 = .ok (.invokestatic 44, 3) := by decide +kernel
theorem dX6_setBox_7 : decode cX6_setBox 7 = .ok (.ifCond .eq 23, 3) := by decide +kernel
theorem dX6_setBox_10 : decode cX6_setBox 10 = .ok (.iload_n 2, 1) := by decide +kernel
theorem dX6_setBox_11 : decode cX6_setBox 11 = .ok (.iconst 2, 1) := by decide +kernel
theorem dX6_setBox_12 : decode cX6_setBox 12 = .ok (.bipush 10, 2) := by decide +kernel
theorem dX6_setBox_14 : decode cX6_setBox 14 = .ok (.invokestatic 44, 3) := by decide +kernel
theorem dX6_setBox_17 : decode cX6_setBox 17 = .ok (.ifCond .eq 13, 3) := by decide +kernel
theorem dX6_setBox_20 : decode cX6_setBox 20 = .ok (.iload_n 3, 1) := by decide +kernel
theorem dX6_setBox_21 : decode cX6_setBox 21 = .ok (.iconst 1, 1) := by decide +kernel
theorem dX6_setBox_22 : decode cX6_setBox 22 = .ok (.bipush 30, 2) := by decide +kernel
theorem dX6_setBox_24 : decode cX6_setBox 24 = .ok (.invokestatic 44, 3) := by decide +kernel
theorem dX6_setBox_27 : decode cX6_setBox 27 = .ok (.ifCond .ne 5, 3) := by decide +kernel
theorem dX6_setBox_30 : decode cX6_setBox 30 = .ok (.iconst (-1), 1) := by decide +kernel
theorem dX6_setBox_31 : decode cX6_setBox 31 = .ok (.ireturn, 1) := by decide +kernel
theorem dX6_setBox_32 : decode cX6_setBox 32 = .ok (.aload_n 0, 1) := by decide +kernel
theorem dX6_setBox_33 : decode cX6_setBox 33 = .ok (.getfield 10, 3) := by decide +kernel
theorem dX6_setBox_36 : decode cX6_setBox 36 = .ok (.invokevirtual 48, 3) := by decide +kernel
theorem dX6_setBox_39 : decode cX6_setBox 39 = .ok (.invokestatic 52, 3) := by decide +kernel
theorem dX6_setBox_42 : decode cX6_setBox 42 = .ok (.istore 4, 2) := by decide +kernel
theorem dX6_setBox_44 : decode cX6_setBox 44 = .ok (.aload_n 0, 1) := by decide +kernel
theorem dX6_setBox_45 : decode cX6_setBox 45 = .ok (.getfield 19, 3) := by decide +kernel
theorem dX6_setBox_48 : decode cX6_setBox 48 = .ok (.aload_n 0, 1) := by decide +kernel
theorem dX6_setBox_49 : decode cX6_setBox 49 = .ok (.getfield 10, 3) := by decide +kernel
theorem dX6_setBox_52 : decode cX6_setBox 52 = .ok (.invokevirtual 58, 3) := by decide +kernel
theorem dX6_setBox_55 : decode cX6_setBox 55 = .ok (.aload_n 0, 1) := by decide +kernel
theorem dX6_setBox_56 : decode cX6_setBox 56 = .ok (.getfield 10, 3) := by decide +kernel
theorem dX6_setBox_59 : decode cX6_setBox 59 = .ok (.invokevirtual 62, 3) := by decide +kernel
theorem dX6_setBox_62 : decode cX6_setBox 62 = .ok (.aload_n 0, 1) := by decide +kernel
theorem dX6_setBox_63 : decode cX6_setBox 63 = .ok (.getfield 10, 3) := by decide +kernel
theorem dX6_setBox_66 : decode cX6_setBox 66 = .ok (.iload_n 1, 1) := by decide +kernel
theorem dX6_setBox_67 : decode cX6_setBox 67 = .ok (.putfield 65, 3) := by decide +kernel
theorem dX6_setBox_70 : decode cX6_setBox 70 = .ok (.aload_n 0, 1) := by decide +kernel
theorem dX6_setBox_71 : decode cX6_setBox 71 = .ok (.getfield 10, 3) := by decide +kernel
theorem dX6_setBox_74 : decode cX6_setBox 74 = .ok (.iload_n 2, 1) := by decide +kernel
theorem dX6_setBox_75 : decode cX6_setBox 75 = .ok (.putfield 69, 3) := by decide +kernel
theorem dX6_setBox_78 : decode cX6_setBox 78 = .ok (.aload_n 0, 1) := by decide +kernel
theorem dX6_setBox_79 : decode cX6_setBox 79 = .ok (.getfield 10, 3) := by decide +kernel
theorem dX6_setBox_82 : decode cX6_setBox 82 = .ok (.iload_n 3, 1) := by decide +kernel
theorem dX6_setBox_83 : decode cX6_setBox 83 = .ok (.putfield 72, 3) := by decide +kernel
theorem dX6_setBox_86 : decode cX6_setBox 86 = .ok (.iload 4, 2) := by decide +kernel
theorem dX6_setBox_88 : decode cX6_setBox 88 = .ok (.ireturn, 1) := by decide +kernel
theorem dX6_setShare_0 : decode cX6_setShare 0 = .ok (.iload_n 1, 1) := by decide +kernel
theorem dX6_setShare_1 : decode cX6_setShare 1 = .ok (.iconst 0, 1) := by decide +kernel
theorem dX6_setShare_2 : decode cX6_setShare 2 = .ok (.bipush 100, 2) := by decide +kernel
theorem dX6_setShare_4 : decode cX6_setShare 4 = .ok (.invokestatic 44, 3) := by decide +kernel
theorem dX6_setShare_7 : decode cX6_setShare 7 = .ok (.ifCond .ne 5, 3) := by decide +kernel
theorem dX6_setShare_10 : decode cX6_setShare 10 = .ok (.iconst (-1), 1) := by decide +kernel
theorem dX6_setShare_11 : decode cX6_setShare 11 = .ok (.ireturn, 1) := by decide +kernel
theorem dX6_setShare_12 : decode cX6_setShare 12 = .ok (.aload_n 0, 1) := by decide +kernel
theorem dX6_setShare_13 : decode cX6_setShare 13 = .ok (.getfield 10, 3) := by decide +kernel
theorem dX6_setShare_16 : decode cX6_setShare 16 = .ok (.getfield 75, 3) := by decide +kernel
theorem dX6_setShare_19 : decode cX6_setShare 19 = .ok (.istore_n 2, 1) := by decide +kernel
theorem dX6_setShare_20 : decode cX6_setShare 20 = .ok (.aload_n 0, 1) := by decide +kernel
theorem dX6_setShare_21 : decode cX6_setShare 21 = .ok (.getfield 19, 3) := by decide +kernel
theorem dX6_setShare_24 : decode cX6_setShare 24 = .ok (.aload_n 0, 1) := by decide +kernel
theorem dX6_setShare_25 : decode cX6_setShare 25 = .ok (.getfield 10, 3) := by decide +kernel
theorem dX6_setShare_28 : decode cX6_setShare 28 = .ok (.invokevirtual 58, 3) := by decide +kernel
theorem dX6_setShare_31 : decode cX6_setShare 31 = .ok (.aload_n 0, 1) := by decide +kernel
theorem dX6_setShare_32 : decode cX6_setShare 32 = .ok (.getfield 10, 3) := by decide +kernel
theorem dX6_setShare_35 : decode cX6_setShare 35 = .ok (.iload_n 1, 1) := by decide +kernel
theorem dX6_setShare_36 : decode cX6_setShare 36 = .ok (.putfield 75, 3) := by decide +kernel
theorem dX6_setShare_39 : decode cX6_setShare 39 = .ok (.iload_n 2, 1) := by decide +kernel
theorem dX6_setShare_40 : decode cX6_setShare 40 = .ok (.ireturn, 1) := by decide +kernel
theorem dX6_add_0 : decode cX6_add 0 = .ok (.iload_n 1, 1) := by decide +kernel
theorem dX6_add_1 : decode cX6_add 1 = .ok (.iconst 1, 1) := by decide +kernel
theorem dX6_add_2 : decode cX6_add 2 = .ok (.bipush 10, 2) := by decide +kernel
theorem dX6_add_4 : decode cX6_add 4 = .ok (.invokestatic 44, 3) := by decide +kernel
theorem dX6_add_7 : decode cX6_add 7 = .ok (.ifCond .eq 34, 3) := by decide +kernel
theorem dX6_add_10 : decode cX6_add 10 = .ok (.iload_n 2, 1) := by decide +kernel
theorem dX6_add_11 : decode cX6_add 11 = .ok (.iconst 1, 1) := by decide +kernel
theorem dX6_add_12 : decode cX6_add 12 = .ok (.bipush 10, 2) := by decide +kernel
theorem dX6_add_14 : decode cX6_add 14 = .ok (.invokestatic 44, 3) := by decide +kernel
theorem dX6_add_17 : decode cX6_add 17 = .ok (.ifCond .eq 24, 3) := by decide +kernel
theorem dX6_add_20 : decode cX6_add 20 = .ok (.iload_n 3, 1) := by decide +kernel
theorem dX6_add_21 : decode cX6_add 21 = .ok (.iconst 1, 1) := by decide +kernel
theorem dX6_add_22 : decode cX6_add 22 = .ok (.bipush 9, 2) := by decide +kernel
theorem dX6_add_24 : decode cX6_add 24 = .ok (.invokestatic 44, 3) := by decide +kernel
theorem dX6_add_27 : decode cX6_add 27 = .ok (.ifCond .eq 14, 3) := by decide +kernel
theorem dX6_add_30 : decode cX6_add 30 = .ok (.iload 4, 2) := by decide +kernel
theorem dX6_add_32 : decode cX6_add 32 = .ok (.iconst 0, 1) := by decide +kernel
theorem dX6_add_33 : decode cX6_add 33 = .ok (.bipush 9, 2) := by decide +kernel
theorem dX6_add_35 : decode cX6_add 35 = .ok (.invokestatic 44, 3) := by decide +kernel
theorem dX6_add_38 : decode cX6_add 38 = .ok (.ifCond .ne 5, 3) := by decide +kernel
theorem dX6_add_41 : decode cX6_add 41 = .ok (.iconst (-1), 1) := by decide +kernel
theorem dX6_add_42 : decode cX6_add 42 = .ok (.ireturn, 1) := by decide +kernel
theorem dX6_add_43 : decode cX6_add 43 = .ok (.aload_n 0, 1) := by decide +kernel
theorem dX6_add_44 : decode cX6_add 44 = .ok (.getfield 10, 3) := by decide +kernel
theorem dX6_add_47 : decode cX6_add 47 = .ok (.getfield 95, 3) := by decide +kernel
theorem dX6_add_50 : decode cX6_add 50 = .ok (.bipush 12, 2) := by decide +kernel
theorem dX6_add_52 : decode cX6_add 52 = .ok (.if_icmp .lt 6, 3) := by decide +kernel
theorem dX6_add_55 : decode cX6_add 55 = .ok (.bipush (-3), 2) := by decide +kernel
theorem dX6_add_57 : decode cX6_add 57 = .ok (.ireturn, 1) := by decide +kernel
theorem dX6_add_58 : decode cX6_add 58 = .ok (.aload_n 0, 1) := by decide +kernel
theorem dX6_add_59 : decode cX6_add 59 = .ok (.getfield 19, 3) := by decide +kernel
theorem dX6_add_62 : decode cX6_add 62 = .ok (.aload_n 0, 1) := by decide +kernel
theorem dX6_add_63 : decode cX6_add 63 = .ok (.getfield 10, 3) := by decide +kernel
theorem dX6_add_66 : decode cX6_add 66 = .ok (.invokevirtual 58, 3) := by decide +kernel
theorem dX6_add_69 : decode cX6_add 69 = .ok (.aload_n 0, 1) := by decide +kernel
theorem dX6_add_70 : decode cX6_add 70 = .ok (.getfield 10, 3) := by decide +kernel
theorem dX6_add_73 : decode cX6_add 73 = .ok (.getfield 98, 3) := by decide +kernel
theorem dX6_add_76 : decode cX6_add 76 = .ok (.aload_n 0, 1) := by decide +kernel
theorem dX6_add_77 : decode cX6_add 77 = .ok (.getfield 10, 3) := by decide +kernel
theorem dX6_add_80 : decode cX6_add 80 = .ok (.getfield 95, 3) := by decide +kernel
theorem dX6_add_83 : decode cX6_add 83 = .ok (.aaload, 1) := by decide +kernel
theorem dX6_add_84 : decode cX6_add 84 = .ok (.iload_n 1, 1) := by decide +kernel
theorem dX6_add_85 : decode cX6_add 85 = .ok (.iload_n 2, 1) := by decide +kernel
theorem dX6_add_86 : decode cX6_add 86 = .ok (.iload_n 3, 1) := by decide +kernel
theorem dX6_add_87 : decode cX6_add 87 = .ok (.iload 4, 2) := by decide +kernel
theorem dX6_add_89 : decode cX6_add 89 = .ok (.invokevirtual 102, 3) := by decide +kernel
theorem dX6_add_92 : decode cX6_add 92 = .ok (.aload_n 0, 1) := by decide +kernel
theorem dX6_add_93 : decode cX6_add 93 = .ok (.getfield 10, 3) := by decide +kernel
theorem dX6_add_96 : decode cX6_add 96 = .ok (.dup, 1) := by decide +kernel
theorem dX6_add_97 : decode cX6_add 97 = .ok (.getfield 95, 3) := by decide +kernel
theorem dX6_add_100 : decode cX6_add 100 = .ok (.iconst 1, 1) := by decide +kernel
theorem dX6_add_101 : decode cX6_add 101 = .ok (.iadd, 1) := by decide +kernel
theorem dX6_add_102 : decode cX6_add 102 = .ok (.putfield 95, 3) := by decide +kernel
theorem dX6_add_105 : decode cX6_add 105 = .ok (.aload_n 0, 1) := by decide +kernel
theorem dX6_add_106 : decode cX6_add 106 = .ok (.getfield 10, 3) := by decide +kernel
theorem dX6_add_109 : decode cX6_add 109 = .ok (.getfield 95, 3) := by decide +kernel
theorem dX6_add_112 : decode cX6_add 112 = .ok (.iconst 1, 1) := by decide +kernel
theorem dX6_add_113 : decode cX6_add 113 = .ok (.isub, 1) := by decide +kernel
theorem dX6_add_114 : decode cX6_add 114 = .ok (.ireturn, 1) := by decide +kernel
theorem dX6_setTray_0 : decode cX6_setTray 0 = .ok (.aload_n 0, 1) := by decide +kernel
theorem dX6_setTray_1 : decode cX6_setTray 1 = .ok (.getfield 10, 3) := by decide +kernel
theorem dX6_setTray_4 : decode cX6_setTray 4 = .ok (.iload_n 1, 1) := by decide +kernel
theorem dX6_setTray_5 : decode cX6_setTray 5 = .ok (.invokevirtual 108, 3) := by decide +kernel
theorem dX6_setTray_8 : decode cX6_setTray 8 = .ok (.ifCond .eq 30, 3) := by decide +kernel
theorem dX6_setTray_11 : decode cX6_setTray 11 = .ok (.iload_n 2, 1) := by decide +kernel
theorem dX6_setTray_12 : decode cX6_setTray 12 = .ok (.iconst 0, 1) := by decide +kernel
theorem dX6_setTray_13 : decode cX6_setTray 13 = .ok (.iconst 1, 1) := by decide +kernel
theorem dX6_setTray_14 : decode cX6_setTray 14 = .ok (.invokestatic 44, 3) := by decide +kernel
theorem dX6_setTray_17 : decode cX6_setTray 17 = .ok (.ifCond .eq 21, 3) := by decide +kernel
theorem dX6_setTray_20 : decode cX6_setTray 20 = .ok (.iload_n 3, 1) := by decide +kernel
theorem dX6_setTray_21 : decode cX6_setTray 21 = .ok (.iconst 0, 1) := by decide +kernel
theorem dX6_setTray_22 : decode cX6_setTray 22 = .ok (.iload_n 2, 1) := by decide +kernel
theorem dX6_setTray_23 : decode cX6_setTray 23 = .ok (.ifCond .ne 8, 3) := by decide +kernel
theorem dX6_setTray_26 : decode cX6_setTray 26 = .ok (.bipush 9, 2) := by decide +kernel
theorem dX6_setTray_28 : decode cX6_setTray 28 = .ok (.goto 4, 3) := by decide +kernel
theorem dX6_setTray_31 : decode cX6_setTray 31 = .ok (.iconst 1, 1) := by decide +kernel
theorem dX6_setTray_32 : decode cX6_setTray 32 = .ok (.invokestatic 44, 3) := by decide +kernel
theorem dX6_setTray_35 : decode cX6_setTray 35 = .ok (.ifCond .ne 5, 3) := by decide +kernel
theorem dX6_setTray_38 : decode cX6_setTray 38 = .ok (.iconst (-1), 1) := by decide +kernel
theorem dX6_setTray_39 : decode cX6_setTray 39 = .ok (.ireturn, 1) := by decide +kernel
theorem dX6_setTray_40 : decode cX6_setTray 40 = .ok (.aload_n 0, 1) := by decide +kernel
theorem dX6_setTray_41 : decode cX6_setTray 41 = .ok (.getfield 10, 3) := by decide +kernel
theorem dX6_setTray_44 : decode cX6_setTray 44 = .ok (.getfield 98, 3) := by decide +kernel
theorem dX6_setTray_47 : decode cX6_setTray 47 = .ok (.iload_n 1, 1) := by decide +kernel
theorem dX6_setTray_48 : decode cX6_setTray 48 = .ok (.aaload, 1) := by decide +kernel
theorem dX6_setTray_49 : decode cX6_setTray 49 = .ok (.astore 4, 2) := by decide +kernel
theorem dX6_setTray_51 : decode cX6_setTray 51 = .ok (.iload_n 2, 1) := by decide +kernel
theorem dX6_setTray_52 : decode cX6_setTray 52 = .ok (.iconst 1, 1) := by decide +kernel
theorem dX6_setTray_53 : decode cX6_setTray 53 = .ok (.if_icmp .ne 14, 3) := by decide +kernel
theorem dX6_setTray_56 : decode cX6_setTray 56 = .ok (.aload 4, 2) := by decide +kernel
theorem dX6_setTray_58 : decode cX6_setTray 58 = .ok (.getfield 112, 3) := by decide +kernel
theorem dX6_setTray_61 : decode cX6_setTray 61 = .ok (.ifCond .eq 6, 3) := by decide +kernel
theorem dX6_setTray_64 : decode cX6_setTray 64 = .ok (.bipush (-2), 2) := by decide +kernel
theorem dX6_setTray_66 : decode cX6_setTray 66 = .ok (.ireturn, 1) := by decide +kernel
theorem dX6_setTray_67 : decode cX6_setTray 67 = .ok (.iload_n 2, 1) := by decide +kernel
theorem dX6_setTray_68 : decode cX6_setTray 68 = .ok (.ifCond .ne 11, 3) := by decide +kernel
theorem dX6_setTray_71 : decode cX6_setTray 71 = .ok (.aload 4, 2) := by decide +kernel
theorem dX6_setTray_73 : decode cX6_setTray 73 = .ok (.getfield 119, 3) := by decide +kernel
theorem dX6_setTray_76 : decode cX6_setTray 76 = .ok (.goto 8, 3) := by decide +kernel
theorem dX6_setTray_79 : decode cX6_setTray 79 = .ok (.aload 4, 2) := by decide +kernel
theorem dX6_setTray_81 : decode cX6_setTray 81 = .ok (.getfield 122, 3) := by decide +kernel
theorem dX6_setTray_84 : decode cX6_setTray 84 = .ok (.istore 5, 2) := by decide +kernel
theorem dX6_setTray_86 : decode cX6_setTray 86 = .ok (.aload_n 0, 1) := by decide +kernel
theorem dX6_setTray_87 : decode cX6_setTray 87 = .ok (.getfield 19, 3) := by decide +kernel
theorem dX6_setTray_90 : decode cX6_setTray 90 = .ok (.aload_n 0, 1) := by decide +kernel
theorem dX6_setTray_91 : decode cX6_setTray 91 = .ok (.getfield 10, 3) := by decide +kernel
theorem dX6_setTray_94 : decode cX6_setTray 94 = .ok (.invokevirtual 58, 3) := by decide +kernel
theorem dX6_setTray_97 : decode cX6_setTray 97 = .ok (.iload_n 2, 1) := by decide +kernel
theorem dX6_setTray_98 : decode cX6_setTray 98 = .ok (.ifCond .ne 12, 3) := by decide +kernel
theorem dX6_setTray_101 : decode cX6_setTray 101 = .ok (.aload 4, 2) := by decide +kernel
theorem dX6_setTray_103 : decode cX6_setTray 103 = .ok (.iload_n 3, 1) := by decide +kernel
theorem dX6_setTray_104 : decode cX6_setTray 104 = .ok (.putfield 119, 3) := by decide +kernel
theorem dX6_setTray_107 : decode cX6_setTray 107 = .ok (.goto 9, 3) := by decide +kernel
theorem dX6_setTray_110 : decode cX6_setTray 110 = .ok (.aload 4, 2) := by decide +kernel
theorem dX6_setTray_112 : decode cX6_setTray 112 = .ok (.iload_n 3, 1) := by decide +kernel
theorem dX6_setTray_113 : decode cX6_setTray 113 = .ok (.putfield 122, 3) := by decide +kernel
theorem dX6_setTray_116 : decode cX6_setTray 116 = .ok (.iload 5, 2) := by decide +kernel
theorem dX6_setTray_118 : decode cX6_setTray 118 = .ok (.ireturn, 1) := by decide +kernel
theorem dX6_letDown_0 : decode cX6_letDown 0 = .ok (.aload_n 0, 1) := by decide +kernel
theorem dX6_letDown_1 : decode cX6_letDown 1 = .ok (.getfield 10, 3) := by decide +kernel
theorem dX6_letDown_4 : decode cX6_letDown 4 = .ok (.iload_n 1, 1) := by decide +kernel
theorem dX6_letDown_5 : decode cX6_letDown 5 = .ok (.invokevirtual 108, 3) := by decide +kernel
theorem dX6_letDown_8 : decode cX6_letDown 8 = .ok (.ifCond .eq 26, 3) := by decide +kernel
theorem dX6_letDown_11 : decode cX6_letDown 11 = .ok (.aload_n 0, 1) := by decide +kernel
theorem dX6_letDown_12 : decode cX6_letDown 12 = .ok (.getfield 10, 3) := by decide +kernel
theorem dX6_letDown_15 : decode cX6_letDown 15 = .ok (.aload_n 0, 1) := by decide +kernel
theorem dX6_letDown_16 : decode cX6_letDown 16 = .ok (.getfield 10, 3) := by decide +kernel
theorem dX6_letDown_19 : decode cX6_letDown 19 = .ok (.getfield 98, 3) := by decide +kernel
theorem dX6_letDown_22 : decode cX6_letDown 22 = .ok (.iload_n 1, 1) := by decide +kernel
theorem dX6_letDown_23 : decode cX6_letDown 23 = .ok (.aaload, 1) := by decide +kernel
theorem dX6_letDown_24 : decode cX6_letDown 24 = .ok (.iload_n 2, 1) := by decide +kernel
theorem dX6_letDown_25 : decode cX6_letDown 25 = .ok (.iload_n 3, 1) := by decide +kernel
theorem dX6_letDown_26 : decode cX6_letDown 26 = .ok (.iload 4, 2) := by decide +kernel
theorem dX6_letDown_28 : decode cX6_letDown 28 = .ok (.invokevirtual 125, 3) := by decide +kernel
theorem dX6_letDown_31 : decode cX6_letDown 31 = .ok (.ifCond .ne 5, 3) := by decide +kernel
theorem dX6_letDown_34 : decode cX6_letDown 34 = .ok (.iconst (-1), 1) := by decide +kernel
theorem dX6_letDown_35 : decode cX6_letDown 35 = .ok (.ireturn, 1) := by decide +kernel
theorem dX6_letDown_36 : decode cX6_letDown 36 = .ok (.aload_n 0, 1) := by decide +kernel
theorem dX6_letDown_37 : decode cX6_letDown 37 = .ok (.getfield 10, 3) := by decide +kernel
theorem dX6_letDown_40 : decode cX6_letDown 40 = .ok (.getfield 98, 3) := by decide +kernel
theorem dX6_letDown_43 : decode cX6_letDown 43 = .ok (.iload_n 1, 1) := by decide +kernel
theorem dX6_letDown_44 : decode cX6_letDown 44 = .ok (.aaload, 1) := by decide +kernel
theorem dX6_letDown_45 : decode cX6_letDown 45 = .ok (.astore 5, 2) := by decide +kernel
theorem dX6_letDown_47 : decode cX6_letDown 47 = .ok (.aload 5, 2) := by decide +kernel
theorem dX6_letDown_49 : decode cX6_letDown 49 = .ok (.getfield 112, 3) := by decide +kernel
theorem dX6_letDown_52 : decode cX6_letDown 52 = .ok (.ifCond .eq 6, 3) := by decide +kernel
theorem dX6_letDown_55 : decode cX6_letDown 55 = .ok (.bipush (-2), 2) := by decide +kernel
theorem dX6_letDown_57 : decode cX6_letDown 57 = .ok (.ireturn, 1) := by decide +kernel
theorem dX6_letDown_58 : decode cX6_letDown 58 = .ok (.aload_n 0, 1) := by decide +kernel
theorem dX6_letDown_59 : decode cX6_letDown 59 = .ok (.getfield 33, 3) := by decide +kernel
theorem dX6_letDown_62 : decode cX6_letDown 62 = .ok (.aload_n 0, 1) := by decide +kernel
theorem dX6_letDown_63 : decode cX6_letDown 63 = .ok (.getfield 10, 3) := by decide +kernel
theorem dX6_letDown_66 : decode cX6_letDown 66 = .ok (.invokevirtual 129, 3) := by decide +kernel
theorem dX6_letDown_69 : decode cX6_letDown 69 = .ok (.aload_n 0, 1) := by decide +kernel
theorem dX6_letDown_70 : decode cX6_letDown 70 = .ok (.getfield 33, 3) := by decide +kernel
theorem dX6_letDown_73 : decode cX6_letDown 73 = .ok (.aload_n 0, 1) := by decide +kernel
theorem dX6_letDown_74 : decode cX6_letDown 74 = .ok (.getfield 10, 3) := by decide +kernel
theorem dX6_letDown_77 : decode cX6_letDown 77 = .ok (.aload 5, 2) := by decide +kernel
theorem dX6_letDown_79 : decode cX6_letDown 79 = .ok (.iload_n 2, 1) := by decide +kernel
theorem dX6_letDown_80 : decode cX6_letDown 80 = .ok (.iload_n 3, 1) := by decide +kernel
theorem dX6_letDown_81 : decode cX6_letDown 81 = .ok (.iload 4, 2) := by decide +kernel
theorem dX6_letDown_83 : decode cX6_letDown 83 = .ok (.aload_n 0, 1) := by decide +kernel
theorem dX6_letDown_84 : decode cX6_letDown 84 = .ok (.getfield 10, 3) := by decide +kernel
theorem dX6_letDown_87 : decode cX6_letDown 87 = .ok (.aload 5, 2) := by decide +kernel
theorem dX6_letDown_89 : decode cX6_letDown 89 = .ok (.invokevirtual 132, 3) := by decide +kernel
theorem dX6_letDown_92 : decode cX6_letDown 92 = .ok (.invokevirtual 136, 3) := by decide +kernel
theorem dX6_letDown_95 : decode cX6_letDown 95 = .ok (.ifCond .ne 6, 3) := by decide +kernel
theorem dX6_letDown_98 : decode cX6_letDown 98 = .ok (.bipush (-3), 2) := by decide +kernel
theorem dX6_letDown_100 : decode cX6_letDown 100 = .ok (.ireturn, 1) := by decide +kernel
theorem dX6_letDown_101 : decode cX6_letDown 101 = .ok (.aload_n 0, 1) := by decide +kernel
theorem dX6_letDown_102 : decode cX6_letDown 102 = .ok (.getfield 19, 3) := by decide +kernel
theorem dX6_letDown_105 : decode cX6_letDown 105 = .ok (.aload_n 0, 1) := by decide +kernel
theorem dX6_letDown_106 : decode cX6_letDown 106 = .ok (.getfield 10, 3) := by decide +kernel
theorem dX6_letDown_109 : decode cX6_letDown 109 = .ok (.invokevirtual 58, 3) := by decide +kernel
theorem dX6_letDown_112 : decode cX6_letDown 112 = .ok (.aload 5, 2) := by decide +kernel
theorem dX6_letDown_114 : decode cX6_letDown 114 = .ok (.iload_n 2, 1) := by decide +kernel
theorem dX6_letDown_115 : decode cX6_letDown 115 = .ok (.iload_n 3, 1) := by decide +kernel
theorem dX6_letDown_116 : decode cX6_letDown 116 = .ok (.iload 4, 2) := by decide +kernel
theorem dX6_letDown_118 : decode cX6_letDown 118 = .ok (.aload_n 0, 1) := by decide +kernel
theorem dX6_letDown_119 : decode cX6_letDown 119 = .ok (.getfield 33, 3) := by decide +kernel
theorem dX6_letDown_122 : decode cX6_letDown 122 = .ok (.getfield 140, 3) := by decide +kernel
theorem dX6_letDown_125 : decode cX6_letDown 125 = .ok (.aload_n 0, 1) := by decide +kernel
theorem dX6_letDown_126 : decode cX6_letDown 126 = .ok (.getfield 33, 3) := by decide +kernel
theorem dX6_letDown_129 : decode cX6_letDown 129 = .ok (.getfield 143, 3) := by decide +kernel
theorem dX6_letDown_132 : decode cX6_letDown 132 = .ok (.invokevirtual 146, 3) := by decide +kernel
theorem dX6_letDown_135 : decode cX6_letDown 135 = .ok (.aload 5, 2) := by decide +kernel
theorem dX6_letDown_137 : decode cX6_letDown 137 = .ok (.getfield 150, 3) := by decide +kernel
theorem dX6_letDown_140 : decode cX6_letDown 140 = .ok (.ireturn, 1) := by decide +kernel
theorem dX6_takeOut_0 : decode cX6_takeOut 0 = .ok (.aload_n 0, 1) := by decide +kernel
theorem dX6_takeOut_1 : decode cX6_takeOut 1 = .ok (.getfield 10, 3) := by decide +kernel
theorem dX6_takeOut_4 : decode cX6_takeOut 4 = .ok (.iload_n 1, 1) := by decide +kernel
theorem dX6_takeOut_5 : decode cX6_takeOut 5 = .ok (.invokevirtual 108, 3) := by decide +kernel
theorem dX6_takeOut_8 : decode cX6_takeOut 8 = .ok (.ifCond .ne 5, 3) := by decide +kernel
theorem dX6_takeOut_11 : decode cX6_takeOut 11 = .ok (.iconst (-1), 1) := by decide +kernel
theorem dX6_takeOut_12 : decode cX6_takeOut 12 = .ok (.ireturn, 1) := by decide +kernel
theorem dX6_takeOut_13 : decode cX6_takeOut 13 = .ok (.aload_n 0, 1) := by decide +kernel
theorem dX6_takeOut_14 : decode cX6_takeOut 14 = .ok (.getfield 10, 3) := by decide +kernel
theorem dX6_takeOut_17 : decode cX6_takeOut 17 = .ok (.getfield 98, 3) := by decide +kernel
theorem dX6_takeOut_20 : decode cX6_takeOut 20 = .ok (.iload_n 1, 1) := by decide +kernel
theorem dX6_takeOut_21 : decode cX6_takeOut 21 = .ok (.aaload, 1) := by decide +kernel
theorem dX6_takeOut_22 : decode cX6_takeOut 22 = .ok (.astore_n 2, 1) := by decide +kernel
theorem dX6_takeOut_23 : decode cX6_takeOut 23 = .ok (.aload_n 2, 1) := by decide +kernel
theorem dX6_takeOut_24 : decode cX6_takeOut 24 = .ok (.getfield 112, 3) := by decide +kernel
theorem dX6_takeOut_27 : decode cX6_takeOut 27 = .ok (.ifCond .eq 14, 3) := by decide +kernel
theorem dX6_takeOut_30 : decode cX6_takeOut 30 = .ok (.aload_n 0, 1) := by decide +kernel
theorem dX6_takeOut_31 : decode cX6_takeOut 31 = .ok (.getfield 10, 3) := by decide +kernel
theorem dX6_takeOut_34 : decode cX6_takeOut 34 = .ok (.iload_n 1, 1) := by decide +kernel
theorem dX6_takeOut_35 : decode cX6_takeOut 35 = .ok (.invokevirtual 151, 3) := by decide +kernel
theorem dX6_takeOut_38 : decode cX6_takeOut 38 = .ok (.ifCond .ne 6, 3) := by decide +kernel
theorem dX6_takeOut_41 : decode cX6_takeOut 41 = .ok (.bipush (-2), 2) := by decide +kernel
theorem dX6_takeOut_43 : decode cX6_takeOut 43 = .ok (.ireturn, 1) := by decide +kernel
theorem dX6_takeOut_44 : decode cX6_takeOut 44 = .ok (.aload_n 0, 1) := by decide +kernel
theorem dX6_takeOut_45 : decode cX6_takeOut 45 = .ok (.getfield 19, 3) := by decide +kernel
theorem dX6_takeOut_48 : decode cX6_takeOut 48 = .ok (.aload_n 0, 1) := by decide +kernel
theorem dX6_takeOut_49 : decode cX6_takeOut 49 = .ok (.getfield 10, 3) := by decide +kernel
theorem dX6_takeOut_52 : decode cX6_takeOut 52 = .ok (.invokevirtual 58, 3) := by decide +kernel
theorem dX6_takeOut_55 : decode cX6_takeOut 55 = .ok (.aload_n 2, 1) := by decide +kernel
theorem dX6_takeOut_56 : decode cX6_takeOut 56 = .ok (.invokevirtual 154, 3) := by decide +kernel
theorem dX6_takeOut_59 : decode cX6_takeOut 59 = .ok (.aload_n 2, 1) := by decide +kernel
theorem dX6_takeOut_60 : decode cX6_takeOut 60 = .ok (.getfield 150, 3) := by decide +kernel
theorem dX6_takeOut_63 : decode cX6_takeOut 63 = .ok (.ireturn, 1) := by decide +kernel
theorem dX6_tray_0 : decode cX6_tray 0 = .ok (.aload_n 0, 1) := by decide +kernel
theorem dX6_tray_1 : decode cX6_tray 1 = .ok (.getfield 10, 3) := by decide +kernel
theorem dX6_tray_4 : decode cX6_tray 4 = .ok (.iload_n 1, 1) := by decide +kernel
theorem dX6_tray_5 : decode cX6_tray 5 = .ok (.invokevirtual 108, 3) := by decide +kernel
theorem dX6_tray_8 : decode cX6_tray 8 = .ok (.ifCond .eq 13, 3) := by decide +kernel
theorem dX6_tray_11 : decode cX6_tray 11 = .ok (.iload_n 2, 1) := by decide +kernel
theorem dX6_tray_12 : decode cX6_tray 12 = .ok (.iconst 0, 1) := by decide +kernel
theorem dX6_tray_13 : decode cX6_tray 13 = .ok (.bipush 15, 2) := by decide +kernel
theorem dX6_tray_15 : decode cX6_tray 15 = .ok (.invokestatic 44, 3) := by decide +kernel
theorem dX6_tray_18 : decode cX6_tray 18 = .ok (.ifCond .ne 5, 3) := by decide +kernel
theorem dX6_tray_21 : decode cX6_tray 21 = .ok (.iconst (-1), 1) := by decide +kernel
theorem dX6_tray_22 : decode cX6_tray 22 = .ok (.ireturn, 1) := by decide +kernel
theorem dX6_tray_23 : decode cX6_tray 23 = .ok (.iload_n 2, 1) := by decide +kernel
theorem dX6_tray_24 : decode cX6_tray 24 = .ok (.bipush 7, 2) := by decide +kernel
theorem dX6_tray_26 : decode cX6_tray 26 = .ok (.if_icmp .ge 17, 3) := by decide +kernel
theorem dX6_tray_29 : decode cX6_tray 29 = .ok (.aload_n 0, 1) := by decide +kernel
theorem dX6_tray_30 : decode cX6_tray 30 = .ok (.getfield 10, 3) := by decide +kernel
theorem dX6_tray_33 : decode cX6_tray 33 = .ok (.getfield 98, 3) := by decide +kernel
theorem dX6_tray_36 : decode cX6_tray 36 = .ok (.iload_n 1, 1) := by decide +kernel
theorem dX6_tray_37 : decode cX6_tray 37 = .ok (.aaload, 1) := by decide +kernel
theorem dX6_tray_38 : decode cX6_tray 38 = .ok (.iload_n 2, 1) := by decide +kernel
theorem dX6_tray_39 : decode cX6_tray 39 = .ok (.invokevirtual 157, 3) := by decide +kernel
theorem dX6_tray_42 : decode cX6_tray 42 = .ok (.ireturn, 1) := by decide +kernel
theorem dX6_tray_43 : decode cX6_tray 43 = .ok (.aload_n 0, 1) := by decide +kernel
theorem dX6_tray_44 : decode cX6_tray 44 = .ok (.getfield 10, 3) := by decide +kernel
theorem dX6_tray_47 : decode cX6_tray 47 = .ok (.getfield 98, 3) := by decide +kernel
theorem dX6_tray_50 : decode cX6_tray 50 = .ok (.iload_n 1, 1) := by decide +kernel
theorem dX6_tray_51 : decode cX6_tray 51 = .ok (.aaload, 1) := by decide +kernel
theorem dX6_tray_52 : decode cX6_tray 52 = .ok (.getfield 112, 3) := by decide +kernel
theorem dX6_tray_55 : decode cX6_tray 55 = .ok (.ifCond .eq 12, 3) := by decide +kernel
theorem dX6_tray_58 : decode cX6_tray 58 = .ok (.aload_n 0, 1) := by decide +kernel
theorem dX6_tray_59 : decode cX6_tray 59 = .ok (.iload_n 1, 1) := by decide +kernel
theorem dX6_tray_60 : decode cX6_tray 60 = .ok (.iload_n 2, 1) := by decide +kernel
theorem dX6_tray_61 : decode cX6_tray 61 = .ok (.invokevirtual 160, 3) := by decide +kernel
theorem dX6_tray_64 : decode cX6_tray 64 = .ok (.goto 5, 3) := by decide +kernel
theorem dX6_tray_67 : decode cX6_tray 67 = .ok (.bipush (-9), 2) := by decide +kernel
theorem dX6_tray_69 : decode cX6_tray 69 = .ok (.ireturn, 1) := by decide +kernel
theorem dX6_seen_0 : decode cX6_seen 0 = .ok (.iload_n 1, 1) := by decide +kernel
theorem dX6_seen_1 : decode cX6_seen 1 = .ok (.iconst 0, 1) := by decide +kernel
theorem dX6_seen_2 : decode cX6_seen 2 = .ok (.aload_n 0, 1) := by decide +kernel
theorem dX6_seen_3 : decode cX6_seen 3 = .ok (.getfield 10, 3) := by decide +kernel
theorem dX6_seen_6 : decode cX6_seen 6 = .ok (.getfield 65, 3) := by decide +kernel
theorem dX6_seen_9 : decode cX6_seen 9 = .ok (.iconst 1, 1) := by decide +kernel
theorem dX6_seen_10 : decode cX6_seen 10 = .ok (.isub, 1) := by decide +kernel
theorem dX6_seen_11 : decode cX6_seen 11 = .ok (.invokestatic 44, 3) := by decide +kernel
theorem dX6_seen_14 : decode cX6_seen 14 = .ok (.ifCond .eq 20, 3) := by decide +kernel
theorem dX6_seen_17 : decode cX6_seen 17 = .ok (.iload_n 2, 1) := by decide +kernel
theorem dX6_seen_18 : decode cX6_seen 18 = .ok (.iconst 0, 1) := by decide +kernel
theorem dX6_seen_19 : decode cX6_seen 19 = .ok (.aload_n 0, 1) := by decide +kernel
theorem dX6_seen_20 : decode cX6_seen 20 = .ok (.getfield 10, 3) := by decide +kernel
theorem dX6_seen_23 : decode cX6_seen 23 = .ok (.getfield 69, 3) := by decide +kernel
theorem dX6_seen_26 : decode cX6_seen 26 = .ok (.iconst 1, 1) := by decide +kernel
theorem dX6_seen_27 : decode cX6_seen 27 = .ok (.isub, 1) := by decide +kernel
theorem dX6_seen_28 : decode cX6_seen 28 = .ok (.invokestatic 44, 3) := by decide +kernel
theorem dX6_seen_31 : decode cX6_seen 31 = .ok (.ifCond .ne 5, 3) := by decide +kernel
theorem dX6_seen_34 : decode cX6_seen 34 = .ok (.iconst (-1), 1) := by decide +kernel
theorem dX6_seen_35 : decode cX6_seen 35 = .ok (.ireturn, 1) := by decide +kernel
theorem dX6_seen_36 : decode cX6_seen 36 = .ok (.aload_n 0, 1) := by decide +kernel
theorem dX6_seen_37 : decode cX6_seen 37 = .ok (.getfield 10, 3) := by decide +kernel
theorem dX6_seen_40 : decode cX6_seen 40 = .ok (.iload_n 1, 1) := by decide +kernel
theorem dX6_seen_41 : decode cX6_seen 41 = .ok (.iload_n 2, 1) := by decide +kernel
theorem dX6_seen_42 : decode cX6_seen 42 = .ok (.invokevirtual 164, 3) := by decide +kernel
theorem dX6_seen_45 : decode cX6_seen 45 = .ok (.istore 4, 2) := by decide +kernel
theorem dX6_seen_47 : decode cX6_seen 47 = .ok (.aload_n 0, 1) := by decide +kernel
theorem dX6_seen_48 : decode cX6_seen 48 = .ok (.getfield 10, 3) := by decide +kernel
theorem dX6_seen_51 : decode cX6_seen 51 = .ok (.iload 4, 2) := by decide +kernel
theorem dX6_seen_53 : decode cX6_seen 53 = .ok (.invokevirtual 108, 3) := by decide +kernel
theorem dX6_seen_56 : decode cX6_seen 56 = .ok (.ifCond .ne 14, 3) := by decide +kernel
theorem dX6_seen_59 : decode cX6_seen 59 = .ok (.iload_n 3, 1) := by decide +kernel
theorem dX6_seen_60 : decode cX6_seen 60 = .ok (.ifCond .eq 7, 3) := by decide +kernel
theorem dX6_seen_63 : decode cX6_seen 63 = .ok (.iconst 0, 1) := by decide +kernel
theorem dX6_seen_64 : decode cX6_seen 64 = .ok (.goto 5, 3) := by decide +kernel
theorem dX6_seen_67 : decode cX6_seen 67 = .ok (.bipush (-9), 2) := by decide +kernel
theorem dX6_seen_69 : decode cX6_seen 69 = .ok (.ireturn, 1) := by decide +kernel
theorem dX6_seen_70 : decode cX6_seen 70 = .ok (.iload_n 3, 1) := by decide +kernel
theorem dX6_seen_71 : decode cX6_seen 71 = .ok (.ifCond .eq 19, 3) := by decide +kernel
theorem dX6_seen_74 : decode cX6_seen 74 = .ok (.aload_n 0, 1) := by decide +kernel
theorem dX6_seen_75 : decode cX6_seen 75 = .ok (.getfield 10, 3) := by decide +kernel
theorem dX6_seen_78 : decode cX6_seen 78 = .ok (.getfield 98, 3) := by decide +kernel
theorem dX6_seen_81 : decode cX6_seen 81 = .ok (.iload 4, 2) := by decide +kernel
theorem dX6_seen_83 : decode cX6_seen 83 = .ok (.aaload, 1) := by decide +kernel
theorem dX6_seen_84 : decode cX6_seen 84 = .ok (.getfield 167, 3) := by decide +kernel
theorem dX6_seen_87 : decode cX6_seen 87 = .ok (.goto 5, 3) := by decide +kernel
theorem dX6_seen_90 : decode cX6_seen 90 = .ok (.iload 4, 2) := by decide +kernel
theorem dX6_seen_92 : decode cX6_seen 92 = .ok (.ireturn, 1) := by decide +kernel
theorem dX6_place_0 : decode cX6_place 0 = .ok (.aload_n 0, 1) := by decide +kernel
theorem dX6_place_1 : decode cX6_place 1 = .ok (.getfield 10, 3) := by decide +kernel
theorem dX6_place_4 : decode cX6_place 4 = .ok (.iload_n 1, 1) := by decide +kernel
theorem dX6_place_5 : decode cX6_place 5 = .ok (.invokevirtual 108, 3) := by decide +kernel
theorem dX6_place_8 : decode cX6_place 8 = .ok (.ifCond .eq 12, 3) := by decide +kernel
theorem dX6_place_11 : decode cX6_place 11 = .ok (.iload_n 2, 1) := by decide +kernel
theorem dX6_place_12 : decode cX6_place 12 = .ok (.iconst 0, 1) := by decide +kernel
theorem dX6_place_13 : decode cX6_place 13 = .ok (.iconst 3, 1) := by decide +kernel
theorem dX6_place_14 : decode cX6_place 14 = .ok (.invokestatic 44, 3) := by decide +kernel
theorem dX6_place_17 : decode cX6_place 17 = .ok (.ifCond .ne 5, 3) := by decide +kernel
theorem dX6_place_20 : decode cX6_place 20 = .ok (.iconst (-1), 1) := by decide +kernel
theorem dX6_place_21 : decode cX6_place 21 = .ok (.ireturn, 1) := by decide +kernel
theorem dX6_place_22 : decode cX6_place 22 = .ok (.aload_n 0, 1) := by decide +kernel
