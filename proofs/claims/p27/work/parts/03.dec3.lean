theorem dX6_place_23 : decode cX6_place 23 = .ok (.getfield 10, 3) := by decide +kernel
theorem dX6_place_26 : decode cX6_place 26 = .ok (.getfield 98, 3) := by decide +kernel
theorem dX6_place_29 : decode cX6_place 29 = .ok (.iload_n 1, 1) := by decide +kernel
theorem dX6_place_30 : decode cX6_place 30 = .ok (.aaload, 1) := by decide +kernel
theorem dX6_place_31 : decode cX6_place 31 = .ok (.getfield 112, 3) := by decide +kernel
theorem dX6_place_34 : decode cX6_place 34 = .ok (.ifCond .eq 6, 3) := by decide +kernel
theorem dX6_place_37 : decode cX6_place 37 = .ok (.bipush (-2), 2) := by decide +kernel
theorem dX6_place_39 : decode cX6_place 39 = .ok (.ireturn, 1) := by decide +kernel
theorem dX6_place_40 : decode cX6_place 40 = .ok (.aload_n 0, 1) := by decide +kernel
theorem dX6_place_41 : decode cX6_place 41 = .ok (.getfield 33, 3) := by decide +kernel
theorem dX6_place_44 : decode cX6_place 44 = .ok (.aload_n 0, 1) := by decide +kernel
theorem dX6_place_45 : decode cX6_place 45 = .ok (.getfield 10, 3) := by decide +kernel
theorem dX6_place_48 : decode cX6_place 48 = .ok (.invokevirtual 129, 3) := by decide +kernel
theorem dX6_place_51 : decode cX6_place 51 = .ok (.aload_n 0, 1) := by decide +kernel
theorem dX6_place_52 : decode cX6_place 52 = .ok (.getfield 33, 3) := by decide +kernel
theorem dX6_place_55 : decode cX6_place 55 = .ok (.aload_n 0, 1) := by decide +kernel
theorem dX6_place_56 : decode cX6_place 56 = .ok (.getfield 10, 3) := by decide +kernel
theorem dX6_place_59 : decode cX6_place 59 = .ok (.aload_n 0, 1) := by decide +kernel
theorem dX6_place_60 : decode cX6_place 60 = .ok (.getfield 10, 3) := by decide +kernel
theorem dX6_place_63 : decode cX6_place 63 = .ok (.getfield 98, 3) := by decide +kernel
theorem dX6_place_66 : decode cX6_place 66 = .ok (.iload_n 1, 1) := by decide +kernel
theorem dX6_place_67 : decode cX6_place 67 = .ok (.aaload, 1) := by decide +kernel
theorem dX6_place_68 : decode cX6_place 68 = .ok (.iconst 1, 1) := by decide +kernel
theorem dX6_place_69 : decode cX6_place 69 = .ok (.invokevirtual 170, 3) := by decide +kernel
theorem dX6_place_72 : decode cX6_place 72 = .ok (.aload_n 0, 1) := by decide +kernel
theorem dX6_place_73 : decode cX6_place 73 = .ok (.getfield 33, 3) := by decide +kernel
theorem dX6_place_76 : decode cX6_place 76 = .ok (.getfield 174, 3) := by decide +kernel
theorem dX6_place_79 : decode cX6_place 79 = .ok (.ifCond .ne 6, 3) := by decide +kernel
theorem dX6_place_82 : decode cX6_place 82 = .ok (.bipush (-9), 2) := by decide +kernel
theorem dX6_place_84 : decode cX6_place 84 = .ok (.ireturn, 1) := by decide +kernel
theorem dX6_place_85 : decode cX6_place 85 = .ok (.iload_n 2, 1) := by decide +kernel
theorem dX6_place_86 : decode cX6_place 86 = .ok (.tableswitch 58 0 2 #[26, 34, 42], 26) := by decide +kernel
theorem dX6_place_112 : decode cX6_place 112 = .ok (.aload_n 0, 1) := by decide +kernel
theorem dX6_place_113 : decode cX6_place 113 = .ok (.getfield 33, 3) := by decide +kernel
theorem dX6_place_116 : decode cX6_place 116 = .ok (.getfield 177, 3) := by decide +kernel
theorem dX6_place_119 : decode cX6_place 119 = .ok (.ireturn, 1) := by decide +kernel
theorem dX6_place_120 : decode cX6_place 120 = .ok (.aload_n 0, 1) := by decide +kernel
theorem dX6_place_121 : decode cX6_place 121 = .ok (.getfield 33, 3) := by decide +kernel
theorem dX6_place_124 : decode cX6_place 124 = .ok (.getfield 180, 3) := by decide +kernel
theorem dX6_place_127 : decode cX6_place 127 = .ok (.ireturn, 1) := by decide +kernel
theorem dX6_place_128 : decode cX6_place 128 = .ok (.aload_n 0, 1) := by decide +kernel
theorem dX6_place_129 : decode cX6_place 129 = .ok (.getfield 33, 3) := by decide +kernel
theorem dX6_place_132 : decode cX6_place 132 = .ok (.getfield 183, 3) := by decide +kernel
theorem dX6_place_135 : decode cX6_place 135 = .ok (.ifCond .eq 7, 3) := by decide +kernel
theorem dX6_place_138 : decode cX6_place 138 = .ok (.iconst 1, 1) := by decide +kernel
theorem dX6_place_139 : decode cX6_place 139 = .ok (.goto 4, 3) := by decide +kernel
theorem dX6_place_142 : decode cX6_place 142 = .ok (.iconst 0, 1) := by decide +kernel
theorem dX6_place_143 : decode cX6_place 143 = .ok (.ireturn, 1) := by decide +kernel
theorem dX6_place_144 : decode cX6_place 144 = .ok (.aload_n 0, 1) := by decide +kernel
theorem dX6_place_145 : decode cX6_place 145 = .ok (.getfield 33, 3) := by decide +kernel
theorem dX6_place_148 : decode cX6_place 148 = .ok (.getfield 186, 3) := by decide +kernel
theorem dX6_place_151 : decode cX6_place 151 = .ok (.aload_n 0, 1) := by decide +kernel
theorem dX6_place_152 : decode cX6_place 152 = .ok (.getfield 10, 3) := by decide +kernel
theorem dX6_place_155 : decode cX6_place 155 = .ok (.getfield 98, 3) := by decide +kernel
theorem dX6_place_158 : decode cX6_place 158 = .ok (.iload_n 1, 1) := by decide +kernel
theorem dX6_place_159 : decode cX6_place 159 = .ok (.aaload, 1) := by decide +kernel
theorem dX6_place_160 : decode cX6_place 160 = .ok (.invokevirtual 189, 3) := by decide +kernel
theorem dX6_place_163 : decode cX6_place 163 = .ok (.iadd, 1) := by decide +kernel
theorem dX6_place_164 : decode cX6_place 164 = .ok (.ireturn, 1) := by decide +kernel
theorem dX6_places_0 : decode cX6_places 0 = .ok (.aload_n 0, 1) := by decide +kernel
theorem dX6_places_1 : decode cX6_places 1 = .ok (.getfield 10, 3) := by decide +kernel
theorem dX6_places_4 : decode cX6_places 4 = .ok (.iload_n 1, 1) := by decide +kernel
theorem dX6_places_5 : decode cX6_places 5 = .ok (.invokevirtual 108, 3) := by decide +kernel
theorem dX6_places_8 : decode cX6_places 8 = .ok (.ifCond .ne 5, 3) := by decide +kernel
theorem dX6_places_11 : decode cX6_places 11 = .ok (.iconst (-1), 1) := by decide +kernel
theorem dX6_places_12 : decode cX6_places 12 = .ok (.ireturn, 1) := by decide +kernel
theorem dX6_places_13 : decode cX6_places 13 = .ok (.aload_n 0, 1) := by decide +kernel
theorem dX6_places_14 : decode cX6_places 14 = .ok (.getfield 10, 3) := by decide +kernel
theorem dX6_places_17 : decode cX6_places 17 = .ok (.getfield 98, 3) := by decide +kernel
theorem dX6_places_20 : decode cX6_places 20 = .ok (.iload_n 1, 1) := by decide +kernel
theorem dX6_places_21 : decode cX6_places 21 = .ok (.aaload, 1) := by decide +kernel
theorem dX6_places_22 : decode cX6_places 22 = .ok (.getfield 112, 3) := by decide +kernel
theorem dX6_places_25 : decode cX6_places 25 = .ok (.ifCond .eq 6, 3) := by decide +kernel
theorem dX6_places_28 : decode cX6_places 28 = .ok (.bipush (-2), 2) := by decide +kernel
theorem dX6_places_30 : decode cX6_places 30 = .ok (.ireturn, 1) := by decide +kernel
theorem dX6_places_31 : decode cX6_places 31 = .ok (.aload_n 0, 1) := by decide +kernel
theorem dX6_places_32 : decode cX6_places 32 = .ok (.getfield 33, 3) := by decide +kernel
theorem dX6_places_35 : decode cX6_places 35 = .ok (.aload_n 0, 1) := by decide +kernel
theorem dX6_places_36 : decode cX6_places 36 = .ok (.getfield 10, 3) := by decide +kernel
theorem dX6_places_39 : decode cX6_places 39 = .ok (.invokevirtual 129, 3) := by decide +kernel
theorem dX6_places_42 : decode cX6_places 42 = .ok (.aload_n 0, 1) := by decide +kernel
theorem dX6_places_43 : decode cX6_places 43 = .ok (.getfield 33, 3) := by decide +kernel
theorem dX6_places_46 : decode cX6_places 46 = .ok (.aload_n 0, 1) := by decide +kernel
theorem dX6_places_47 : decode cX6_places 47 = .ok (.getfield 10, 3) := by decide +kernel
theorem dX6_places_50 : decode cX6_places 50 = .ok (.aload_n 0, 1) := by decide +kernel
theorem dX6_places_51 : decode cX6_places 51 = .ok (.getfield 10, 3) := by decide +kernel
theorem dX6_places_54 : decode cX6_places 54 = .ok (.getfield 98, 3) := by decide +kernel
theorem dX6_places_57 : decode cX6_places 57 = .ok (.iload_n 1, 1) := by decide +kernel
theorem dX6_places_58 : decode cX6_places 58 = .ok (.aaload, 1) := by decide +kernel
theorem dX6_places_59 : decode cX6_places 59 = .ok (.iconst 0, 1) := by decide +kernel
theorem dX6_places_60 : decode cX6_places 60 = .ok (.invokevirtual 170, 3) := by decide +kernel
theorem dX6_places_63 : decode cX6_places 63 = .ok (.aload_n 0, 1) := by decide +kernel
theorem dX6_places_64 : decode cX6_places 64 = .ok (.getfield 33, 3) := by decide +kernel
theorem dX6_places_67 : decode cX6_places 67 = .ok (.getfield 174, 3) := by decide +kernel
theorem dX6_places_70 : decode cX6_places 70 = .ok (.ireturn, 1) := by decide +kernel
theorem dX6_pack_0 : decode cX6_pack 0 = .ok (.aload_n 0, 1) := by decide +kernel
theorem dX6_pack_1 : decode cX6_pack 1 = .ok (.getfield 40, 3) := by decide +kernel
theorem dX6_pack_4 : decode cX6_pack 4 = .ok (.aload_n 0, 1) := by decide +kernel
theorem dX6_pack_5 : decode cX6_pack 5 = .ok (.getfield 10, 3) := by decide +kernel
theorem dX6_pack_8 : decode cX6_pack 8 = .ok (.invokevirtual 192, 3) := by decide +kernel
theorem dX6_pack_11 : decode cX6_pack 11 = .ok (.aload_n 0, 1) := by decide +kernel
theorem dX6_pack_12 : decode cX6_pack 12 = .ok (.invokevirtual 195, 3) := by decide +kernel
theorem dX6_pack_15 : decode cX6_pack 15 = .ok (.ireturn, 1) := by decide +kernel
theorem dX6_ifPacked_0 : decode cX6_ifPacked 0 = .ok (.iload_n 2, 1) := by decide +kernel
theorem dX6_ifPacked_1 : decode cX6_ifPacked 1 = .ok (.iconst 0, 1) := by decide +kernel
theorem dX6_ifPacked_2 : decode cX6_ifPacked 2 = .ok (.iconst 3, 1) := by decide +kernel
theorem dX6_ifPacked_3 : decode cX6_ifPacked 3 = .ok (.invokestatic 44, 3) := by decide +kernel
theorem dX6_ifPacked_6 : decode cX6_ifPacked 6 = .ok (.ifCond .ne 11, 3) := by decide +kernel
theorem dX6_ifPacked_9 : decode cX6_ifPacked 9 = .ok (.iload_n 2, 1) := by decide +kernel
theorem dX6_ifPacked_10 : decode cX6_ifPacked 10 = .ok (.bipush 10, 2) := by decide +kernel
theorem dX6_ifPacked_12 : decode cX6_ifPacked 12 = .ok (.if_icmp .ge 5, 3) := by decide +kernel
theorem dX6_ifPacked_15 : decode cX6_ifPacked 15 = .ok (.iconst (-1), 1) := by decide +kernel
theorem dX6_ifPacked_16 : decode cX6_ifPacked 16 = .ok (.ireturn, 1) := by decide +kernel
theorem dX6_ifPacked_17 : decode cX6_ifPacked 17 = .ok (.iload_n 1, 1) := by decide +kernel
theorem dX6_ifPacked_18 : decode cX6_ifPacked 18 = .ok (.ifCond .eq 17, 3) := by decide +kernel
theorem dX6_ifPacked_21 : decode cX6_ifPacked 21 = .ok (.aload_n 0, 1) := by decide +kernel
theorem dX6_ifPacked_22 : decode cX6_ifPacked 22 = .ok (.getfield 10, 3) := by decide +kernel
theorem dX6_ifPacked_25 : decode cX6_ifPacked 25 = .ok (.getfield 95, 3) := by decide +kernel
theorem dX6_ifPacked_28 : decode cX6_ifPacked 28 = .ok (.iconst 5, 1) := by decide +kernel
theorem dX6_ifPacked_29 : decode cX6_ifPacked 29 = .ok (.if_icmp .le 6, 3) := by decide +kernel
theorem dX6_ifPacked_32 : decode cX6_ifPacked 32 = .ok (.bipush (-2), 2) := by decide +kernel
theorem dX6_ifPacked_34 : decode cX6_ifPacked 34 = .ok (.ireturn, 1) := by decide +kernel
theorem dX6_ifPacked_35 : decode cX6_ifPacked 35 = .ok (.iload_n 1, 1) := by decide +kernel
theorem dX6_ifPacked_36 : decode cX6_ifPacked 36 = .ok (.ifCond .eq 17, 3) := by decide +kernel
theorem dX6_ifPacked_39 : decode cX6_ifPacked 39 = .ok (.aload_n 0, 1) := by decide +kernel
theorem dX6_ifPacked_40 : decode cX6_ifPacked 40 = .ok (.getfield 40, 3) := by decide +kernel
theorem dX6_ifPacked_43 : decode cX6_ifPacked 43 = .ok (.aload_n 0, 1) := by decide +kernel
theorem dX6_ifPacked_44 : decode cX6_ifPacked 44 = .ok (.getfield 10, 3) := by decide +kernel
theorem dX6_ifPacked_47 : decode cX6_ifPacked 47 = .ok (.invokevirtual 198, 3) := by decide +kernel
theorem dX6_ifPacked_50 : decode cX6_ifPacked 50 = .ok (.goto 14, 3) := by decide +kernel
theorem dX6_ifPacked_53 : decode cX6_ifPacked 53 = .ok (.aload_n 0, 1) := by decide +kernel
theorem dX6_ifPacked_54 : decode cX6_ifPacked 54 = .ok (.getfield 40, 3) := by decide +kernel
theorem dX6_ifPacked_57 : decode cX6_ifPacked 57 = .ok (.aload_n 0, 1) := by decide +kernel
theorem dX6_ifPacked_58 : decode cX6_ifPacked 58 = .ok (.getfield 10, 3) := by decide +kernel
theorem dX6_ifPacked_61 : decode cX6_ifPacked 61 = .ok (.invokevirtual 192, 3) := by decide +kernel
theorem dX6_ifPacked_64 : decode cX6_ifPacked 64 = .ok (.iload_n 2, 1) := by decide +kernel
theorem dX6_ifPacked_65 : decode cX6_ifPacked 65 = .ok (.iconst 4, 1) := by decide +kernel
theorem dX6_ifPacked_66 : decode cX6_ifPacked 66 = .ok (.if_icmp .ge 13, 3) := by decide +kernel
theorem dX6_ifPacked_69 : decode cX6_ifPacked 69 = .ok (.aload_n 0, 1) := by decide +kernel
theorem dX6_ifPacked_70 : decode cX6_ifPacked 70 = .ok (.getfield 40, 3) := by decide +kernel
theorem dX6_ifPacked_73 : decode cX6_ifPacked 73 = .ok (.getfield 201, 3) := by decide +kernel
theorem dX6_ifPacked_76 : decode cX6_ifPacked 76 = .ok (.iload_n 2, 1) := by decide +kernel
theorem dX6_ifPacked_77 : decode cX6_ifPacked 77 = .ok (.iaload, 1) := by decide +kernel
theorem dX6_ifPacked_78 : decode cX6_ifPacked 78 = .ok (.ireturn, 1) := by decide +kernel
theorem dX6_ifPacked_79 : decode cX6_ifPacked 79 = .ok (.iload_n 2, 1) := by decide +kernel
theorem dX6_ifPacked_80 : decode cX6_ifPacked 80 = .ok (.bipush 10, 2) := by decide +kernel
theorem dX6_ifPacked_82 : decode cX6_ifPacked 82 = .ok (.isub, 1) := by decide +kernel
theorem dX6_ifPacked_83 : decode cX6_ifPacked 83 = .ok (.istore_n 3, 1) := by decide +kernel
theorem dX6_ifPacked_84 : decode cX6_ifPacked 84 = .ok (.aload_n 0, 1) := by decide +kernel
theorem dX6_ifPacked_85 : decode cX6_ifPacked 85 = .ok (.getfield 10, 3) := by decide +kernel
theorem dX6_ifPacked_88 : decode cX6_ifPacked 88 = .ok (.iload_n 3, 1) := by decide +kernel
theorem dX6_ifPacked_89 : decode cX6_ifPacked 89 = .ok (.invokevirtual 108, 3) := by decide +kernel
theorem dX6_ifPacked_92 : decode cX6_ifPacked 92 = .ok (.ifCond .eq 15, 3) := by decide +kernel
theorem dX6_ifPacked_95 : decode cX6_ifPacked 95 = .ok (.aload_n 0, 1) := by decide +kernel
theorem dX6_ifPacked_96 : decode cX6_ifPacked 96 = .ok (.getfield 40, 3) := by decide +kernel
theorem dX6_ifPacked_99 : decode cX6_ifPacked 99 = .ok (.getfield 205, 3) := by decide +kernel
theorem dX6_ifPacked_102 : decode cX6_ifPacked 102 = .ok (.iload_n 3, 1) := by decide +kernel
theorem dX6_ifPacked_103 : decode cX6_ifPacked 103 = .ok (.iaload, 1) := by decide +kernel
theorem dX6_ifPacked_104 : decode cX6_ifPacked 104 = .ok (.goto 5, 3) := by decide +kernel
theorem dX6_ifPacked_107 : decode cX6_ifPacked 107 = .ok (.bipush (-9), 2) := by decide +kernel
theorem dX6_ifPacked_109 : decode cX6_ifPacked 109 = .ok (.ireturn, 1) := by decide +kernel
theorem dX6_undo_0 : decode cX6_undo 0 = .ok (.aload_n 0, 1) := by decide +kernel
theorem dX6_undo_1 : decode cX6_undo 1 = .ok (.getfield 19, 3) := by decide +kernel
theorem dX6_undo_4 : decode cX6_undo 4 = .ok (.getfield 211, 3) := by decide +kernel
theorem dX6_undo_7 : decode cX6_undo 7 = .ok (.ifCond .ne 6, 3) := by decide +kernel
theorem dX6_undo_10 : decode cX6_undo 10 = .ok (.bipush (-2), 2) := by decide +kernel
theorem dX6_undo_12 : decode cX6_undo 12 = .ok (.ireturn, 1) := by decide +kernel
theorem dX6_undo_13 : decode cX6_undo 13 = .ok (.aload_n 0, 1) := by decide +kernel
theorem dX6_undo_14 : decode cX6_undo 14 = .ok (.getfield 19, 3) := by decide +kernel
theorem dX6_undo_17 : decode cX6_undo 17 = .ok (.aload_n 0, 1) := by decide +kernel
theorem dX6_undo_18 : decode cX6_undo 18 = .ok (.getfield 10, 3) := by decide +kernel
theorem dX6_undo_21 : decode cX6_undo 21 = .ok (.invokevirtual 214, 3) := by decide +kernel
theorem dX6_undo_24 : decode cX6_undo 24 = .ok (.aload_n 0, 1) := by decide +kernel
theorem dX6_undo_25 : decode cX6_undo 25 = .ok (.getfield 19, 3) := by decide +kernel
theorem dX6_undo_28 : decode cX6_undo 28 = .ok (.getfield 211, 3) := by decide +kernel
theorem dX6_undo_31 : decode cX6_undo 31 = .ok (.ireturn, 1) := by decide +kernel
theorem dX6_count_0 : decode cX6_count 0 = .ok (.iload_n 1, 1) := by decide +kernel
theorem dX6_count_1 : decode cX6_count 1 = .ok (.tableswitch 174 0 12 #[67, 75, 83, 91, 99, 107, 118, 126, 134, 142, 150, 158, 166], 67) := by decide +kernel
theorem dX6_count_68 : decode cX6_count 68 = .ok (.aload_n 0, 1) := by decide +kernel
theorem dX6_count_69 : decode cX6_count 69 = .ok (.getfield 10, 3) := by decide +kernel
theorem dX6_count_72 : decode cX6_count 72 = .ok (.getfield 65, 3) := by decide +kernel
theorem dX6_count_75 : decode cX6_count 75 = .ok (.ireturn, 1) := by decide +kernel
theorem dX6_count_76 : decode cX6_count 76 = .ok (.aload_n 0, 1) := by decide +kernel
theorem dX6_count_77 : decode cX6_count 77 = .ok (.getfield 10, 3) := by decide +kernel
theorem dX6_count_80 : decode cX6_count 80 = .ok (.getfield 69, 3) := by decide +kernel
theorem dX6_count_83 : decode cX6_count 83 = .ok (.ireturn, 1) := by decide +kernel
theorem dX6_count_84 : decode cX6_count 84 = .ok (.aload_n 0, 1) := by decide +kernel
theorem dX6_count_85 : decode cX6_count 85 = .ok (.getfield 10, 3) := by decide +kernel
theorem dX6_count_88 : decode cX6_count 88 = .ok (.getfield 72, 3) := by decide +kernel
theorem dX6_count_91 : decode cX6_count 91 = .ok (.ireturn, 1) := by decide +kernel
theorem dX6_count_92 : decode cX6_count 92 = .ok (.aload_n 0, 1) := by decide +kernel
theorem dX6_count_93 : decode cX6_count 93 = .ok (.getfield 10, 3) := by decide +kernel
theorem dX6_count_96 : decode cX6_count 96 = .ok (.getfield 75, 3) := by decide +kernel
theorem dX6_count_99 : decode cX6_count 99 = .ok (.ireturn, 1) := by decide +kernel
theorem dX6_count_100 : decode cX6_count 100 = .ok (.aload_n 0, 1) := by decide +kernel
theorem dX6_count_101 : decode cX6_count 101 = .ok (.getfield 10, 3) := by decide +kernel
theorem dX6_count_104 : decode cX6_count 104 = .ok (.getfield 95, 3) := by decide +kernel
theorem dX6_count_107 : decode cX6_count 107 = .ok (.ireturn, 1) := by decide +kernel
theorem dX6_count_108 : decode cX6_count 108 = .ok (.aload_n 0, 1) := by decide +kernel
theorem dX6_count_109 : decode cX6_count 109 = .ok (.getfield 10, 3) := by decide +kernel
theorem dX6_count_112 : decode cX6_count 112 = .ok (.invokevirtual 48, 3) := by decide +kernel
theorem dX6_count_115 : decode cX6_count 115 = .ok (.invokestatic 52, 3) := by decide +kernel
theorem dX6_count_118 : decode cX6_count 118 = .ok (.ireturn, 1) := by decide +kernel
theorem dX6_count_119 : decode cX6_count 119 = .ok (.aload_n 0, 1) := by decide +kernel
theorem dX6_count_120 : decode cX6_count 120 = .ok (.getfield 10, 3) := by decide +kernel
theorem dX6_count_123 : decode cX6_count 123 = .ok (.invokevirtual 217, 3) := by decide +kernel
theorem dX6_count_126 : decode cX6_count 126 = .ok (.ireturn, 1) := by decide +kernel
theorem dX6_count_127 : decode cX6_count 127 = .ok (.aload_n 0, 1) := by decide +kernel
theorem dX6_count_128 : decode cX6_count 128 = .ok (.getfield 10, 3) := by decide +kernel
theorem dX6_count_131 : decode cX6_count 131 = .ok (.invokevirtual 220, 3) := by decide +kernel
theorem dX6_count_134 : decode cX6_count 134 = .ok (.ireturn, 1) := by decide +kernel
theorem dX6_count_135 : decode cX6_count 135 = .ok (.aload_n 0, 1) := by decide +kernel
theorem dX6_count_136 : decode cX6_count 136 = .ok (.getfield 10, 3) := by decide +kernel
theorem dX6_count_139 : decode cX6_count 139 = .ok (.invokevirtual 223, 3) := by decide +kernel
theorem dX6_count_142 : decode cX6_count 142 = .ok (.ireturn, 1) := by decide +kernel
theorem dX6_count_143 : decode cX6_count 143 = .ok (.aload_n 0, 1) := by decide +kernel
theorem dX6_count_144 : decode cX6_count 144 = .ok (.getfield 10, 3) := by decide +kernel
theorem dX6_count_147 : decode cX6_count 147 = .ok (.invokevirtual 226, 3) := by decide +kernel
theorem dX6_count_150 : decode cX6_count 150 = .ok (.ireturn, 1) := by decide +kernel
theorem dX6_count_151 : decode cX6_count 151 = .ok (.aload_n 0, 1) := by decide +kernel
theorem dX6_count_152 : decode cX6_count 152 = .ok (.getfield 10, 3) := by decide +kernel
theorem dX6_count_155 : decode cX6_count 155 = .ok (.invokevirtual 229, 3) := by decide +kernel
theorem dX6_count_158 : decode cX6_count 158 = .ok (.ireturn, 1) := by decide +kernel
theorem dX6_count_159 : decode cX6_count 159 = .ok (.aload_n 0, 1) := by decide +kernel
theorem dX6_count_160 : decode cX6_count 160 = .ok (.getfield 26, 3) := by decide +kernel
theorem dX6_count_163 : decode cX6_count 163 = .ok (.getfield 78, 3) := by decide +kernel
theorem dX6_count_166 : decode cX6_count 166 = .ok (.ireturn, 1) := by decide +kernel
theorem dX6_count_167 : decode cX6_count 167 = .ok (.aload_n 0, 1) := by decide +kernel
theorem dX6_count_168 : decode cX6_count 168 = .ok (.getfield 19, 3) := by decide +kernel
theorem dX6_count_171 : decode cX6_count 171 = .ok (.getfield 211, 3) := by decide +kernel
theorem dX6_count_174 : decode cX6_count 174 = .ok (.ireturn, 1) := by decide +kernel
theorem dX6_count_175 : decode cX6_count 175 = .ok (.iconst (-1), 1) := by decide +kernel
theorem dX6_count_176 : decode cX6_count 176 = .ok (.ireturn, 1) := by decide +kernel
theorem dX6_isWithin_0 : decode cX6_isWithin 0 = .ok (.iload_n 0, 1) := by decide +kernel
theorem dX6_isWithin_1 : decode cX6_isWithin 1 = .ok (.iload_n 1, 1) := by decide +kernel
theorem dX6_isWithin_2 : decode cX6_isWithin 2 = .ok (.if_icmp .lt 12, 3) := by decide +kernel
theorem dX6_isWithin_5 : decode cX6_isWithin 5 = .ok (.iload_n 0, 1) := by decide +kernel
theorem dX6_isWithin_6 : decode cX6_isWithin 6 = .ok (.iload_n 2, 1) := by decide +kernel
theorem dX6_isWithin_7 : decode cX6_isWithin 7 = .ok (.if_icmp .gt 7, 3) := by decide +kernel
theorem dX6_isWithin_10 : decode cX6_isWithin 10 = .ok (.iconst 1, 1) := by decide +kernel
theorem dX6_isWithin_11 : decode cX6_isWithin 11 = .ok (.goto 4, 3) := by decide +kernel
theorem dX6_isWithin_14 : decode cX6_isWithin 14 = .ok (.iconst 0, 1) := by decide +kernel
theorem dX6_isWithin_15 : decode cX6_isWithin 15 = .ok (.ireturn, 1) := by decide +kernel
theorem dX6_placedProperty_0 : decode cX6_placedProperty 0 = .ok (.aload_n 0, 1) := by decide +kernel
theorem dX6_placedProperty_1 : decode cX6_placedProperty 1 = .ok (.getfield 10, 3) := by decide +kernel
theorem dX6_placedProperty_4 : decode cX6_placedProperty 4 = .ok (.getfield 98, 3) := by decide +kernel
theorem dX6_placedProperty_7 : decode cX6_placedProperty 7 = .ok (.iload_n 1, 1) := by decide +kernel
theorem dX6_placedProperty_8 : decode cX6_placedProperty 8 = .ok (.aaload, 1) := by decide +kernel
theorem dX6_placedProperty_9 : decode cX6_placedProperty 9 = .ok (.astore_n 3, 1) := by decide +kernel
theorem dX6_placedProperty_10 : decode cX6_placedProperty 10 = .ok (.iload_n 2, 1) := by decide +kernel
theorem dX6_placedProperty_11 : decode cX6_placedProperty 11 = .ok (.tableswitch 126 7 14 #[45, 50, 55, 60, 65, 84, 93, 110], 45) := by decide +kernel
theorem dX6_placedProperty_56 : decode cX6_placedProperty 56 = .ok (.aload_n 3, 1) := by decide +kernel
theorem dX6_placedProperty_57 : decode cX6_placedProperty 57 = .ok (.getfield 252, 3) := by decide +kernel
theorem dX6_placedProperty_60 : decode cX6_placedProperty 60 = .ok (.ireturn, 1) := by decide +kernel
theorem dX6_placedProperty_61 : decode cX6_placedProperty 61 = .ok (.aload_n 3, 1) := by decide +kernel
theorem dX6_placedProperty_62 : decode cX6_placedProperty 62 = .ok (.getfield 255, 3) := by decide +kernel
theorem dX6_placedProperty_65 : decode cX6_placedProperty 65 = .ok (.ireturn, 1) := by decide +kernel
theorem dX6_placedProperty_66 : decode cX6_placedProperty 66 = .ok (.aload_n 3, 1) := by decide +kernel
theorem dX6_placedProperty_67 : decode cX6_placedProperty 67 = .ok (.getfield 150, 3) := by decide +kernel
theorem dX6_placedProperty_70 : decode cX6_placedProperty 70 = .ok (.ireturn, 1) := by decide +kernel
theorem dX6_placedProperty_71 : decode cX6_placedProperty 71 = .ok (.aload_n 3, 1) := by decide +kernel
theorem dX6_placedProperty_72 : decode cX6_placedProperty 72 = .ok (.getfield 167, 3) := by decide +kernel
theorem dX6_placedProperty_75 : decode cX6_placedProperty 75 = .ok (.ireturn, 1) := by decide +kernel
theorem dX6_placedProperty_76 : decode cX6_placedProperty 76 = .ok (.aload_n 0, 1) := by decide +kernel
theorem dX6_placedProperty_77 : decode cX6_placedProperty 77 = .ok (.getfield 10, 3) := by decide +kernel
theorem dX6_placedProperty_80 : decode cX6_placedProperty 80 = .ok (.iload_n 1, 1) := by decide +kernel
theorem dX6_placedProperty_81 : decode cX6_placedProperty 81 = .ok (.aload_n 0, 1) := by decide +kernel
theorem dX6_placedProperty_82 : decode cX6_placedProperty 82 = .ok (.getfield 10, 3) := by decide +kernel
theorem dX6_placedProperty_85 : decode cX6_placedProperty 85 = .ok (.invokevirtual 48, 3) := by decide +kernel
theorem dX6_placedProperty_88 : decode cX6_placedProperty 88 = .ok (.invokevirtual 258, 3) := by decide +kernel
theorem dX6_placedProperty_91 : decode cX6_placedProperty 91 = .ok (.invokestatic 52, 3) := by decide +kernel
theorem dX6_placedProperty_94 : decode cX6_placedProperty 94 = .ok (.ireturn, 1) := by decide +kernel
theorem dX6_placedProperty_95 : decode cX6_placedProperty 95 = .ok (.aload_n 0, 1) := by decide +kernel
theorem dX6_placedProperty_96 : decode cX6_placedProperty 96 = .ok (.getfield 10, 3) := by decide +kernel
theorem dX6_placedProperty_99 : decode cX6_placedProperty 99 = .ok (.iload_n 1, 1) := by decide +kernel
theorem dX6_placedProperty_100 : decode cX6_placedProperty 100 = .ok (.invokevirtual 261, 3) := by decide +kernel
theorem dX6_placedProperty_103 : decode cX6_placedProperty 103 = .ok (.ireturn, 1) := by decide +kernel
theorem dX6_placedProperty_104 : decode cX6_placedProperty 104 = .ok (.aload_n 0, 1) := by decide +kernel
theorem dX6_placedProperty_105 : decode cX6_placedProperty 105 = .ok (.getfield 10, 3) := by decide +kernel
theorem dX6_placedProperty_108 : decode cX6_placedProperty 108 = .ok (.iload_n 1, 1) := by decide +kernel
theorem dX6_placedProperty_109 : decode cX6_placedProperty 109 = .ok (.invokevirtual 151, 3) := by decide +kernel
theorem dX6_placedProperty_112 : decode cX6_placedProperty 112 = .ok (.ifCond .eq 7, 3) := by decide +kernel
theorem dX6_placedProperty_115 : decode cX6_placedProperty 115 = .ok (.iconst 1, 1) := by decide +kernel
theorem dX6_placedProperty_116 : decode cX6_placedProperty 116 = .ok (.goto 4, 3) := by decide +kernel
theorem dX6_placedProperty_119 : decode cX6_placedProperty 119 = .ok (.iconst 0, 1) := by decide +kernel
theorem dX6_placedProperty_120 : decode cX6_placedProperty 120 = .ok (.ireturn, 1) := by decide +kernel
theorem dX6_placedProperty_121 : decode cX6_placedProperty 121 = .ok (.aload_n 0, 1) := by decide +kernel
theorem dX6_placedProperty_122 : decode cX6_placedProperty 122 = .ok (.getfield 10, 3) := by decide +kernel
theorem dX6_placedProperty_125 : decode cX6_placedProperty 125 = .ok (.iload_n 1, 1) := by decide +kernel
theorem dX6_placedProperty_126 : decode cX6_placedProperty 126 = .ok (.aload_n 0, 1) := by decide +kernel
theorem dX6_placedProperty_127 : decode cX6_placedProperty 127 = .ok (.getfield 10, 3) := by decide +kernel
theorem dX6_placedProperty_130 : decode cX6_placedProperty 130 = .ok (.invokevirtual 48, 3) := by decide +kernel
theorem dX6_placedProperty_133 : decode cX6_placedProperty 133 = .ok (.invokevirtual 258, 3) := by decide +kernel
theorem dX6_placedProperty_136 : decode cX6_placedProperty 136 = .ok (.ireturn, 1) := by decide +kernel
theorem dX6_placedProperty_137 : decode cX6_placedProperty 137 = .ok (.aload_n 3, 1) := by decide +kernel
theorem dX6_placedProperty_138 : decode cX6_placedProperty 138 = .ok (.getfield 264, 3) := by decide +kernel
theorem dX6_placedProperty_141 : decode cX6_placedProperty 141 = .ok (.ireturn, 1) := by decide +kernel
theorem dX6_takeOverPacked_0 : decode cX6_takeOverPacked 0 = .ok (.aload_n 0, 1) := by decide +kernel
theorem dX6_takeOverPacked_1 : decode cX6_takeOverPacked 1 = .ok (.getfield 19, 3) := by decide +kernel
theorem dX6_takeOverPacked_4 : decode cX6_takeOverPacked 4 = .ok (.aload_n 0, 1) := by decide +kernel
theorem dX6_takeOverPacked_5 : decode cX6_takeOverPacked 5 = .ok (.getfield 10, 3) := by decide +kernel
theorem dX6_takeOverPacked_8 : decode cX6_takeOverPacked 8 = .ok (.invokevirtual 58, 3) := by decide +kernel
theorem dX6_takeOverPacked_11 : decode cX6_takeOverPacked 11 = .ok (.aload_n 0, 1) := by decide +kernel
theorem dX6_takeOverPacked_12 : decode cX6_takeOverPacked 12 = .ok (.getfield 10, 3) := by decide +kernel
theorem dX6_takeOverPacked_15 : decode cX6_takeOverPacked 15 = .ok (.aload_n 0, 1) := by decide +kernel
theorem dX6_takeOverPacked_16 : decode cX6_takeOverPacked 16 = .ok (.getfield 40, 3) := by decide +kernel
theorem dX6_takeOverPacked_19 : decode cX6_takeOverPacked 19 = .ok (.getfield 265, 3) := by decide +kernel
theorem dX6_takeOverPacked_22 : decode cX6_takeOverPacked 22 = .ok (.invokevirtual 89, 3) := by decide +kernel
theorem dX6_takeOverPacked_25 : decode cX6_takeOverPacked 25 = .ok (.aload_n 0, 1) := by decide +kernel
theorem dX6_takeOverPacked_26 : decode cX6_takeOverPacked 26 = .ok (.getfield 40, 3) := by decide +kernel
theorem dX6_takeOverPacked_29 : decode cX6_takeOverPacked 29 = .ok (.getfield 201, 3) := by decide +kernel
theorem dX6_takeOverPacked_32 : decode cX6_takeOverPacked 32 = .ok (.iconst 0, 1) := by decide +kernel
theorem dX6_takeOverPacked_33 : decode cX6_takeOverPacked 33 = .ok (.iaload, 1) := by decide +kernel
theorem dX6_takeOverPacked_34 : decode cX6_takeOverPacked 34 = .ok (.ireturn, 1) := by decide +kernel
theorem dJ6_bitCount_0f7a4_0 : decode cJ6_bitCount_0f7a4 0 = .ok (.iload_n 0, 1) := by decide +kernel
theorem dJ6_bitCount_0f7a4_1 : decode cJ6_bitCount_0f7a4 1 = .ok (.iload_n 0, 1) := by decide +kernel
theorem dJ6_bitCount_0f7a4_2 : decode cJ6_bitCount_0f7a4 2 = .ok (.iconst 1, 1) := by decide +kernel
theorem dJ6_bitCount_0f7a4_3 : decode cJ6_bitCount_0f7a4 3 = .ok (.iushr, 1) := by decide +kernel
theorem dJ6_bitCount_0f7a4_4 : decode cJ6_bitCount_0f7a4 4 = .ok (.ldc_w 265, 3) := by decide +kernel
theorem dJ6_bitCount_0f7a4_7 : decode cJ6_bitCount_0f7a4 7 = .ok (.iand, 1) := by decide +kernel
theorem dJ6_bitCount_0f7a4_8 : decode cJ6_bitCount_0f7a4 8 = .ok (.isub, 1) := by decide +kernel
theorem dJ6_bitCount_0f7a4_9 : decode cJ6_bitCount_0f7a4 9 = .ok (.istore_n 0, 1) := by decide +kernel
theorem dJ6_bitCount_0f7a4_10 : decode cJ6_bitCount_0f7a4 10 = .ok (.iload_n 0, 1) := by decide +kernel
theorem dJ6_bitCount_0f7a4_11 : decode cJ6_bitCount_0f7a4 11 = .ok (.ldc_w 266, 3) := by decide +kernel
theorem dJ6_bitCount_0f7a4_14 : decode cJ6_bitCount_0f7a4 14 = .ok (.iand, 1) := by decide +kernel
theorem dJ6_bitCount_0f7a4_15 : decode cJ6_bitCount_0f7a4 15 = .ok (.iload_n 0, 1) := by decide +kernel
theorem dJ6_bitCount_0f7a4_16 : decode cJ6_bitCount_0f7a4 16 = .ok (.iconst 2, 1) := by decide +kernel
theorem dJ6_bitCount_0f7a4_17 : decode cJ6_bitCount_0f7a4 17 = .ok (.iushr, 1) := by decide +kernel
theorem dJ6_bitCount_0f7a4_18 : decode cJ6_bitCount_0f7a4 18 = .ok (.ldc_w 266, 3) := by decide +kernel
theorem dJ6_bitCount_0f7a4_21 : decode cJ6_bitCount_0f7a4 21 = .ok (.iand, 1) := by decide +kernel
theorem dJ6_bitCount_0f7a4_22 : decode cJ6_bitCount_0f7a4 22 = .ok (.iadd, 1) := by decide +kernel
theorem dJ6_bitCount_0f7a4_23 : decode cJ6_bitCount_0f7a4 23 = .ok (.istore_n 0, 1) := by decide +kernel
theorem dJ6_bitCount_0f7a4_24 : decode cJ6_bitCount_0f7a4 24 = .ok (.iload_n 0, 1) := by decide +kernel
theorem dJ6_bitCount_0f7a4_25 : decode cJ6_bitCount_0f7a4 25 = .ok (.iload_n 0, 1) := by decide +kernel
theorem dJ6_bitCount_0f7a4_26 : decode cJ6_bitCount_0f7a4 26 = .ok (.iconst 4, 1) := by decide +kernel
theorem dJ6_bitCount_0f7a4_27 : decode cJ6_bitCount_0f7a4 27 = .ok (.iushr, 1) := by decide +kernel
theorem dJ6_bitCount_0f7a4_28 : decode cJ6_bitCount_0f7a4 28 = .ok (.iadd, 1) := by decide +kernel
theorem dJ6_bitCount_0f7a4_29 : decode cJ6_bitCount_0f7a4 29 = .ok (.ldc_w 267, 3) := by decide +kernel
theorem dJ6_bitCount_0f7a4_32 : decode cJ6_bitCount_0f7a4 32 = .ok (.iand, 1) := by decide +kernel
theorem dJ6_bitCount_0f7a4_33 : decode cJ6_bitCount_0f7a4 33 = .ok (.istore_n 0, 1) := by decide +kernel
theorem dJ6_bitCount_0f7a4_34 : decode cJ6_bitCount_0f7a4 34 = .ok (.iload_n 0, 1) := by decide +kernel
theorem dJ6_bitCount_0f7a4_35 : decode cJ6_bitCount_0f7a4 35 = .ok (.iload_n 0, 1) := by decide +kernel
theorem dJ6_bitCount_0f7a4_36 : decode cJ6_bitCount_0f7a4 36 = .ok (.bipush 8, 2) := by decide +kernel
theorem dJ6_bitCount_0f7a4_38 : decode cJ6_bitCount_0f7a4 38 = .ok (.iushr, 1) := by decide +kernel
theorem dJ6_bitCount_0f7a4_39 : decode cJ6_bitCount_0f7a4 39 = .ok (.iadd, 1) := by decide +kernel
theorem dJ6_bitCount_0f7a4_40 : decode cJ6_bitCount_0f7a4 40 = .ok (.istore_n 0, 1) := by decide +kernel
theorem dJ6_bitCount_0f7a4_41 : decode cJ6_bitCount_0f7a4 41 = .ok (.iload_n 0, 1) := by decide +kernel
theorem dJ6_bitCount_0f7a4_42 : decode cJ6_bitCount_0f7a4 42 = .ok (.iload_n 0, 1) := by decide +kernel
theorem dJ6_bitCount_0f7a4_43 : decode cJ6_bitCount_0f7a4 43 = .ok (.bipush 16, 2) := by decide +kernel
theorem dJ6_bitCount_0f7a4_45 : decode cJ6_bitCount_0f7a4 45 = .ok (.iushr, 1) := by decide +kernel
theorem dJ6_bitCount_0f7a4_46 : decode cJ6_bitCount_0f7a4 46 = .ok (.iadd, 1) := by decide +kernel
theorem dJ6_bitCount_0f7a4_47 : decode cJ6_bitCount_0f7a4 47 = .ok (.istore_n 0, 1) := by decide +kernel
theorem dJ6_bitCount_0f7a4_48 : decode cJ6_bitCount_0f7a4 48 = .ok (.iload_n 0, 1) := by decide +kernel
theorem dJ6_bitCount_0f7a4_49 : decode cJ6_bitCount_0f7a4 49 = .ok (.bipush 63, 2) := by decide +kernel
theorem dJ6_bitCount_0f7a4_51 : decode cJ6_bitCount_0f7a4 51 = .ok (.iand, 1) := by decide +kernel
theorem dJ6_bitCount_0f7a4_52 : decode cJ6_bitCount_0f7a4 52 = .ok (.ireturn, 1) := by decide +kernel
theorem dJ9_max_7cf53_0 : decode cJ9_max_7cf53 0 = .ok (.iload_n 0, 1) := by decide +kernel
theorem dJ9_max_7cf53_1 : decode cJ9_max_7cf53 1 = .ok (.iload_n 1, 1) := by decide +kernel
theorem dJ9_max_7cf53_2 : decode cJ9_max_7cf53 2 = .ok (.if_icmp .lt 7, 3) := by decide +kernel
theorem dJ9_max_7cf53_5 : decode cJ9_max_7cf53 5 = .ok (.iload_n 0, 1) := by decide +kernel
theorem dJ9_max_7cf53_6 : decode cJ9_max_7cf53 6 = .ok (.goto 4, 3) := by decide +kernel
theorem dJ9_max_7cf53_9 : decode cJ9_max_7cf53 9 = .ok (.iload_n 1, 1) := by decide +kernel
theorem dJ9_max_7cf53_10 : decode cJ9_max_7cf53 10 = .ok (.ireturn, 1) := by decide +kernel
theorem dL_cell_0 : decode cL_cell 0 = .ok (.iload_n 1, 1) := by decide +kernel
theorem dL_cell_1 : decode cL_cell 1 = .ok (.aload_n 0, 1) := by decide +kernel
theorem dL_cell_2 : decode cL_cell 2 = .ok (.arraylength, 1) := by decide +kernel
theorem dL_cell_3 : decode cL_cell 3 = .ok (.if_icmp .ge 9, 3) := by decide +kernel
theorem dL_cell_6 : decode cL_cell 6 = .ok (.aload_n 0, 1) := by decide +kernel
theorem dL_cell_7 : decode cL_cell 7 = .ok (.iload_n 1, 1) := by decide +kernel
theorem dL_cell_8 : decode cL_cell 8 = .ok (.iaload, 1) := by decide +kernel
theorem dL_cell_9 : decode cL_cell 9 = .ok (.goto 10, 3) := by decide +kernel
theorem dL_cell_12 : decode cL_cell 12 = .ok (.ldc 7, 2) := by decide +kernel
theorem dL_cell_14 : decode cL_cell 14 = .ok (.iload_n 1, 1) := by decide +kernel
theorem dL_cell_15 : decode cL_cell 15 = .ok (.imul, 1) := by decide +kernel
theorem dL_cell_16 : decode cL_cell 16 = .ok (.ldc 8, 2) := by decide +kernel
theorem dL_cell_18 : decode cL_cell 18 = .ok (.iadd, 1) := by decide +kernel
theorem dL_cell_19 : decode cL_cell 19 = .ok (.ireturn, 1) := by decide +kernel
theorem dL_low_0 : decode cL_low 0 = .ok (.iload_n 0, 1) := by decide +kernel
theorem dL_low_1 : decode cL_low 1 = .ok (.ldc 9, 2) := by decide +kernel
theorem dL_low_3 : decode cL_low 3 = .ok (.iand, 1) := by decide +kernel
theorem dL_low_4 : decode cL_low 4 = .ok (.iload_n 1, 1) := by decide +kernel
theorem dL_low_5 : decode cL_low 5 = .ok (.irem, 1) := by decide +kernel
theorem dL_low_6 : decode cL_low 6 = .ok (.ireturn, 1) := by decide +kernel
theorem dL_bits_0 : decode cL_bits 0 = .ok (.iconst 0, 1) := by decide +kernel
theorem dL_bits_1 : decode cL_bits 1 = .ok (.istore_n 1, 1) := by decide +kernel
theorem dL_bits_2 : decode cL_bits 2 = .ok (.iload_n 0, 1) := by decide +kernel
theorem dL_bits_3 : decode cL_bits 3 = .ok (.istore_n 2, 1) := by decide +kernel
theorem dL_bits_4 : decode cL_bits 4 = .ok (.iload_n 2, 1) := by decide +kernel
theorem dL_bits_5 : decode cL_bits 5 = .ok (.ifCond .eq 15, 3) := by decide +kernel
theorem dL_bits_8 : decode cL_bits 8 = .ok (.iinc 1 1, 3) := by decide +kernel
theorem dL_bits_11 : decode cL_bits 11 = .ok (.iload_n 2, 1) := by decide +kernel
theorem dL_bits_12 : decode cL_bits 12 = .ok (.iload_n 2, 1) := by decide +kernel
theorem dL_bits_13 : decode cL_bits 13 = .ok (.iconst 1, 1) := by decide +kernel
theorem dL_bits_14 : decode cL_bits 14 = .ok (.isub, 1) := by decide +kernel
theorem dL_bits_15 : decode cL_bits 15 = .ok (.iand, 1) := by decide +kernel
theorem dL_bits_16 : decode cL_bits 16 = .ok (.istore_n 2, 1) := by decide +kernel
theorem dL_bits_17 : decode cL_bits 17 = .ok (.goto (-13), 3) := by decide +kernel
theorem dL_bits_20 : decode cL_bits 20 = .ok (.iload_n 1, 1) := by decide +kernel
theorem dL_bits_21 : decode cL_bits 21 = .ok (.ireturn, 1) := by decide +kernel
theorem dL_setUp_0 : decode cL_setUp 0 = .ok (.aload_n 1, 1) := by decide +kernel
theorem dL_setUp_1 : decode cL_setUp 1 = .ok (.iload_n 2, 1) := by decide +kernel
theorem dL_setUp_2 : decode cL_setUp 2 = .ok (.invokestatic 10, 3) := by decide +kernel
theorem dL_setUp_5 : decode cL_setUp 5 = .ok (.istore 4, 2) := by decide +kernel
theorem dL_setUp_7 : decode cL_setUp 7 = .ok (.aload_n 0, 1) := by decide +kernel
theorem dL_setUp_8 : decode cL_setUp 8 = .ok (.iconst 2, 1) := by decide +kernel
theorem dL_setUp_9 : decode cL_setUp 9 = .ok (.iload 4, 2) := by decide +kernel
theorem dL_setUp_11 : decode cL_setUp 11 = .ok (.iconst 4, 1) := by decide +kernel
theorem dL_setUp_12 : decode cL_setUp 12 = .ok (.invokestatic 16, 3) := by decide +kernel
theorem dL_setUp_15 : decode cL_setUp 15 = .ok (.iadd, 1) := by decide +kernel
theorem dL_setUp_16 : decode cL_setUp 16 = .ok (.iconst 2, 1) := by decide +kernel
theorem dL_setUp_17 : decode cL_setUp 17 = .ok (.iload 4, 2) := by decide +kernel
theorem dL_setUp_19 : decode cL_setUp 19 = .ok (.iconst 3, 1) := by decide +kernel
theorem dL_setUp_20 : decode cL_setUp 20 = .ok (.ishr, 1) := by decide +kernel
theorem dL_setUp_21 : decode cL_setUp 21 = .ok (.iconst 4, 1) := by decide +kernel
theorem dL_setUp_22 : decode cL_setUp 22 = .ok (.invokestatic 16, 3) := by decide +kernel
theorem dL_setUp_25 : decode cL_setUp 25 = .ok (.iadd, 1) := by decide +kernel
theorem dL_setUp_26 : decode cL_setUp 26 = .ok (.iconst 3, 1) := by decide +kernel
theorem dL_setUp_27 : decode cL_setUp 27 = .ok (.iload 4, 2) := by decide +kernel
theorem dL_setUp_29 : decode cL_setUp 29 = .ok (.bipush 6, 2) := by decide +kernel
theorem dL_setUp_31 : decode cL_setUp 31 = .ok (.ishr, 1) := by decide +kernel
theorem dL_setUp_32 : decode cL_setUp 32 = .ok (.bipush 14, 2) := by decide +kernel
theorem dL_setUp_34 : decode cL_setUp 34 = .ok (.invokestatic 16, 3) := by decide +kernel
theorem dL_setUp_37 : decode cL_setUp 37 = .ok (.iadd, 1) := by decide +kernel
theorem dL_setUp_38 : decode cL_setUp 38 = .ok (.invokevirtual 20, 3) := by decide +kernel
theorem dL_setUp_41 : decode cL_setUp 41 = .ok (.ifCond .ne 43, 3) := by decide +kernel
theorem dL_setUp_44 : decode cL_setUp 44 = .ok (.aload_n 0, 1) := by decide +kernel
theorem dL_setUp_45 : decode cL_setUp 45 = .ok (.iload 4, 2) := by decide +kernel
theorem dL_setUp_47 : decode cL_setUp 47 = .ok (.bipush 11, 2) := by decide +kernel
theorem dL_setUp_49 : decode cL_setUp 49 = .ok (.ishr, 1) := by decide +kernel
theorem dL_setUp_50 : decode cL_setUp 50 = .ok (.iconst 3, 1) := by decide +kernel
theorem dL_setUp_51 : decode cL_setUp 51 = .ok (.invokestatic 16, 3) := by decide +kernel
theorem dL_setUp_54 : decode cL_setUp 54 = .ok (.ifCond .ne 16, 3) := by decide +kernel
theorem dL_setUp_57 : decode cL_setUp 57 = .ok (.iload 4, 2) := by decide +kernel
theorem dL_setUp_59 : decode cL_setUp 59 = .ok (.bipush 13, 2) := by decide +kernel
theorem dL_setUp_61 : decode cL_setUp 61 = .ok (.ishr, 1) := by decide +kernel
theorem dL_setUp_62 : decode cL_setUp 62 = .ok (.bipush 101, 2) := by decide +kernel
theorem dL_setUp_64 : decode cL_setUp 64 = .ok (.invokestatic 16, 3) := by decide +kernel
theorem dL_setUp_67 : decode cL_setUp 67 = .ok (.goto 5, 3) := by decide +kernel
theorem dL_setUp_70 : decode cL_setUp 70 = .ok (.bipush 20, 2) := by decide +kernel
theorem dL_setUp_72 : decode cL_setUp 72 = .ok (.invokevirtual 26, 3) := by decide +kernel
theorem dL_setUp_75 : decode cL_setUp 75 = .ok (.bipush 50, 2) := by decide +kernel
theorem dL_setUp_77 : decode cL_setUp 77 = .ok (.if_icmp .ne 7, 3) := by decide +kernel
theorem dL_setUp_80 : decode cL_setUp 80 = .ok (.iconst 1, 1) := by decide +kernel
theorem dL_setUp_81 : decode cL_setUp 81 = .ok (.goto 4, 3) := by decide +kernel
theorem dL_setUp_84 : decode cL_setUp 84 = .ok (.iconst 0, 1) := by decide +kernel
theorem dL_setUp_85 : decode cL_setUp 85 = .ok (.istore 5, 2) := by decide +kernel
theorem dL_setUp_87 : decode cL_setUp 87 = .ok (.iconst 0, 1) := by decide +kernel
theorem dL_setUp_88 : decode cL_setUp 88 = .ok (.istore 6, 2) := by decide +kernel
theorem dL_setUp_90 : decode cL_setUp 90 = .ok (.iload 6, 2) := by decide +kernel
theorem dL_setUp_92 : decode cL_setUp 92 = .ok (.iload_n 3, 1) := by decide +kernel
theorem dL_setUp_93 : decode cL_setUp 93 = .ok (.if_icmp .ge 108, 3) := by decide +kernel
theorem dL_setUp_96 : decode cL_setUp 96 = .ok (.iload 5, 2) := by decide +kernel
theorem dL_setUp_98 : decode cL_setUp 98 = .ok (.ifCond .eq 103, 3) := by decide +kernel
theorem dL_setUp_101 : decode cL_setUp 101 = .ok (.aload_n 1, 1) := by decide +kernel
theorem dL_setUp_102 : decode cL_setUp 102 = .ok (.iload_n 2, 1) := by decide +kernel
theorem dL_setUp_103 : decode cL_setUp 103 = .ok (.iconst 1, 1) := by decide +kernel
theorem dL_setUp_104 : decode cL_setUp 104 = .ok (.iadd, 1) := by decide +kernel
theorem dL_setUp_105 : decode cL_setUp 105 = .ok (.iload 6, 2) := by decide +kernel
theorem dL_setUp_107 : decode cL_setUp 107 = .ok (.iadd, 1) := by decide +kernel
theorem dL_setUp_108 : decode cL_setUp 108 = .ok (.invokestatic 10, 3) := by decide +kernel
theorem dL_setUp_111 : decode cL_setUp 111 = .ok (.istore 7, 2) := by decide +kernel
theorem dL_setUp_113 : decode cL_setUp 113 = .ok (.aload_n 0, 1) := by decide +kernel
theorem dL_setUp_114 : decode cL_setUp 114 = .ok (.iconst 1, 1) := by decide +kernel
theorem dL_setUp_115 : decode cL_setUp 115 = .ok (.iload 7, 2) := by decide +kernel
theorem dL_setUp_117 : decode cL_setUp 117 = .ok (.iconst 4, 1) := by decide +kernel
theorem dL_setUp_118 : decode cL_setUp 118 = .ok (.invokestatic 16, 3) := by decide +kernel
theorem dL_setUp_121 : decode cL_setUp 121 = .ok (.iadd, 1) := by decide +kernel
theorem dL_setUp_122 : decode cL_setUp 122 = .ok (.iconst 1, 1) := by decide +kernel
theorem dL_setUp_123 : decode cL_setUp 123 = .ok (.iload 7, 2) := by decide +kernel
theorem dL_setUp_125 : decode cL_setUp 125 = .ok (.iconst 3, 1) := by decide +kernel
theorem dL_setUp_126 : decode cL_setUp 126 = .ok (.ishr, 1) := by decide +kernel
theorem dL_setUp_127 : decode cL_setUp 127 = .ok (.iconst 4, 1) := by decide +kernel
theorem dL_setUp_128 : decode cL_setUp 128 = .ok (.invokestatic 16, 3) := by decide +kernel
theorem dL_setUp_131 : decode cL_setUp 131 = .ok (.iadd, 1) := by decide +kernel
theorem dL_setUp_132 : decode cL_setUp 132 = .ok (.iconst 1, 1) := by decide +kernel
theorem dL_setUp_133 : decode cL_setUp 133 = .ok (.iload 7, 2) := by decide +kernel
theorem dL_setUp_135 : decode cL_setUp 135 = .ok (.bipush 6, 2) := by decide +kernel
theorem dL_setUp_137 : decode cL_setUp 137 = .ok (.ishr, 1) := by decide +kernel
theorem dL_setUp_138 : decode cL_setUp 138 = .ok (.iconst 3, 1) := by decide +kernel
theorem dL_setUp_139 : decode cL_setUp 139 = .ok (.invokestatic 16, 3) := by decide +kernel
theorem dL_setUp_142 : decode cL_setUp 142 = .ok (.iadd, 1) := by decide +kernel
theorem dL_setUp_143 : decode cL_setUp 143 = .ok (.iload 7, 2) := by decide +kernel
theorem dL_setUp_145 : decode cL_setUp 145 = .ok (.bipush 9, 2) := by decide +kernel
theorem dL_setUp_147 : decode cL_setUp 147 = .ok (.ishr, 1) := by decide +kernel
theorem dL_setUp_148 : decode cL_setUp 148 = .ok (.bipush 10, 2) := by decide +kernel
theorem dL_setUp_150 : decode cL_setUp 150 = .ok (.invokestatic 16, 3) := by decide +kernel
theorem dL_setUp_153 : decode cL_setUp 153 = .ok (.invokevirtual 30, 3) := by decide +kernel
theorem dL_setUp_156 : decode cL_setUp 156 = .ok (.iload 6, 2) := by decide +kernel
theorem dL_setUp_158 : decode cL_setUp 158 = .ok (.if_icmp .ne 34, 3) := by decide +kernel
theorem dL_setUp_161 : decode cL_setUp 161 = .ok (.aload_n 0, 1) := by decide +kernel
theorem dL_setUp_162 : decode cL_setUp 162 = .ok (.iload 6, 2) := by decide +kernel
theorem dL_setUp_164 : decode cL_setUp 164 = .ok (.iconst 1, 1) := by decide +kernel
theorem dL_setUp_165 : decode cL_setUp 165 = .ok (.iload 7, 2) := by decide +kernel
theorem dL_setUp_167 : decode cL_setUp 167 = .ok (.bipush 14, 2) := by decide +kernel
theorem dL_setUp_169 : decode cL_setUp 169 = .ok (.ishr, 1) := by decide +kernel
theorem dL_setUp_170 : decode cL_setUp 170 = .ok (.iconst 4, 1) := by decide +kernel
theorem dL_setUp_171 : decode cL_setUp 171 = .ok (.invokestatic 16, 3) := by decide +kernel
theorem dL_setUp_174 : decode cL_setUp 174 = .ok (.ifCond .ne 7, 3) := by decide +kernel
theorem dL_setUp_177 : decode cL_setUp 177 = .ok (.iconst 1, 1) := by decide +kernel
theorem dL_setUp_178 : decode cL_setUp 178 = .ok (.goto 4, 3) := by decide +kernel
theorem dL_setUp_181 : decode cL_setUp 181 = .ok (.iconst 0, 1) := by decide +kernel
theorem dL_setUp_182 : decode cL_setUp 182 = .ok (.invokevirtual 34, 3) := by decide +kernel
theorem dL_setUp_185 : decode cL_setUp 185 = .ok (.ifCond .ne 7, 3) := by decide +kernel
theorem dL_setUp_188 : decode cL_setUp 188 = .ok (.iconst 1, 1) := by decide +kernel
theorem dL_setUp_189 : decode cL_setUp 189 = .ok (.goto 4, 3) := by decide +kernel
theorem dL_setUp_192 : decode cL_setUp 192 = .ok (.iconst 0, 1) := by decide +kernel
theorem dL_setUp_193 : decode cL_setUp 193 = .ok (.istore 5, 2) := by decide +kernel
theorem dL_setUp_195 : decode cL_setUp 195 = .ok (.iinc 6 1, 3) := by decide +kernel
theorem dL_setUp_198 : decode cL_setUp 198 = .ok (.goto (-108), 3) := by decide +kernel
theorem dL_setUp_201 : decode cL_setUp 201 = .ok (.iload 5, 2) := by decide +kernel
theorem dL_setUp_203 : decode cL_setUp 203 = .ok (.ifCond .eq 24, 3) := by decide +kernel
theorem dL_setUp_206 : decode cL_setUp 206 = .ok (.aload_n 0, 1) := by decide +kernel
theorem dL_setUp_207 : decode cL_setUp 207 = .ok (.iconst 4, 1) := by decide +kernel
theorem dL_setUp_208 : decode cL_setUp 208 = .ok (.invokevirtual 37, 3) := by decide +kernel
theorem dL_setUp_211 : decode cL_setUp 211 = .ok (.iload_n 3, 1) := by decide +kernel
theorem dL_setUp_212 : decode cL_setUp 212 = .ok (.if_icmp .ne 15, 3) := by decide +kernel
theorem dL_setUp_215 : decode cL_setUp 215 = .ok (.aload_n 0, 1) := by decide +kernel
theorem dL_setUp_216 : decode cL_setUp 216 = .ok (.iconst 5, 1) := by decide +kernel
theorem dL_setUp_217 : decode cL_setUp 217 = .ok (.invokevirtual 37, 3) := by decide +kernel
theorem dL_setUp_220 : decode cL_setUp 220 = .ok (.ifCond .ne 7, 3) := by decide +kernel
theorem dL_setUp_223 : decode cL_setUp 223 = .ok (.iconst 1, 1) := by decide +kernel
theorem dL_setUp_224 : decode cL_setUp 224 = .ok (.goto 4, 3) := by decide +kernel
theorem dL_setUp_227 : decode cL_setUp 227 = .ok (.iconst 0, 1) := by decide +kernel
theorem dL_setUp_228 : decode cL_setUp 228 = .ok (.ireturn, 1) := by decide +kernel
theorem dL_wide_0 : decode cL_wide 0 = .ok (.aload_n 0, 1) := by decide +kernel
theorem dL_wide_1 : decode cL_wide 1 = .ok (.iload_n 1, 1) := by decide +kernel
theorem dL_wide_2 : decode cL_wide 2 = .ok (.iload_n 2, 1) := by decide +kernel
theorem dL_wide_3 : decode cL_wide 3 = .ok (.ifCond .eq 7, 3) := by decide +kernel
theorem dL_wide_6 : decode cL_wide 6 = .ok (.iconst 1, 1) := by decide +kernel
theorem dL_wide_7 : decode cL_wide 7 = .ok (.goto 4, 3) := by decide +kernel
theorem dL_wide_10 : decode cL_wide 10 = .ok (.iconst 0, 1) := by decide +kernel
theorem dL_wide_11 : decode cL_wide 11 = .ok (.invokevirtual 40, 3) := by decide +kernel
theorem dL_wide_14 : decode cL_wide 14 = .ok (.ireturn, 1) := by decide +kernel
theorem dL_high_0 : decode cL_high 0 = .ok (.aload_n 0, 1) := by decide +kernel
theorem dL_high_1 : decode cL_high 1 = .ok (.iload_n 1, 1) := by decide +kernel
theorem dL_high_2 : decode cL_high 2 = .ok (.iconst 2, 1) := by decide +kernel
theorem dL_high_3 : decode cL_high 3 = .ok (.invokevirtual 40, 3) := by decide +kernel
theorem dL_high_6 : decode cL_high 6 = .ok (.aload_n 0, 1) := by decide +kernel
theorem dL_high_7 : decode cL_high 7 = .ok (.iload_n 1, 1) := by decide +kernel
theorem dL_high_8 : decode cL_high 8 = .ok (.iconst 4, 1) := by decide +kernel
theorem dL_high_9 : decode cL_high 9 = .ok (.invokevirtual 40, 3) := by decide +kernel
theorem dL_high_12 : decode cL_high 12 = .ok (.iadd, 1) := by decide +kernel
theorem dL_high_13 : decode cL_high 13 = .ok (.ireturn, 1) := by decide +kernel
theorem dL_look_0 : decode cL_look 0 = .ok (.iconst 0, 1) := by decide +kernel
theorem dL_look_1 : decode cL_look 1 = .ok (.istore 5, 2) := by decide +kernel
theorem dL_look_3 : decode cL_look 3 = .ok (.iconst 0, 1) := by decide +kernel
theorem dL_look_4 : decode cL_look 4 = .ok (.istore 6, 2) := by decide +kernel
theorem dL_look_6 : decode cL_look 6 = .ok (.iload_n 2, 1) := by decide +kernel
theorem dL_look_7 : decode cL_look 7 = .ok (.istore 7, 2) := by decide +kernel
theorem dL_look_9 : decode cL_look 9 = .ok (.iload 7, 2) := by decide +kernel
theorem dL_look_11 : decode cL_look 11 = .ok (.iload_n 2, 1) := by decide +kernel
theorem dL_look_12 : decode cL_look 12 = .ok (.aload_n 0, 1) := by decide +kernel
theorem dL_look_13 : decode cL_look 13 = .ok (.iload_n 1, 1) := by decide +kernel
theorem dL_look_14 : decode cL_look 14 = .ok (.iload 4, 2) := by decide +kernel
theorem dL_look_16 : decode cL_look 16 = .ok (.invokestatic 43, 3) := by decide +kernel
theorem dL_look_19 : decode cL_look 19 = .ok (.iadd, 1) := by decide +kernel
theorem dL_look_20 : decode cL_look 20 = .ok (.if_icmp .ge 96, 3) := by decide +kernel
theorem dL_look_23 : decode cL_look 23 = .ok (.iload_n 3, 1) := by decide +kernel
theorem dL_look_24 : decode cL_look 24 = .ok (.istore 8, 2) := by decide +kernel
theorem dL_look_26 : decode cL_look 26 = .ok (.iload 8, 2) := by decide +kernel
theorem dL_look_28 : decode cL_look 28 = .ok (.iload_n 3, 1) := by decide +kernel
theorem dL_look_29 : decode cL_look 29 = .ok (.aload_n 0, 1) := by decide +kernel
theorem dL_look_30 : decode cL_look 30 = .ok (.iload_n 1, 1) := by decide +kernel
theorem dL_look_31 : decode cL_look 31 = .ok (.iload 4, 2) := by decide +kernel
theorem dL_look_33 : decode cL_look 33 = .ok (.ifCond .ne 7, 3) := by decide +kernel
theorem dL_look_36 : decode cL_look 36 = .ok (.iconst 1, 1) := by decide +kernel
theorem dL_look_37 : decode cL_look 37 = .ok (.goto 4, 3) := by decide +kernel
theorem dL_look_40 : decode cL_look 40 = .ok (.iconst 0, 1) := by decide +kernel
theorem dL_look_41 : decode cL_look 41 = .ok (.invokestatic 43, 3) := by decide +kernel
theorem dL_look_44 : decode cL_look 44 = .ok (.iadd, 1) := by decide +kernel
theorem dL_look_45 : decode cL_look 45 = .ok (.if_icmp .ge 65, 3) := by decide +kernel
theorem dL_look_48 : decode cL_look 48 = .ok (.aload_n 0, 1) := by decide +kernel
theorem dL_look_49 : decode cL_look 49 = .ok (.iload 7, 2) := by decide +kernel
theorem dL_look_51 : decode cL_look 51 = .ok (.iload 8, 2) := by decide +kernel
theorem dL_look_53 : decode cL_look 53 = .ok (.iconst 1, 1) := by decide +kernel
theorem dL_look_54 : decode cL_look 54 = .ok (.invokevirtual 47, 3) := by decide +kernel
theorem dL_look_57 : decode cL_look 57 = .ok (.istore 9, 2) := by decide +kernel
theorem dL_look_59 : decode cL_look 59 = .ok (.iload 9, 2) := by decide +kernel
theorem dL_look_61 : decode cL_look 61 = .ok (.iload 5, 2) := by decide +kernel
theorem dL_look_63 : decode cL_look 63 = .ok (.if_icmp .le 7, 3) := by decide +kernel
theorem dL_look_66 : decode cL_look 66 = .ok (.iconst 1, 1) := by decide +kernel
theorem dL_look_67 : decode cL_look 67 = .ok (.goto 19, 3) := by decide +kernel
theorem dL_look_70 : decode cL_look 70 = .ok (.iload 9, 2) := by decide +kernel
theorem dL_look_72 : decode cL_look 72 = .ok (.iload 5, 2) := by decide +kernel
theorem dL_look_74 : decode cL_look 74 = .ok (.if_icmp .ne 10, 3) := by decide +kernel
theorem dL_look_77 : decode cL_look 77 = .ok (.iload 6, 2) := by decide +kernel
theorem dL_look_79 : decode cL_look 79 = .ok (.iconst 1, 1) := by decide +kernel
theorem dL_look_80 : decode cL_look 80 = .ok (.iadd, 1) := by decide +kernel
theorem dL_look_81 : decode cL_look 81 = .ok (.goto 5, 3) := by decide +kernel
theorem dL_look_84 : decode cL_look 84 = .ok (.iload 6, 2) := by decide +kernel
theorem dL_look_86 : decode cL_look 86 = .ok (.istore 6, 2) := by decide +kernel
theorem dL_look_88 : decode cL_look 88 = .ok (.iload 9, 2) := by decide +kernel
theorem dL_look_90 : decode cL_look 90 = .ok (.iload 5, 2) := by decide +kernel
theorem dL_look_92 : decode cL_look 92 = .ok (.if_icmp .le 8, 3) := by decide +kernel
theorem dL_look_95 : decode cL_look 95 = .ok (.iload 9, 2) := by decide +kernel
theorem dL_look_97 : decode cL_look 97 = .ok (.goto 5, 3) := by decide +kernel
theorem dL_look_100 : decode cL_look 100 = .ok (.iload 5, 2) := by decide +kernel
theorem dL_look_102 : decode cL_look 102 = .ok (.istore 5, 2) := by decide +kernel
theorem dL_look_104 : decode cL_look 104 = .ok (.iinc 8 1, 3) := by decide +kernel
theorem dL_look_107 : decode cL_look 107 = .ok (.goto (-81), 3) := by decide +kernel
theorem dL_look_110 : decode cL_look 110 = .ok (.iinc 7 1, 3) := by decide +kernel
theorem dL_look_113 : decode cL_look 113 = .ok (.goto (-104), 3) := by decide +kernel
theorem dL_look_116 : decode cL_look 116 = .ok (.sipush 1000, 3) := by decide +kernel
theorem dL_look_119 : decode cL_look 119 = .ok (.iload 6, 2) := by decide +kernel
theorem dL_look_121 : decode cL_look 121 = .ok (.imul, 1) := by decide +kernel
theorem dL_look_122 : decode cL_look 122 = .ok (.iload 5, 2) := by decide +kernel
theorem dL_look_124 : decode cL_look 124 = .ok (.iadd, 1) := by decide +kernel
theorem dL_look_125 : decode cL_look 125 = .ok (.ireturn, 1) := by decide +kernel
theorem dL_canLie_0 : decode cL_canLie 0 = .ok (.iload_n 2, 1) := by decide +kernel
theorem dL_canLie_1 : decode cL_canLie 1 = .ok (.ifCond .lt 49, 3) := by decide +kernel
theorem dL_canLie_4 : decode cL_canLie 4 = .ok (.iload_n 3, 1) := by decide +kernel
theorem dL_canLie_5 : decode cL_canLie 5 = .ok (.ifCond .lt 45, 3) := by decide +kernel
theorem dL_canLie_8 : decode cL_canLie 8 = .ok (.iload_n 2, 1) := by decide +kernel
theorem dL_canLie_9 : decode cL_canLie 9 = .ok (.aload_n 0, 1) := by decide +kernel
theorem dL_canLie_10 : decode cL_canLie 10 = .ok (.iload_n 1, 1) := by decide +kernel
theorem dL_canLie_11 : decode cL_canLie 11 = .ok (.iload 4, 2) := by decide +kernel
theorem dL_canLie_13 : decode cL_canLie 13 = .ok (.invokestatic 43, 3) := by decide +kernel
theorem dL_canLie_16 : decode cL_canLie 16 = .ok (.iadd, 1) := by decide +kernel
theorem dL_canLie_17 : decode cL_canLie 17 = .ok (.aload_n 0, 1) := by decide +kernel
theorem dL_canLie_18 : decode cL_canLie 18 = .ok (.iconst 0, 1) := by decide +kernel
theorem dL_canLie_19 : decode cL_canLie 19 = .ok (.invokevirtual 37, 3) := by decide +kernel
theorem dL_canLie_22 : decode cL_canLie 22 = .ok (.if_icmp .gt 28, 3) := by decide +kernel
theorem dL_canLie_25 : decode cL_canLie 25 = .ok (.iload_n 3, 1) := by decide +kernel
theorem dL_canLie_26 : decode cL_canLie 26 = .ok (.aload_n 0, 1) := by decide +kernel
theorem dL_canLie_27 : decode cL_canLie 27 = .ok (.iload_n 1, 1) := by decide +kernel
theorem dL_canLie_28 : decode cL_canLie 28 = .ok (.iload 4, 2) := by decide +kernel
theorem dL_canLie_30 : decode cL_canLie 30 = .ok (.ifCond .ne 7, 3) := by decide +kernel
theorem dL_canLie_33 : decode cL_canLie 33 = .ok (.iconst 1, 1) := by decide +kernel
theorem dL_canLie_34 : decode cL_canLie 34 = .ok (.goto 4, 3) := by decide +kernel
theorem dL_canLie_37 : decode cL_canLie 37 = .ok (.iconst 0, 1) := by decide +kernel
theorem dL_canLie_38 : decode cL_canLie 38 = .ok (.invokestatic 43, 3) := by decide +kernel
theorem dL_canLie_41 : decode cL_canLie 41 = .ok (.iadd, 1) := by decide +kernel
theorem dL_canLie_42 : decode cL_canLie 42 = .ok (.aload_n 0, 1) := by decide +kernel
theorem dL_canLie_43 : decode cL_canLie 43 = .ok (.iconst 1, 1) := by decide +kernel
theorem dL_canLie_44 : decode cL_canLie 44 = .ok (.invokevirtual 37, 3) := by decide +kernel
theorem dL_canLie_47 : decode cL_canLie 47 = .ok (.if_icmp .le 5, 3) := by decide +kernel
theorem dL_canLie_50 : decode cL_canLie 50 = .ok (.iconst 0, 1) := by decide +kernel
theorem dL_canLie_51 : decode cL_canLie 51 = .ok (.ireturn, 1) := by decide +kernel
theorem dL_canLie_52 : decode cL_canLie 52 = .ok (.aload_n 0, 1) := by decide +kernel
theorem dL_canLie_53 : decode cL_canLie 53 = .ok (.iload_n 1, 1) := by decide +kernel
theorem dL_canLie_54 : decode cL_canLie 54 = .ok (.iload_n 2, 1) := by decide +kernel
theorem dL_canLie_55 : decode cL_canLie 55 = .ok (.iload_n 3, 1) := by decide +kernel
theorem dL_canLie_56 : decode cL_canLie 56 = .ok (.iload 4, 2) := by decide +kernel
theorem dL_canLie_58 : decode cL_canLie 58 = .ok (.invokestatic 51, 3) := by decide +kernel
theorem dL_canLie_61 : decode cL_canLie 61 = .ok (.istore 5, 2) := by decide +kernel
theorem dL_canLie_63 : decode cL_canLie 63 = .ok (.iload 5, 2) := by decide +kernel
theorem dL_canLie_65 : decode cL_canLie 65 = .ok (.sipush 1000, 3) := by decide +kernel
theorem dL_canLie_68 : decode cL_canLie 68 = .ok (.irem, 1) := by decide +kernel
theorem dL_canLie_69 : decode cL_canLie 69 = .ok (.aload_n 0, 1) := by decide +kernel
theorem dL_canLie_70 : decode cL_canLie 70 = .ok (.iload_n 1, 1) := by decide +kernel
theorem dL_canLie_71 : decode cL_canLie 71 = .ok (.invokestatic 55, 3) := by decide +kernel
theorem dL_canLie_74 : decode cL_canLie 74 = .ok (.iadd, 1) := by decide +kernel
theorem dL_canLie_75 : decode cL_canLie 75 = .ok (.aload_n 0, 1) := by decide +kernel
theorem dL_canLie_76 : decode cL_canLie 76 = .ok (.iconst 2, 1) := by decide +kernel
theorem dL_canLie_77 : decode cL_canLie 77 = .ok (.invokevirtual 37, 3) := by decide +kernel
theorem dL_canLie_80 : decode cL_canLie 80 = .ok (.if_icmp .gt 38, 3) := by decide +kernel
theorem dL_canLie_83 : decode cL_canLie 83 = .ok (.bipush 100, 2) := by decide +kernel
theorem dL_canLie_85 : decode cL_canLie 85 = .ok (.iload 5, 2) := by decide +kernel
theorem dL_canLie_87 : decode cL_canLie 87 = .ok (.sipush 1000, 3) := by decide +kernel
theorem dL_canLie_90 : decode cL_canLie 90 = .ok (.idiv, 1) := by decide +kernel
theorem dL_canLie_91 : decode cL_canLie 91 = .ok (.imul, 1) := by decide +kernel
theorem dL_canLie_92 : decode cL_canLie 92 = .ok (.aload_n 0, 1) := by decide +kernel
theorem dL_canLie_93 : decode cL_canLie 93 = .ok (.iconst 3, 1) := by decide +kernel
theorem dL_canLie_94 : decode cL_canLie 94 = .ok (.invokevirtual 37, 3) := by decide +kernel
theorem dL_canLie_97 : decode cL_canLie 97 = .ok (.aload_n 0, 1) := by decide +kernel
theorem dL_canLie_98 : decode cL_canLie 98 = .ok (.iload_n 1, 1) := by decide +kernel
theorem dL_canLie_99 : decode cL_canLie 99 = .ok (.iconst 0, 1) := by decide +kernel
theorem dL_canLie_100 : decode cL_canLie 100 = .ok (.invokevirtual 40, 3) := by decide +kernel
theorem dL_canLie_103 : decode cL_canLie 103 = .ok (.imul, 1) := by decide +kernel
theorem dL_canLie_104 : decode cL_canLie 104 = .ok (.aload_n 0, 1) := by decide +kernel
theorem dL_canLie_105 : decode cL_canLie 105 = .ok (.iload_n 1, 1) := by decide +kernel
theorem dL_canLie_106 : decode cL_canLie 106 = .ok (.iconst 1, 1) := by decide +kernel
theorem dL_canLie_107 : decode cL_canLie 107 = .ok (.invokevirtual 40, 3) := by decide +kernel
theorem dL_canLie_110 : decode cL_canLie 110 = .ok (.imul, 1) := by decide +kernel
theorem dL_canLie_111 : decode cL_canLie 111 = .ok (.if_icmp .lt 7, 3) := by decide +kernel
theorem dL_canLie_114 : decode cL_canLie 114 = .ok (.iconst 1, 1) := by decide +kernel
theorem dL_canLie_115 : decode cL_canLie 115 = .ok (.goto 4, 3) := by decide +kernel
theorem dL_canLie_118 : decode cL_canLie 118 = .ok (.iconst 0, 1) := by decide +kernel
theorem dL_canLie_119 : decode cL_canLie 119 = .ok (.ireturn, 1) := by decide +kernel
theorem dL_covers_0 : decode cL_covers 0 = .ok (.aload_n 0, 1) := by decide +kernel
theorem dL_covers_1 : decode cL_covers 1 = .ok (.iload_n 1, 1) := by decide +kernel
theorem dL_covers_2 : decode cL_covers 2 = .ok (.bipush 6, 2) := by decide +kernel
theorem dL_covers_4 : decode cL_covers 4 = .ok (.invokevirtual 40, 3) := by decide +kernel
theorem dL_covers_7 : decode cL_covers 7 = .ok (.iconst 1, 1) := by decide +kernel
theorem dL_covers_8 : decode cL_covers 8 = .ok (.if_icmp .ne 7, 3) := by decide +kernel
theorem dL_covers_11 : decode cL_covers 11 = .ok (.iconst 1, 1) := by decide +kernel
theorem dL_covers_12 : decode cL_covers 12 = .ok (.goto 4, 3) := by decide +kernel
theorem dL_covers_15 : decode cL_covers 15 = .ok (.iconst 0, 1) := by decide +kernel
theorem dL_covers_16 : decode cL_covers 16 = .ok (.istore 4, 2) := by decide +kernel
theorem dL_covers_18 : decode cL_covers 18 = .ok (.aload_n 0, 1) := by decide +kernel
theorem dL_covers_19 : decode cL_covers 19 = .ok (.iload_n 1, 1) := by decide +kernel
theorem dL_covers_20 : decode cL_covers 20 = .ok (.iconst 5, 1) := by decide +kernel
theorem dL_covers_21 : decode cL_covers 21 = .ok (.invokevirtual 40, 3) := by decide +kernel
theorem dL_covers_24 : decode cL_covers 24 = .ok (.iconst 1, 1) := by decide +kernel
theorem dL_covers_25 : decode cL_covers 25 = .ok (.if_icmp .ne 75, 3) := by decide +kernel
theorem dL_covers_28 : decode cL_covers 28 = .ok (.iload_n 2, 1) := by decide +kernel
theorem dL_covers_29 : decode cL_covers 29 = .ok (.aload_n 0, 1) := by decide +kernel
theorem dL_covers_30 : decode cL_covers 30 = .ok (.iload_n 1, 1) := by decide +kernel
theorem dL_covers_31 : decode cL_covers 31 = .ok (.bipush 7, 2) := by decide +kernel
theorem dL_covers_33 : decode cL_covers 33 = .ok (.invokevirtual 40, 3) := by decide +kernel
theorem dL_covers_36 : decode cL_covers 36 = .ok (.if_icmp .lt 64, 3) := by decide +kernel
theorem dL_covers_39 : decode cL_covers 39 = .ok (.iload_n 2, 1) := by decide +kernel
theorem dL_covers_40 : decode cL_covers 40 = .ok (.aload_n 0, 1) := by decide +kernel
theorem dL_covers_41 : decode cL_covers 41 = .ok (.iload_n 1, 1) := by decide +kernel
theorem dL_covers_42 : decode cL_covers 42 = .ok (.bipush 7, 2) := by decide +kernel
theorem dL_covers_44 : decode cL_covers 44 = .ok (.invokevirtual 40, 3) := by decide +kernel
theorem dL_covers_47 : decode cL_covers 47 = .ok (.aload_n 0, 1) := by decide +kernel
theorem dL_covers_48 : decode cL_covers 48 = .ok (.iload_n 1, 1) := by decide +kernel
theorem dL_covers_49 : decode cL_covers 49 = .ok (.iload 4, 2) := by decide +kernel
theorem dL_covers_51 : decode cL_covers 51 = .ok (.invokestatic 43, 3) := by decide +kernel
theorem dL_covers_54 : decode cL_covers 54 = .ok (.iadd, 1) := by decide +kernel
theorem dL_covers_55 : decode cL_covers 55 = .ok (.if_icmp .ge 45, 3) := by decide +kernel
theorem dL_covers_58 : decode cL_covers 58 = .ok (.iload_n 3, 1) := by decide +kernel
theorem dL_covers_59 : decode cL_covers 59 = .ok (.aload_n 0, 1) := by decide +kernel
theorem dL_covers_60 : decode cL_covers 60 = .ok (.iload_n 1, 1) := by decide +kernel
theorem dL_covers_61 : decode cL_covers 61 = .ok (.bipush 8, 2) := by decide +kernel
theorem dL_covers_63 : decode cL_covers 63 = .ok (.invokevirtual 40, 3) := by decide +kernel
theorem dL_covers_66 : decode cL_covers 66 = .ok (.if_icmp .lt 34, 3) := by decide +kernel
theorem dL_covers_69 : decode cL_covers 69 = .ok (.iload_n 3, 1) := by decide +kernel
theorem dL_covers_70 : decode cL_covers 70 = .ok (.aload_n 0, 1) := by decide +kernel
theorem dL_covers_71 : decode cL_covers 71 = .ok (.iload_n 1, 1) := by decide +kernel
theorem dL_covers_72 : decode cL_covers 72 = .ok (.bipush 8, 2) := by decide +kernel
theorem dL_covers_74 : decode cL_covers 74 = .ok (.invokevirtual 40, 3) := by decide +kernel
theorem dL_covers_77 : decode cL_covers 77 = .ok (.aload_n 0, 1) := by decide +kernel
theorem dL_covers_78 : decode cL_covers 78 = .ok (.iload_n 1, 1) := by decide +kernel
theorem dL_covers_79 : decode cL_covers 79 = .ok (.iload 4, 2) := by decide +kernel
theorem dL_covers_81 : decode cL_covers 81 = .ok (.ifCond .ne 7, 3) := by decide +kernel
theorem dL_covers_84 : decode cL_covers 84 = .ok (.iconst 1, 1) := by decide +kernel
theorem dL_covers_85 : decode cL_covers 85 = .ok (.goto 4, 3) := by decide +kernel
theorem dL_covers_88 : decode cL_covers 88 = .ok (.iconst 0, 1) := by decide +kernel
theorem dL_covers_89 : decode cL_covers 89 = .ok (.invokestatic 43, 3) := by decide +kernel
theorem dL_covers_92 : decode cL_covers 92 = .ok (.iadd, 1) := by decide +kernel
theorem dL_covers_93 : decode cL_covers 93 = .ok (.if_icmp .ge 7, 3) := by decide +kernel
theorem dL_covers_96 : decode cL_covers 96 = .ok (.iconst 1, 1) := by decide +kernel
theorem dL_covers_97 : decode cL_covers 97 = .ok (.goto 4, 3) := by decide +kernel
theorem dL_covers_100 : decode cL_covers 100 = .ok (.iconst 0, 1) := by decide +kernel
theorem dL_covers_101 : decode cL_covers 101 = .ok (.ireturn, 1) := by decide +kernel
theorem dL_told_0 : decode cL_told 0 = .ok (.aload_n 0, 1) := by decide +kernel
theorem dL_told_1 : decode cL_told 1 = .ok (.iconst 4, 1) := by decide +kernel
theorem dL_told_2 : decode cL_told 2 = .ok (.invokevirtual 37, 3) := by decide +kernel
theorem dL_told_5 : decode cL_told 5 = .ok (.istore_n 1, 1) := by decide +kernel
theorem dL_told_6 : decode cL_told 6 = .ok (.bipush 12, 2) := by decide +kernel
theorem dL_told_8 : decode cL_told 8 = .ok (.newarray .int, 2) := by decide +kernel
theorem dL_told_10 : decode cL_told 10 = .ok (.astore_n 2, 1) := by decide +kernel
theorem dL_told_11 : decode cL_told 11 = .ok (.iconst 0, 1) := by decide +kernel
theorem dL_told_12 : decode cL_told 12 = .ok (.istore_n 3, 1) := by decide +kernel
theorem dL_told_13 : decode cL_told 13 = .ok (.iconst 0, 1) := by decide +kernel
theorem dL_told_14 : decode cL_told 14 = .ok (.istore 4, 2) := by decide +kernel
theorem dL_told_16 : decode cL_told 16 = .ok (.iconst 0, 1) := by decide +kernel
theorem dL_told_17 : decode cL_told 17 = .ok (.istore 5, 2) := by decide +kernel
theorem dL_told_19 : decode cL_told 19 = .ok (.iconst 0, 1) := by decide +kernel
theorem dL_told_20 : decode cL_told 20 = .ok (.istore 6, 2) := by decide +kernel
theorem dL_told_22 : decode cL_told 22 = .ok (.iload 6, 2) := by decide +kernel
theorem dL_told_24 : decode cL_told 24 = .ok (.aload_n 0, 1) := by decide +kernel
theorem dL_told_25 : decode cL_told 25 = .ok (.iconst 0, 1) := by decide +kernel
theorem dL_told_26 : decode cL_told 26 = .ok (.invokevirtual 37, 3) := by decide +kernel
theorem dL_told_29 : decode cL_told 29 = .ok (.if_icmp .ge 327, 3) := by decide +kernel
theorem dL_told_32 : decode cL_told 32 = .ok (.iconst 0, 1) := by decide +kernel
theorem dL_told_33 : decode cL_told 33 = .ok (.istore 7, 2) := by decide +kernel
theorem dL_told_35 : decode cL_told 35 = .ok (.iload 7, 2) := by decide +kernel
theorem dL_told_37 : decode cL_told 37 = .ok (.aload_n 0, 1) := by decide +kernel
theorem dL_told_38 : decode cL_told 38 = .ok (.iconst 1, 1) := by decide +kernel
theorem dL_told_39 : decode cL_told 39 = .ok (.invokevirtual 37, 3) := by decide +kernel
theorem dL_told_42 : decode cL_told 42 = .ok (.if_icmp .ge 308, 3) := by decide +kernel
theorem dL_told_45 : decode cL_told 45 = .ok (.iconst 0, 1) := by decide +kernel
theorem dL_told_46 : decode cL_told 46 = .ok (.istore 8, 2) := by decide +kernel
theorem dL_told_48 : decode cL_told 48 = .ok (.bipush (-9), 2) := by decide +kernel
theorem dL_told_50 : decode cL_told 50 = .ok (.istore 9, 2) := by decide +kernel
theorem dL_told_52 : decode cL_told 52 = .ok (.iconst 0, 1) := by decide +kernel
theorem dL_told_53 : decode cL_told 53 = .ok (.istore 10, 2) := by decide +kernel
theorem dL_told_55 : decode cL_told 55 = .ok (.iload 10, 2) := by decide +kernel
theorem dL_told_57 : decode cL_told 57 = .ok (.iload_n 1, 1) := by decide +kernel
theorem dL_told_58 : decode cL_told 58 = .ok (.if_icmp .ge 243, 3) := by decide +kernel
theorem dL_told_61 : decode cL_told 61 = .ok (.aload_n 0, 1) := by decide +kernel
theorem dL_told_62 : decode cL_told 62 = .ok (.iload 10, 2) := by decide +kernel
theorem dL_told_64 : decode cL_told 64 = .ok (.iload 6, 2) := by decide +kernel
theorem dL_told_66 : decode cL_told 66 = .ok (.iload 7, 2) := by decide +kernel
theorem dL_told_68 : decode cL_told 68 = .ok (.invokestatic 59, 3) := by decide +kernel
theorem dL_told_71 : decode cL_told 71 = .ok (.ifCond .eq 224, 3) := by decide +kernel
theorem dL_told_74 : decode cL_told 74 = .ok (.aload_n 0, 1) := by decide +kernel
theorem dL_told_75 : decode cL_told 75 = .ok (.iload 10, 2) := by decide +kernel
theorem dL_told_77 : decode cL_told 77 = .ok (.bipush 10, 2) := by decide +kernel
theorem dL_told_79 : decode cL_told 79 = .ok (.invokevirtual 40, 3) := by decide +kernel
theorem dL_told_82 : decode cL_told 82 = .ok (.iload 8, 2) := by decide +kernel
theorem dL_told_84 : decode cL_told 84 = .ok (.if_icmp .le 8, 3) := by decide +kernel
theorem dL_told_87 : decode cL_told 87 = .ok (.iload 10, 2) := by decide +kernel
theorem dL_told_89 : decode cL_told 89 = .ok (.goto 5, 3) := by decide +kernel
theorem dL_told_92 : decode cL_told 92 = .ok (.iload 9, 2) := by decide +kernel
theorem dL_told_94 : decode cL_told 94 = .ok (.istore 9, 2) := by decide +kernel
theorem dL_told_96 : decode cL_told 96 = .ok (.aload_n 0, 1) := by decide +kernel
theorem dL_told_97 : decode cL_told 97 = .ok (.iload 10, 2) := by decide +kernel
theorem dL_told_99 : decode cL_told 99 = .ok (.bipush 10, 2) := by decide +kernel
theorem dL_told_101 : decode cL_told 101 = .ok (.invokevirtual 40, 3) := by decide +kernel
theorem dL_told_104 : decode cL_told 104 = .ok (.iload 8, 2) := by decide +kernel
theorem dL_told_106 : decode cL_told 106 = .ok (.if_icmp .le 14, 3) := by decide +kernel
theorem dL_told_109 : decode cL_told 109 = .ok (.aload_n 0, 1) := by decide +kernel
theorem dL_told_110 : decode cL_told 110 = .ok (.iload 10, 2) := by decide +kernel
theorem dL_told_112 : decode cL_told 112 = .ok (.bipush 10, 2) := by decide +kernel
theorem dL_told_114 : decode cL_told 114 = .ok (.invokevirtual 40, 3) := by decide +kernel
theorem dL_told_117 : decode cL_told 117 = .ok (.goto 5, 3) := by decide +kernel
theorem dL_told_120 : decode cL_told 120 = .ok (.iload 8, 2) := by decide +kernel
theorem dL_told_122 : decode cL_told 122 = .ok (.istore 8, 2) := by decide +kernel
theorem dL_told_124 : decode cL_told 124 = .ok (.aload_n 0, 1) := by decide +kernel
theorem dL_told_125 : decode cL_told 125 = .ok (.iload 10, 2) := by decide +kernel
theorem dL_told_127 : decode cL_told 127 = .ok (.bipush 9, 2) := by decide +kernel
theorem dL_told_129 : decode cL_told 129 = .ok (.invokevirtual 40, 3) := by decide +kernel
theorem dL_told_132 : decode cL_told 132 = .ok (.ifCond .ne 7, 3) := by decide +kernel
theorem dL_told_135 : decode cL_told 135 = .ok (.iconst 1, 1) := by decide +kernel
theorem dL_told_136 : decode cL_told 136 = .ok (.goto 4, 3) := by decide +kernel
theorem dL_told_139 : decode cL_told 139 = .ok (.iconst 0, 1) := by decide +kernel
theorem dL_told_140 : decode cL_told 140 = .ok (.istore 11, 2) := by decide +kernel
theorem dL_told_142 : decode cL_told 142 = .ok (.iconst 0, 1) := by decide +kernel
theorem dL_told_143 : decode cL_told 143 = .ok (.istore 12, 2) := by decide +kernel
theorem dL_told_145 : decode cL_told 145 = .ok (.iload 12, 2) := by decide +kernel
theorem dL_told_147 : decode cL_told 147 = .ok (.iload_n 1, 1) := by decide +kernel
theorem dL_told_148 : decode cL_told 148 = .ok (.if_icmp .ge 132, 3) := by decide +kernel
theorem dL_told_151 : decode cL_told 151 = .ok (.iload 12, 2) := by decide +kernel
theorem dL_told_153 : decode cL_told 153 = .ok (.iload 10, 2) := by decide +kernel
theorem dL_told_155 : decode cL_told 155 = .ok (.if_icmp .eq 119, 3) := by decide +kernel
theorem dL_told_158 : decode cL_told 158 = .ok (.aload_n 0, 1) := by decide +kernel
theorem dL_told_159 : decode cL_told 159 = .ok (.iload 12, 2) := by decide +kernel
theorem dL_told_161 : decode cL_told 161 = .ok (.iload 6, 2) := by decide +kernel
theorem dL_told_163 : decode cL_told 163 = .ok (.iload 7, 2) := by decide +kernel
theorem dL_told_165 : decode cL_told 165 = .ok (.invokestatic 59, 3) := by decide +kernel
theorem dL_told_168 : decode cL_told 168 = .ok (.ifCond .eq 106, 3) := by decide +kernel
theorem dL_told_171 : decode cL_told 171 = .ok (.aload_n 0, 1) := by decide +kernel
theorem dL_told_172 : decode cL_told 172 = .ok (.iload 12, 2) := by decide +kernel
theorem dL_told_174 : decode cL_told 174 = .ok (.bipush 9, 2) := by decide +kernel
theorem dL_told_176 : decode cL_told 176 = .ok (.invokevirtual 40, 3) := by decide +kernel
theorem dL_told_179 : decode cL_told 179 = .ok (.aload_n 0, 1) := by decide +kernel
theorem dL_told_180 : decode cL_told 180 = .ok (.iload 10, 2) := by decide +kernel
theorem dL_told_182 : decode cL_told 182 = .ok (.bipush 10, 2) := by decide +kernel
theorem dL_told_184 : decode cL_told 184 = .ok (.invokevirtual 40, 3) := by decide +kernel
theorem dL_told_187 : decode cL_told 187 = .ok (.if_icmp .lt 7, 3) := by decide +kernel
theorem dL_told_190 : decode cL_told 190 = .ok (.iconst 1, 1) := by decide +kernel
theorem dL_told_191 : decode cL_told 191 = .ok (.goto 4, 3) := by decide +kernel
theorem dL_told_194 : decode cL_told 194 = .ok (.iconst 0, 1) := by decide +kernel
theorem dL_told_195 : decode cL_told 195 = .ok (.istore 13, 2) := by decide +kernel
theorem dL_told_197 : decode cL_told 197 = .ok (.iload 13, 2) := by decide +kernel
theorem dL_told_199 : decode cL_told 199 = .ok (.ifCond .ne 24, 3) := by decide +kernel
theorem dL_told_202 : decode cL_told 202 = .ok (.aload_n 0, 1) := by decide +kernel
theorem dL_told_203 : decode cL_told 203 = .ok (.iload 10, 2) := by decide +kernel
theorem dL_told_205 : decode cL_told 205 = .ok (.bipush 9, 2) := by decide +kernel
theorem dL_told_207 : decode cL_told 207 = .ok (.invokevirtual 40, 3) := by decide +kernel
theorem dL_told_210 : decode cL_told 210 = .ok (.aload_n 0, 1) := by decide +kernel
theorem dL_told_211 : decode cL_told 211 = .ok (.iload 12, 2) := by decide +kernel
theorem dL_told_213 : decode cL_told 213 = .ok (.bipush 10, 2) := by decide +kernel
theorem dL_told_215 : decode cL_told 215 = .ok (.invokevirtual 40, 3) := by decide +kernel
theorem dL_told_218 : decode cL_told 218 = .ok (.if_icmp .ge 5, 3) := by decide +kernel
theorem dL_told_221 : decode cL_told 221 = .ok (.iconst 0, 1) := by decide +kernel
theorem dL_told_222 : decode cL_told 222 = .ok (.ireturn, 1) := by decide +kernel
theorem dL_told_223 : decode cL_told 223 = .ok (.aload_n 2, 1) := by decide +kernel
theorem dL_told_224 : decode cL_told 224 = .ok (.iload 10, 2) := by decide +kernel
theorem dL_told_226 : decode cL_told 226 = .ok (.dup2, 1) := by decide +kernel
theorem dL_told_227 : decode cL_told 227 = .ok (.iaload, 1) := by decide +kernel
theorem dL_told_228 : decode cL_told 228 = .ok (.iload 13, 2) := by decide +kernel
theorem dL_told_230 : decode cL_told 230 = .ok (.ifCond .eq 10, 3) := by decide +kernel
theorem dL_told_233 : decode cL_told 233 = .ok (.iconst 1, 1) := by decide +kernel
theorem dL_told_234 : decode cL_told 234 = .ok (.iload 12, 2) := by decide +kernel
theorem dL_told_236 : decode cL_told 236 = .ok (.ishl, 1) := by decide +kernel
theorem dL_told_237 : decode cL_told 237 = .ok (.goto 4, 3) := by decide +kernel
theorem dL_told_240 : decode cL_told 240 = .ok (.iconst 0, 1) := by decide +kernel
theorem dL_told_241 : decode cL_told 241 = .ok (.ior, 1) := by decide +kernel
theorem dL_told_242 : decode cL_told 242 = .ok (.iastore, 1) := by decide +kernel
theorem dL_told_243 : decode cL_told 243 = .ok (.iload 11, 2) := by decide +kernel
theorem dL_told_245 : decode cL_told 245 = .ok (.ifCond .ne 22, 3) := by decide +kernel
theorem dL_told_248 : decode cL_told 248 = .ok (.aload_n 0, 1) := by decide +kernel
theorem dL_told_249 : decode cL_told 249 = .ok (.iload 12, 2) := by decide +kernel
theorem dL_told_251 : decode cL_told 251 = .ok (.bipush 10, 2) := by decide +kernel
theorem dL_told_253 : decode cL_told 253 = .ok (.invokevirtual 40, 3) := by decide +kernel
theorem dL_told_256 : decode cL_told 256 = .ok (.aload_n 0, 1) := by decide +kernel
theorem dL_told_257 : decode cL_told 257 = .ok (.iload 10, 2) := by decide +kernel
theorem dL_told_259 : decode cL_told 259 = .ok (.bipush 9, 2) := by decide +kernel
theorem dL_told_261 : decode cL_told 261 = .ok (.invokevirtual 40, 3) := by decide +kernel
theorem dL_told_264 : decode cL_told 264 = .ok (.if_icmp .ne 7, 3) := by decide +kernel
theorem dL_told_267 : decode cL_told 267 = .ok (.iconst 1, 1) := by decide +kernel
theorem dL_told_268 : decode cL_told 268 = .ok (.goto 4, 3) := by decide +kernel
theorem dL_told_271 : decode cL_told 271 = .ok (.iconst 0, 1) := by decide +kernel
theorem dL_told_272 : decode cL_told 272 = .ok (.istore 11, 2) := by decide +kernel
theorem dL_told_274 : decode cL_told 274 = .ok (.iinc 12 1, 3) := by decide +kernel
theorem dL_told_277 : decode cL_told 277 = .ok (.goto (-132), 3) := by decide +kernel
theorem dL_told_280 : decode cL_told 280 = .ok (.iload 5, 2) := by decide +kernel
theorem dL_told_282 : decode cL_told 282 = .ok (.iload 11, 2) := by decide +kernel
theorem dL_told_284 : decode cL_told 284 = .ok (.ifCond .eq 7, 3) := by decide +kernel
theorem dL_told_287 : decode cL_told 287 = .ok (.iconst 1, 1) := by decide +kernel
theorem dL_told_288 : decode cL_told 288 = .ok (.goto 4, 3) := by decide +kernel
theorem dL_told_291 : decode cL_told 291 = .ok (.iconst 0, 1) := by decide +kernel
theorem dL_told_292 : decode cL_told 292 = .ok (.iadd, 1) := by decide +kernel
theorem dL_told_293 : decode cL_told 293 = .ok (.istore 5, 2) := by decide +kernel
theorem dL_told_295 : decode cL_told 295 = .ok (.iinc 10 1, 3) := by decide +kernel
theorem dL_told_298 : decode cL_told 298 = .ok (.goto (-243), 3) := by decide +kernel
theorem dL_told_301 : decode cL_told 301 = .ok (.iload 8, 2) := by decide +kernel
theorem dL_told_303 : decode cL_told 303 = .ok (.iload_n 3, 1) := by decide +kernel
theorem dL_told_304 : decode cL_told 304 = .ok (.if_icmp .le 8, 3) := by decide +kernel
theorem dL_told_307 : decode cL_told 307 = .ok (.iload 8, 2) := by decide +kernel
theorem dL_told_309 : decode cL_told 309 = .ok (.goto 4, 3) := by decide +kernel
theorem dL_told_312 : decode cL_told 312 = .ok (.iload_n 3, 1) := by decide +kernel
theorem dL_told_313 : decode cL_told 313 = .ok (.istore_n 3, 1) := by decide +kernel
theorem dL_told_314 : decode cL_told 314 = .ok (.aload_n 0, 1) := by decide +kernel
theorem dL_told_315 : decode cL_told 315 = .ok (.iload 6, 2) := by decide +kernel
theorem dL_told_317 : decode cL_told 317 = .ok (.iload 7, 2) := by decide +kernel
theorem dL_told_319 : decode cL_told 319 = .ok (.iconst 1, 1) := by decide +kernel
theorem dL_told_320 : decode cL_told 320 = .ok (.invokevirtual 47, 3) := by decide +kernel
theorem dL_told_323 : decode cL_told 323 = .ok (.iload 8, 2) := by decide +kernel
theorem dL_told_325 : decode cL_told 325 = .ok (.if_icmp .ne 17, 3) := by decide +kernel
theorem dL_told_328 : decode cL_told 328 = .ok (.aload_n 0, 1) := by decide +kernel
theorem dL_told_329 : decode cL_told 329 = .ok (.iload 6, 2) := by decide +kernel
theorem dL_told_331 : decode cL_told 331 = .ok (.iload 7, 2) := by decide +kernel
theorem dL_told_333 : decode cL_told 333 = .ok (.iconst 0, 1) := by decide +kernel
theorem dL_told_334 : decode cL_told 334 = .ok (.invokevirtual 47, 3) := by decide +kernel
theorem dL_told_337 : decode cL_told 337 = .ok (.iload 9, 2) := by decide +kernel
theorem dL_told_339 : decode cL_told 339 = .ok (.if_icmp .eq 5, 3) := by decide +kernel
theorem dL_told_342 : decode cL_told 342 = .ok (.iconst 0, 1) := by decide +kernel
theorem dL_told_343 : decode cL_told 343 = .ok (.ireturn, 1) := by decide +kernel
theorem dL_told_344 : decode cL_told 344 = .ok (.iinc 7 1, 3) := by decide +kernel
theorem dL_told_347 : decode cL_told 347 = .ok (.goto (-312), 3) := by decide +kernel
theorem dL_told_350 : decode cL_told 350 = .ok (.iinc 6 1, 3) := by decide +kernel
theorem dL_told_353 : decode cL_told 353 = .ok (.goto (-331), 3) := by decide +kernel
theorem dL_told_356 : decode cL_told 356 = .ok (.iconst 0, 1) := by decide +kernel
theorem dL_told_357 : decode cL_told 357 = .ok (.istore 6, 2) := by decide +kernel
theorem dL_told_359 : decode cL_told 359 = .ok (.iconst 0, 1) := by decide +kernel
theorem dL_told_360 : decode cL_told 360 = .ok (.istore 7, 2) := by decide +kernel
theorem dL_told_362 : decode cL_told 362 = .ok (.iconst 0, 1) := by decide +kernel
theorem dL_told_363 : decode cL_told 363 = .ok (.istore 8, 2) := by decide +kernel
theorem dL_told_365 : decode cL_told 365 = .ok (.iconst 0, 1) := by decide +kernel
theorem dL_told_366 : decode cL_told 366 = .ok (.istore 9, 2) := by decide +kernel
theorem dL_told_368 : decode cL_told 368 = .ok (.iconst 0, 1) := by decide +kernel
theorem dL_told_369 : decode cL_told 369 = .ok (.istore 10, 2) := by decide +kernel
theorem dL_told_371 : decode cL_told 371 = .ok (.iconst 0, 1) := by decide +kernel
theorem dL_told_372 : decode cL_told 372 = .ok (.istore 11, 2) := by decide +kernel
theorem dL_told_374 : decode cL_told 374 = .ok (.iload 11, 2) := by decide +kernel
theorem dL_told_376 : decode cL_told 376 = .ok (.iload_n 1, 1) := by decide +kernel
theorem dL_told_377 : decode cL_told 377 = .ok (.if_icmp .ge 359, 3) := by decide +kernel
theorem dL_told_380 : decode cL_told 380 = .ok (.aload_n 0, 1) := by decide +kernel
theorem dL_told_381 : decode cL_told 381 = .ok (.iload 11, 2) := by decide +kernel
theorem dL_told_383 : decode cL_told 383 = .ok (.iconst 5, 1) := by decide +kernel
theorem dL_told_384 : decode cL_told 384 = .ok (.invokevirtual 40, 3) := by decide +kernel
theorem dL_told_387 : decode cL_told 387 = .ok (.ifCond .ne 29, 3) := by decide +kernel
theorem dL_told_390 : decode cL_told 390 = .ok (.aload_n 0, 1) := by decide +kernel
theorem dL_told_391 : decode cL_told 391 = .ok (.iload 11, 2) := by decide +kernel
theorem dL_told_393 : decode cL_told 393 = .ok (.bipush 9, 2) := by decide +kernel
theorem dL_told_395 : decode cL_told 395 = .ok (.invokevirtual 40, 3) := by decide +kernel
