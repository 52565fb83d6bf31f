theorem dX7_seen_62 : decode cX7_seen 62 = .ok (.iload_n 1, 1) := by decide +kernel
theorem dX7_seen_63 : decode cX7_seen 63 = .ok (.iload_n 2, 1) := by decide +kernel
theorem dX7_seen_64 : decode cX7_seen 64 = .ok (.invokevirtual 75, 3) := by decide +kernel
theorem dX7_seen_67 : decode cX7_seen 67 = .ok (.ifCond .eq 7, 3) := by decide +kernel
theorem dX7_seen_70 : decode cX7_seen 70 = .ok (.iconst 1, 1) := by decide +kernel
theorem dX7_seen_71 : decode cX7_seen 71 = .ok (.goto 4, 3) := by decide +kernel
theorem dX7_seen_74 : decode cX7_seen 74 = .ok (.iconst 0, 1) := by decide +kernel
theorem dX7_seen_75 : decode cX7_seen 75 = .ok (.istore 6, 2) := by decide +kernel
theorem dX7_seen_77 : decode cX7_seen 77 = .ok (.iload 6, 2) := by decide +kernel
theorem dX7_seen_79 : decode cX7_seen 79 = .ok (.ifCond .eq 30, 3) := by decide +kernel
theorem dX7_seen_82 : decode cX7_seen 82 = .ok (.iload 4, 2) := by decide +kernel
theorem dX7_seen_84 : decode cX7_seen 84 = .ok (.bipush (-9), 2) := by decide +kernel
theorem dX7_seen_86 : decode cX7_seen 86 = .ok (.if_icmp .eq 18, 3) := by decide +kernel
theorem dX7_seen_89 : decode cX7_seen 89 = .ok (.aload_n 0, 1) := by decide +kernel
theorem dX7_seen_90 : decode cX7_seen 90 = .ok (.iload 5, 2) := by decide +kernel
theorem dX7_seen_92 : decode cX7_seen 92 = .ok (.invokevirtual 78, 3) := by decide +kernel
theorem dX7_seen_95 : decode cX7_seen 95 = .ok (.aload_n 0, 1) := by decide +kernel
theorem dX7_seen_96 : decode cX7_seen 96 = .ok (.iload 4, 2) := by decide +kernel
theorem dX7_seen_98 : decode cX7_seen 98 = .ok (.invokevirtual 78, 3) := by decide +kernel
theorem dX7_seen_101 : decode cX7_seen 101 = .ok (.if_icmp .le 8, 3) := by decide +kernel
theorem dX7_seen_104 : decode cX7_seen 104 = .ok (.iload 5, 2) := by decide +kernel
theorem dX7_seen_106 : decode cX7_seen 106 = .ok (.goto 5, 3) := by decide +kernel
theorem dX7_seen_109 : decode cX7_seen 109 = .ok (.iload 4, 2) := by decide +kernel
theorem dX7_seen_111 : decode cX7_seen 111 = .ok (.istore 4, 2) := by decide +kernel
theorem dX7_seen_113 : decode cX7_seen 113 = .ok (.iinc 5 1, 3) := by decide +kernel
theorem dX7_seen_116 : decode cX7_seen 116 = .ok (.goto (-75), 3) := by decide +kernel
theorem dX7_seen_119 : decode cX7_seen 119 = .ok (.iload_n 3, 1) := by decide +kernel
theorem dX7_seen_120 : decode cX7_seen 120 = .ok (.ifCond .ne 8, 3) := by decide +kernel
theorem dX7_seen_123 : decode cX7_seen 123 = .ok (.iload 4, 2) := by decide +kernel
theorem dX7_seen_125 : decode cX7_seen 125 = .ok (.goto 20, 3) := by decide +kernel
theorem dX7_seen_128 : decode cX7_seen 128 = .ok (.iload 4, 2) := by decide +kernel
theorem dX7_seen_130 : decode cX7_seen 130 = .ok (.bipush (-9), 2) := by decide +kernel
theorem dX7_seen_132 : decode cX7_seen 132 = .ok (.if_icmp .ne 7, 3) := by decide +kernel
theorem dX7_seen_135 : decode cX7_seen 135 = .ok (.iconst 0, 1) := by decide +kernel
theorem dX7_seen_136 : decode cX7_seen 136 = .ok (.goto 9, 3) := by decide +kernel
theorem dX7_seen_139 : decode cX7_seen 139 = .ok (.aload_n 0, 1) := by decide +kernel
theorem dX7_seen_140 : decode cX7_seen 140 = .ok (.iload 4, 2) := by decide +kernel
theorem dX7_seen_142 : decode cX7_seen 142 = .ok (.invokevirtual 78, 3) := by decide +kernel
theorem dX7_seen_145 : decode cX7_seen 145 = .ok (.ireturn, 1) := by decide +kernel
theorem dX7_finds_0 : decode cX7_finds 0 = .ok (.aload_n 0, 1) := by decide +kernel
theorem dX7_finds_1 : decode cX7_finds 1 = .ok (.invokevirtual 91, 3) := by decide +kernel
theorem dX7_finds_4 : decode cX7_finds 4 = .ok (.aload_n 0, 1) := by decide +kernel
theorem dX7_finds_5 : decode cX7_finds 5 = .ok (.iconst 0, 1) := by decide +kernel
theorem dX7_finds_6 : decode cX7_finds 6 = .ok (.putfield 178, 3) := by decide +kernel
theorem dX7_finds_9 : decode cX7_finds 9 = .ok (.aload_n 0, 1) := by decide +kernel
theorem dX7_finds_10 : decode cX7_finds 10 = .ok (.bipush (-9), 2) := by decide +kernel
theorem dX7_finds_12 : decode cX7_finds 12 = .ok (.putfield 181, 3) := by decide +kernel
theorem dX7_finds_15 : decode cX7_finds 15 = .ok (.aload_n 0, 1) := by decide +kernel
theorem dX7_finds_16 : decode cX7_finds 16 = .ok (.iload_n 1, 1) := by decide +kernel
theorem dX7_finds_17 : decode cX7_finds 17 = .ok (.iconst 0, 1) := by decide +kernel
theorem dX7_finds_18 : decode cX7_finds 18 = .ok (.invokevirtual 47, 3) := by decide +kernel
theorem dX7_finds_21 : decode cX7_finds 21 = .ok (.aload_n 0, 1) := by decide +kernel
theorem dX7_finds_22 : decode cX7_finds 22 = .ok (.iload_n 1, 1) := by decide +kernel
theorem dX7_finds_23 : decode cX7_finds 23 = .ok (.iconst 1, 1) := by decide +kernel
theorem dX7_finds_24 : decode cX7_finds 24 = .ok (.invokevirtual 47, 3) := by decide +kernel
theorem dX7_finds_27 : decode cX7_finds 27 = .ok (.if_icmp .ne 7, 3) := by decide +kernel
theorem dX7_finds_30 : decode cX7_finds 30 = .ok (.iconst 1, 1) := by decide +kernel
theorem dX7_finds_31 : decode cX7_finds 31 = .ok (.goto 4, 3) := by decide +kernel
theorem dX7_finds_34 : decode cX7_finds 34 = .ok (.iconst 2, 1) := by decide +kernel
theorem dX7_finds_35 : decode cX7_finds 35 = .ok (.istore_n 2, 1) := by decide +kernel
theorem dX7_finds_36 : decode cX7_finds 36 = .ok (.iconst 0, 1) := by decide +kernel
theorem dX7_finds_37 : decode cX7_finds 37 = .ok (.istore_n 3, 1) := by decide +kernel
theorem dX7_finds_38 : decode cX7_finds 38 = .ok (.iload_n 3, 1) := by decide +kernel
theorem dX7_finds_39 : decode cX7_finds 39 = .ok (.aload_n 0, 1) := by decide +kernel
theorem dX7_finds_40 : decode cX7_finds 40 = .ok (.getfield 7, 3) := by decide +kernel
theorem dX7_finds_43 : decode cX7_finds 43 = .ok (.iconst 1, 1) := by decide +kernel
theorem dX7_finds_44 : decode cX7_finds 44 = .ok (.iaload, 1) := by decide +kernel
theorem dX7_finds_45 : decode cX7_finds 45 = .ok (.if_icmp .ge 151, 3) := by decide +kernel
theorem dX7_finds_48 : decode cX7_finds 48 = .ok (.iconst 0, 1) := by decide +kernel
theorem dX7_finds_49 : decode cX7_finds 49 = .ok (.istore 4, 2) := by decide +kernel
theorem dX7_finds_51 : decode cX7_finds 51 = .ok (.iload 4, 2) := by decide +kernel
theorem dX7_finds_53 : decode cX7_finds 53 = .ok (.aload_n 0, 1) := by decide +kernel
theorem dX7_finds_54 : decode cX7_finds 54 = .ok (.getfield 7, 3) := by decide +kernel
theorem dX7_finds_57 : decode cX7_finds 57 = .ok (.iconst 0, 1) := by decide +kernel
theorem dX7_finds_58 : decode cX7_finds 58 = .ok (.iaload, 1) := by decide +kernel
theorem dX7_finds_59 : decode cX7_finds 59 = .ok (.if_icmp .ge 131, 3) := by decide +kernel
theorem dX7_finds_62 : decode cX7_finds 62 = .ok (.iconst 0, 1) := by decide +kernel
theorem dX7_finds_63 : decode cX7_finds 63 = .ok (.istore 5, 2) := by decide +kernel
theorem dX7_finds_65 : decode cX7_finds 65 = .ok (.iload 5, 2) := by decide +kernel
theorem dX7_finds_67 : decode cX7_finds 67 = .ok (.iload_n 2, 1) := by decide +kernel
theorem dX7_finds_68 : decode cX7_finds 68 = .ok (.if_icmp .ge 116, 3) := by decide +kernel
theorem dX7_finds_71 : decode cX7_finds 71 = .ok (.aload_n 0, 1) := by decide +kernel
theorem dX7_finds_72 : decode cX7_finds 72 = .ok (.iload_n 1, 1) := by decide +kernel
theorem dX7_finds_73 : decode cX7_finds 73 = .ok (.iload 4, 2) := by decide +kernel
theorem dX7_finds_75 : decode cX7_finds 75 = .ok (.iload_n 3, 1) := by decide +kernel
theorem dX7_finds_76 : decode cX7_finds 76 = .ok (.iload 5, 2) := by decide +kernel
theorem dX7_finds_78 : decode cX7_finds 78 = .ok (.iconst 1, 1) := by decide +kernel
theorem dX7_finds_79 : decode cX7_finds 79 = .ok (.if_icmp .ne 7, 3) := by decide +kernel
theorem dX7_finds_82 : decode cX7_finds 82 = .ok (.iconst 1, 1) := by decide +kernel
theorem dX7_finds_83 : decode cX7_finds 83 = .ok (.goto 4, 3) := by decide +kernel
theorem dX7_finds_86 : decode cX7_finds 86 = .ok (.iconst 0, 1) := by decide +kernel
theorem dX7_finds_87 : decode cX7_finds 87 = .ok (.invokevirtual 97, 3) := by decide +kernel
theorem dX7_finds_90 : decode cX7_finds 90 = .ok (.ifCond .eq 88, 3) := by decide +kernel
theorem dX7_finds_93 : decode cX7_finds 93 = .ok (.aload_n 0, 1) := by decide +kernel
theorem dX7_finds_94 : decode cX7_finds 94 = .ok (.iload_n 1, 1) := by decide +kernel
theorem dX7_finds_95 : decode cX7_finds 95 = .ok (.iload 4, 2) := by decide +kernel
theorem dX7_finds_97 : decode cX7_finds 97 = .ok (.iload_n 3, 1) := by decide +kernel
theorem dX7_finds_98 : decode cX7_finds 98 = .ok (.iload 5, 2) := by decide +kernel
theorem dX7_finds_100 : decode cX7_finds 100 = .ok (.iconst 1, 1) := by decide +kernel
theorem dX7_finds_101 : decode cX7_finds 101 = .ok (.if_icmp .ne 7, 3) := by decide +kernel
theorem dX7_finds_104 : decode cX7_finds 104 = .ok (.iconst 1, 1) := by decide +kernel
theorem dX7_finds_105 : decode cX7_finds 105 = .ok (.goto 4, 3) := by decide +kernel
theorem dX7_finds_108 : decode cX7_finds 108 = .ok (.iconst 0, 1) := by decide +kernel
theorem dX7_finds_109 : decode cX7_finds 109 = .ok (.invokevirtual 101, 3) := by decide +kernel
theorem dX7_finds_112 : decode cX7_finds 112 = .ok (.ifCond .eq 66, 3) := by decide +kernel
theorem dX7_finds_115 : decode cX7_finds 115 = .ok (.aload_n 0, 1) := by decide +kernel
theorem dX7_finds_116 : decode cX7_finds 116 = .ok (.getfield 81, 3) := by decide +kernel
theorem dX7_finds_119 : decode cX7_finds 119 = .ok (.aload_n 0, 1) := by decide +kernel
theorem dX7_finds_120 : decode cX7_finds 120 = .ok (.iload_n 1, 1) := by decide +kernel
theorem dX7_finds_121 : decode cX7_finds 121 = .ok (.invokevirtual 51, 3) := by decide +kernel
theorem dX7_finds_124 : decode cX7_finds 124 = .ok (.iadd, 1) := by decide +kernel
theorem dX7_finds_125 : decode cX7_finds 125 = .ok (.istore 6, 2) := by decide +kernel
theorem dX7_finds_127 : decode cX7_finds 127 = .ok (.aload_n 0, 1) := by decide +kernel
theorem dX7_finds_128 : decode cX7_finds 128 = .ok (.dup, 1) := by decide +kernel
theorem dX7_finds_129 : decode cX7_finds 129 = .ok (.getfield 178, 3) := by decide +kernel
theorem dX7_finds_132 : decode cX7_finds 132 = .ok (.iconst 1, 1) := by decide +kernel
theorem dX7_finds_133 : decode cX7_finds 133 = .ok (.iadd, 1) := by decide +kernel
theorem dX7_finds_134 : decode cX7_finds 134 = .ok (.putfield 178, 3) := by decide +kernel
theorem dX7_finds_137 : decode cX7_finds 137 = .ok (.aload_n 0, 1) := by decide +kernel
theorem dX7_finds_138 : decode cX7_finds 138 = .ok (.getfield 181, 3) := by decide +kernel
theorem dX7_finds_141 : decode cX7_finds 141 = .ok (.bipush (-9), 2) := by decide +kernel
theorem dX7_finds_143 : decode cX7_finds 143 = .ok (.if_icmp .eq 12, 3) := by decide +kernel
theorem dX7_finds_146 : decode cX7_finds 146 = .ok (.iload 6, 2) := by decide +kernel
theorem dX7_finds_148 : decode cX7_finds 148 = .ok (.aload_n 0, 1) := by decide +kernel
theorem dX7_finds_149 : decode cX7_finds 149 = .ok (.getfield 181, 3) := by decide +kernel
theorem dX7_finds_152 : decode cX7_finds 152 = .ok (.if_icmp .ge 26, 3) := by decide +kernel
theorem dX7_finds_155 : decode cX7_finds 155 = .ok (.aload_n 0, 1) := by decide +kernel
theorem dX7_finds_156 : decode cX7_finds 156 = .ok (.iload 6, 2) := by decide +kernel
theorem dX7_finds_158 : decode cX7_finds 158 = .ok (.putfield 181, 3) := by decide +kernel
theorem dX7_finds_161 : decode cX7_finds 161 = .ok (.aload_n 0, 1) := by decide +kernel
theorem dX7_finds_162 : decode cX7_finds 162 = .ok (.iload 4, 2) := by decide +kernel
theorem dX7_finds_164 : decode cX7_finds 164 = .ok (.putfield 184, 3) := by decide +kernel
theorem dX7_finds_167 : decode cX7_finds 167 = .ok (.aload_n 0, 1) := by decide +kernel
theorem dX7_finds_168 : decode cX7_finds 168 = .ok (.iload_n 3, 1) := by decide +kernel
theorem dX7_finds_169 : decode cX7_finds 169 = .ok (.putfield 187, 3) := by decide +kernel
theorem dX7_finds_172 : decode cX7_finds 172 = .ok (.aload_n 0, 1) := by decide +kernel
theorem dX7_finds_173 : decode cX7_finds 173 = .ok (.iload 5, 2) := by decide +kernel
theorem dX7_finds_175 : decode cX7_finds 175 = .ok (.putfield 190, 3) := by decide +kernel
theorem dX7_finds_178 : decode cX7_finds 178 = .ok (.iinc 5 1, 3) := by decide +kernel
theorem dX7_finds_181 : decode cX7_finds 181 = .ok (.goto (-116), 3) := by decide +kernel
theorem dX7_finds_184 : decode cX7_finds 184 = .ok (.iinc 4 1, 3) := by decide +kernel
theorem dX7_finds_187 : decode cX7_finds 187 = .ok (.goto (-136), 3) := by decide +kernel
theorem dX7_finds_190 : decode cX7_finds 190 = .ok (.iinc 3 1, 3) := by decide +kernel
theorem dX7_finds_193 : decode cX7_finds 193 = .ok (.goto (-155), 3) := by decide +kernel
theorem dX7_finds_196 : decode cX7_finds 196 = .ok (.return_, 1) := by decide +kernel
theorem dX7_place_0 : decode cX7_place 0 = .ok (.aload_n 0, 1) := by decide +kernel
theorem dX7_place_1 : decode cX7_place 1 = .ok (.iload_n 1, 1) := by decide +kernel
theorem dX7_place_2 : decode cX7_place 2 = .ok (.invokevirtual 94, 3) := by decide +kernel
theorem dX7_place_5 : decode cX7_place 5 = .ok (.ifCond .eq 12, 3) := by decide +kernel
theorem dX7_place_8 : decode cX7_place 8 = .ok (.iload_n 2, 1) := by decide +kernel
theorem dX7_place_9 : decode cX7_place 9 = .ok (.iconst 0, 1) := by decide +kernel
theorem dX7_place_10 : decode cX7_place 10 = .ok (.iconst 3, 1) := by decide +kernel
theorem dX7_place_11 : decode cX7_place 11 = .ok (.invokestatic 43, 3) := by decide +kernel
theorem dX7_place_14 : decode cX7_place 14 = .ok (.ifCond .ne 5, 3) := by decide +kernel
theorem dX7_place_17 : decode cX7_place 17 = .ok (.iconst (-1), 1) := by decide +kernel
theorem dX7_place_18 : decode cX7_place 18 = .ok (.ireturn, 1) := by decide +kernel
theorem dX7_place_19 : decode cX7_place 19 = .ok (.aload_n 0, 1) := by decide +kernel
theorem dX7_place_20 : decode cX7_place 20 = .ok (.iload_n 1, 1) := by decide +kernel
theorem dX7_place_21 : decode cX7_place 21 = .ok (.invokevirtual 71, 3) := by decide +kernel
theorem dX7_place_24 : decode cX7_place 24 = .ok (.ifCond .eq 6, 3) := by decide +kernel
theorem dX7_place_27 : decode cX7_place 27 = .ok (.bipush (-2), 2) := by decide +kernel
theorem dX7_place_29 : decode cX7_place 29 = .ok (.ireturn, 1) := by decide +kernel
theorem dX7_place_30 : decode cX7_place 30 = .ok (.aload_n 0, 1) := by decide +kernel
theorem dX7_place_31 : decode cX7_place 31 = .ok (.iload_n 1, 1) := by decide +kernel
theorem dX7_place_32 : decode cX7_place 32 = .ok (.invokevirtual 193, 3) := by decide +kernel
theorem dX7_place_35 : decode cX7_place 35 = .ok (.aload_n 0, 1) := by decide +kernel
theorem dX7_place_36 : decode cX7_place 36 = .ok (.getfield 181, 3) := by decide +kernel
theorem dX7_place_39 : decode cX7_place 39 = .ok (.bipush (-9), 2) := by decide +kernel
theorem dX7_place_41 : decode cX7_place 41 = .ok (.if_icmp .ne 6, 3) := by decide +kernel
theorem dX7_place_44 : decode cX7_place 44 = .ok (.bipush (-9), 2) := by decide +kernel
theorem dX7_place_46 : decode cX7_place 46 = .ok (.ireturn, 1) := by decide +kernel
theorem dX7_place_47 : decode cX7_place 47 = .ok (.iload_n 2, 1) := by decide +kernel
theorem dX7_place_48 : decode cX7_place 48 = .ok (.ifCond .ne 10, 3) := by decide +kernel
theorem dX7_place_51 : decode cX7_place 51 = .ok (.aload_n 0, 1) := by decide +kernel
theorem dX7_place_52 : decode cX7_place 52 = .ok (.getfield 184, 3) := by decide +kernel
theorem dX7_place_55 : decode cX7_place 55 = .ok (.goto 31, 3) := by decide +kernel
theorem dX7_place_58 : decode cX7_place 58 = .ok (.iload_n 2, 1) := by decide +kernel
theorem dX7_place_59 : decode cX7_place 59 = .ok (.iconst 1, 1) := by decide +kernel
theorem dX7_place_60 : decode cX7_place 60 = .ok (.if_icmp .ne 10, 3) := by decide +kernel
theorem dX7_place_63 : decode cX7_place 63 = .ok (.aload_n 0, 1) := by decide +kernel
theorem dX7_place_64 : decode cX7_place 64 = .ok (.getfield 187, 3) := by decide +kernel
theorem dX7_place_67 : decode cX7_place 67 = .ok (.goto 19, 3) := by decide +kernel
theorem dX7_place_70 : decode cX7_place 70 = .ok (.iload_n 2, 1) := by decide +kernel
theorem dX7_place_71 : decode cX7_place 71 = .ok (.iconst 2, 1) := by decide +kernel
theorem dX7_place_72 : decode cX7_place 72 = .ok (.if_icmp .ne 10, 3) := by decide +kernel
theorem dX7_place_75 : decode cX7_place 75 = .ok (.aload_n 0, 1) := by decide +kernel
theorem dX7_place_76 : decode cX7_place 76 = .ok (.getfield 190, 3) := by decide +kernel
theorem dX7_place_79 : decode cX7_place 79 = .ok (.goto 7, 3) := by decide +kernel
theorem dX7_place_82 : decode cX7_place 82 = .ok (.aload_n 0, 1) := by decide +kernel
theorem dX7_place_83 : decode cX7_place 83 = .ok (.getfield 181, 3) := by decide +kernel
theorem dX7_place_86 : decode cX7_place 86 = .ok (.ireturn, 1) := by decide +kernel
theorem dX7_places_0 : decode cX7_places 0 = .ok (.aload_n 0, 1) := by decide +kernel
theorem dX7_places_1 : decode cX7_places 1 = .ok (.iload_n 1, 1) := by decide +kernel
theorem dX7_places_2 : decode cX7_places 2 = .ok (.invokevirtual 94, 3) := by decide +kernel
theorem dX7_places_5 : decode cX7_places 5 = .ok (.ifCond .ne 5, 3) := by decide +kernel
theorem dX7_places_8 : decode cX7_places 8 = .ok (.iconst (-1), 1) := by decide +kernel
theorem dX7_places_9 : decode cX7_places 9 = .ok (.ireturn, 1) := by decide +kernel
theorem dX7_places_10 : decode cX7_places 10 = .ok (.aload_n 0, 1) := by decide +kernel
theorem dX7_places_11 : decode cX7_places 11 = .ok (.iload_n 1, 1) := by decide +kernel
theorem dX7_places_12 : decode cX7_places 12 = .ok (.invokevirtual 71, 3) := by decide +kernel
theorem dX7_places_15 : decode cX7_places 15 = .ok (.ifCond .eq 6, 3) := by decide +kernel
theorem dX7_places_18 : decode cX7_places 18 = .ok (.bipush (-2), 2) := by decide +kernel
theorem dX7_places_20 : decode cX7_places 20 = .ok (.ireturn, 1) := by decide +kernel
theorem dX7_places_21 : decode cX7_places 21 = .ok (.aload_n 0, 1) := by decide +kernel
theorem dX7_places_22 : decode cX7_places 22 = .ok (.iload_n 1, 1) := by decide +kernel
theorem dX7_places_23 : decode cX7_places 23 = .ok (.invokevirtual 193, 3) := by decide +kernel
theorem dX7_places_26 : decode cX7_places 26 = .ok (.aload_n 0, 1) := by decide +kernel
theorem dX7_places_27 : decode cX7_places 27 = .ok (.getfield 178, 3) := by decide +kernel
theorem dX7_places_30 : decode cX7_places 30 = .ok (.ireturn, 1) := by decide +kernel
theorem dX7_isAhead_0 : decode cX7_isAhead 0 = .ok (.aload_n 0, 1) := by decide +kernel
theorem dX7_isAhead_1 : decode cX7_isAhead 1 = .ok (.iload_n 1, 1) := by decide +kernel
theorem dX7_isAhead_2 : decode cX7_isAhead 2 = .ok (.iconst 3, 1) := by decide +kernel
theorem dX7_isAhead_3 : decode cX7_isAhead 3 = .ok (.invokevirtual 47, 3) := by decide +kernel
theorem dX7_isAhead_6 : decode cX7_isAhead 6 = .ok (.aload_n 0, 1) := by decide +kernel
theorem dX7_isAhead_7 : decode cX7_isAhead 7 = .ok (.iload_n 2, 1) := by decide +kernel
theorem dX7_isAhead_8 : decode cX7_isAhead 8 = .ok (.iconst 3, 1) := by decide +kernel
theorem dX7_isAhead_9 : decode cX7_isAhead 9 = .ok (.invokevirtual 47, 3) := by decide +kernel
theorem dX7_isAhead_12 : decode cX7_isAhead 12 = .ok (.if_icmp .eq 24, 3) := by decide +kernel
theorem dX7_isAhead_15 : decode cX7_isAhead 15 = .ok (.aload_n 0, 1) := by decide +kernel
theorem dX7_isAhead_16 : decode cX7_isAhead 16 = .ok (.iload_n 1, 1) := by decide +kernel
theorem dX7_isAhead_17 : decode cX7_isAhead 17 = .ok (.iconst 3, 1) := by decide +kernel
theorem dX7_isAhead_18 : decode cX7_isAhead 18 = .ok (.invokevirtual 47, 3) := by decide +kernel
theorem dX7_isAhead_21 : decode cX7_isAhead 21 = .ok (.aload_n 0, 1) := by decide +kernel
theorem dX7_isAhead_22 : decode cX7_isAhead 22 = .ok (.iload_n 2, 1) := by decide +kernel
theorem dX7_isAhead_23 : decode cX7_isAhead 23 = .ok (.iconst 3, 1) := by decide +kernel
theorem dX7_isAhead_24 : decode cX7_isAhead 24 = .ok (.invokevirtual 47, 3) := by decide +kernel
theorem dX7_isAhead_27 : decode cX7_isAhead 27 = .ok (.if_icmp .le 7, 3) := by decide +kernel
theorem dX7_isAhead_30 : decode cX7_isAhead 30 = .ok (.iconst 1, 1) := by decide +kernel
theorem dX7_isAhead_31 : decode cX7_isAhead 31 = .ok (.goto 4, 3) := by decide +kernel
theorem dX7_isAhead_34 : decode cX7_isAhead 34 = .ok (.iconst 0, 1) := by decide +kernel
theorem dX7_isAhead_35 : decode cX7_isAhead 35 = .ok (.ireturn, 1) := by decide +kernel
theorem dX7_isAhead_36 : decode cX7_isAhead 36 = .ok (.aload_n 0, 1) := by decide +kernel
theorem dX7_isAhead_37 : decode cX7_isAhead 37 = .ok (.iload_n 1, 1) := by decide +kernel
theorem dX7_isAhead_38 : decode cX7_isAhead 38 = .ok (.iconst 0, 1) := by decide +kernel
theorem dX7_isAhead_39 : decode cX7_isAhead 39 = .ok (.invokevirtual 47, 3) := by decide +kernel
theorem dX7_isAhead_42 : decode cX7_isAhead 42 = .ok (.aload_n 0, 1) := by decide +kernel
theorem dX7_isAhead_43 : decode cX7_isAhead 43 = .ok (.iload_n 1, 1) := by decide +kernel
theorem dX7_isAhead_44 : decode cX7_isAhead 44 = .ok (.iconst 1, 1) := by decide +kernel
theorem dX7_isAhead_45 : decode cX7_isAhead 45 = .ok (.invokevirtual 47, 3) := by decide +kernel
theorem dX7_isAhead_48 : decode cX7_isAhead 48 = .ok (.imul, 1) := by decide +kernel
theorem dX7_isAhead_49 : decode cX7_isAhead 49 = .ok (.istore_n 3, 1) := by decide +kernel
theorem dX7_isAhead_50 : decode cX7_isAhead 50 = .ok (.aload_n 0, 1) := by decide +kernel
theorem dX7_isAhead_51 : decode cX7_isAhead 51 = .ok (.iload_n 2, 1) := by decide +kernel
theorem dX7_isAhead_52 : decode cX7_isAhead 52 = .ok (.iconst 0, 1) := by decide +kernel
theorem dX7_isAhead_53 : decode cX7_isAhead 53 = .ok (.invokevirtual 47, 3) := by decide +kernel
theorem dX7_isAhead_56 : decode cX7_isAhead 56 = .ok (.aload_n 0, 1) := by decide +kernel
theorem dX7_isAhead_57 : decode cX7_isAhead 57 = .ok (.iload_n 2, 1) := by decide +kernel
theorem dX7_isAhead_58 : decode cX7_isAhead 58 = .ok (.iconst 1, 1) := by decide +kernel
theorem dX7_isAhead_59 : decode cX7_isAhead 59 = .ok (.invokevirtual 47, 3) := by decide +kernel
theorem dX7_isAhead_62 : decode cX7_isAhead 62 = .ok (.imul, 1) := by decide +kernel
theorem dX7_isAhead_63 : decode cX7_isAhead 63 = .ok (.istore 4, 2) := by decide +kernel
theorem dX7_isAhead_65 : decode cX7_isAhead 65 = .ok (.iload_n 3, 1) := by decide +kernel
theorem dX7_isAhead_66 : decode cX7_isAhead 66 = .ok (.iload 4, 2) := by decide +kernel
theorem dX7_isAhead_68 : decode cX7_isAhead 68 = .ok (.if_icmp .eq 17, 3) := by decide +kernel
theorem dX7_isAhead_71 : decode cX7_isAhead 71 = .ok (.iload_n 3, 1) := by decide +kernel
theorem dX7_isAhead_72 : decode cX7_isAhead 72 = .ok (.iload 4, 2) := by decide +kernel
theorem dX7_isAhead_74 : decode cX7_isAhead 74 = .ok (.if_icmp .le 7, 3) := by decide +kernel
theorem dX7_isAhead_77 : decode cX7_isAhead 77 = .ok (.iconst 1, 1) := by decide +kernel
theorem dX7_isAhead_78 : decode cX7_isAhead 78 = .ok (.goto 17, 3) := by decide +kernel
theorem dX7_isAhead_81 : decode cX7_isAhead 81 = .ok (.iconst 0, 1) := by decide +kernel
theorem dX7_isAhead_82 : decode cX7_isAhead 82 = .ok (.goto 13, 3) := by decide +kernel
theorem dX7_isAhead_85 : decode cX7_isAhead 85 = .ok (.iload_n 1, 1) := by decide +kernel
theorem dX7_isAhead_86 : decode cX7_isAhead 86 = .ok (.iload_n 2, 1) := by decide +kernel
theorem dX7_isAhead_87 : decode cX7_isAhead 87 = .ok (.if_icmp .ge 7, 3) := by decide +kernel
theorem dX7_isAhead_90 : decode cX7_isAhead 90 = .ok (.iconst 1, 1) := by decide +kernel
theorem dX7_isAhead_91 : decode cX7_isAhead 91 = .ok (.goto 4, 3) := by decide +kernel
theorem dX7_isAhead_94 : decode cX7_isAhead 94 = .ok (.iconst 0, 1) := by decide +kernel
theorem dX7_isAhead_95 : decode cX7_isAhead 95 = .ok (.ireturn, 1) := by decide +kernel
theorem dX7_ordersUsually_0 : decode cX7_ordersUsually 0 = .ok (.iconst 0, 1) := by decide +kernel
theorem dX7_ordersUsually_1 : decode cX7_ordersUsually 1 = .ok (.istore_n 1, 1) := by decide +kernel
theorem dX7_ordersUsually_2 : decode cX7_ordersUsually 2 = .ok (.iload_n 1, 1) := by decide +kernel
theorem dX7_ordersUsually_3 : decode cX7_ordersUsually 3 = .ok (.aload_n 0, 1) := by decide +kernel
theorem dX7_ordersUsually_4 : decode cX7_ordersUsually 4 = .ok (.invokevirtual 39, 3) := by decide +kernel
theorem dX7_ordersUsually_7 : decode cX7_ordersUsually 7 = .ok (.if_icmp .ge 58, 3) := by decide +kernel
theorem dX7_ordersUsually_10 : decode cX7_ordersUsually 10 = .ok (.iload_n 1, 1) := by decide +kernel
theorem dX7_ordersUsually_11 : decode cX7_ordersUsually 11 = .ok (.istore_n 2, 1) := by decide +kernel
theorem dX7_ordersUsually_12 : decode cX7_ordersUsually 12 = .ok (.iload_n 2, 1) := by decide +kernel
theorem dX7_ordersUsually_13 : decode cX7_ordersUsually 13 = .ok (.ifCond .le 39, 3) := by decide +kernel
theorem dX7_ordersUsually_16 : decode cX7_ordersUsually 16 = .ok (.aload_n 0, 1) := by decide +kernel
theorem dX7_ordersUsually_17 : decode cX7_ordersUsually 17 = .ok (.iload_n 1, 1) := by decide +kernel
theorem dX7_ordersUsually_18 : decode cX7_ordersUsually 18 = .ok (.aload_n 0, 1) := by decide +kernel
theorem dX7_ordersUsually_19 : decode cX7_ordersUsually 19 = .ok (.getfield 19, 3) := by decide +kernel
theorem dX7_ordersUsually_22 : decode cX7_ordersUsually 22 = .ok (.iload_n 2, 1) := by decide +kernel
theorem dX7_ordersUsually_23 : decode cX7_ordersUsually 23 = .ok (.iconst 1, 1) := by decide +kernel
theorem dX7_ordersUsually_24 : decode cX7_ordersUsually 24 = .ok (.isub, 1) := by decide +kernel
theorem dX7_ordersUsually_25 : decode cX7_ordersUsually 25 = .ok (.iaload, 1) := by decide +kernel
theorem dX7_ordersUsually_26 : decode cX7_ordersUsually 26 = .ok (.invokevirtual 196, 3) := by decide +kernel
theorem dX7_ordersUsually_29 : decode cX7_ordersUsually 29 = .ok (.ifCond .eq 23, 3) := by decide +kernel
theorem dX7_ordersUsually_32 : decode cX7_ordersUsually 32 = .ok (.aload_n 0, 1) := by decide +kernel
theorem dX7_ordersUsually_33 : decode cX7_ordersUsually 33 = .ok (.getfield 19, 3) := by decide +kernel
theorem dX7_ordersUsually_36 : decode cX7_ordersUsually 36 = .ok (.iload_n 2, 1) := by decide +kernel
theorem dX7_ordersUsually_37 : decode cX7_ordersUsually 37 = .ok (.aload_n 0, 1) := by decide +kernel
theorem dX7_ordersUsually_38 : decode cX7_ordersUsually 38 = .ok (.getfield 19, 3) := by decide +kernel
theorem dX7_ordersUsually_41 : decode cX7_ordersUsually 41 = .ok (.iload_n 2, 1) := by decide +kernel
theorem dX7_ordersUsually_42 : decode cX7_ordersUsually 42 = .ok (.iconst 1, 1) := by decide +kernel
theorem dX7_ordersUsually_43 : decode cX7_ordersUsually 43 = .ok (.isub, 1) := by decide +kernel
theorem dX7_ordersUsually_44 : decode cX7_ordersUsually 44 = .ok (.iaload, 1) := by decide +kernel
theorem dX7_ordersUsually_45 : decode cX7_ordersUsually 45 = .ok (.iastore, 1) := by decide +kernel
theorem dX7_ordersUsually_46 : decode cX7_ordersUsually 46 = .ok (.iinc 2 (-1), 3) := by decide +kernel
theorem dX7_ordersUsually_49 : decode cX7_ordersUsually 49 = .ok (.goto (-37), 3) := by decide +kernel
theorem dX7_ordersUsually_52 : decode cX7_ordersUsually 52 = .ok (.aload_n 0, 1) := by decide +kernel
theorem dX7_ordersUsually_53 : decode cX7_ordersUsually 53 = .ok (.getfield 19, 3) := by decide +kernel
theorem dX7_ordersUsually_56 : decode cX7_ordersUsually 56 = .ok (.iload_n 2, 1) := by decide +kernel
theorem dX7_ordersUsually_57 : decode cX7_ordersUsually 57 = .ok (.iload_n 1, 1) := by decide +kernel
theorem dX7_ordersUsually_58 : decode cX7_ordersUsually 58 = .ok (.iastore, 1) := by decide +kernel
theorem dX7_ordersUsually_59 : decode cX7_ordersUsually 59 = .ok (.iinc 1 1, 3) := by decide +kernel
theorem dX7_ordersUsually_62 : decode cX7_ordersUsually 62 = .ok (.goto (-60), 3) := by decide +kernel
theorem dX7_ordersUsually_65 : decode cX7_ordersUsually 65 = .ok (.return_, 1) := by decide +kernel
theorem dX7_packs_0 : decode cX7_packs 0 = .ok (.aload_n 0, 1) := by decide +kernel
theorem dX7_packs_1 : decode cX7_packs 1 = .ok (.invokevirtual 172, 3) := by decide +kernel
theorem dX7_packs_4 : decode cX7_packs 4 = .ok (.iconst 0, 1) := by decide +kernel
theorem dX7_packs_5 : decode cX7_packs 5 = .ok (.istore_n 1, 1) := by decide +kernel
theorem dX7_packs_6 : decode cX7_packs 6 = .ok (.iload_n 1, 1) := by decide +kernel
theorem dX7_packs_7 : decode cX7_packs 7 = .ok (.aload_n 0, 1) := by decide +kernel
theorem dX7_packs_8 : decode cX7_packs 8 = .ok (.invokevirtual 39, 3) := by decide +kernel
theorem dX7_packs_11 : decode cX7_packs 11 = .ok (.if_icmp .ge 50, 3) := by decide +kernel
theorem dX7_packs_14 : decode cX7_packs 14 = .ok (.aload_n 0, 1) := by decide +kernel
theorem dX7_packs_15 : decode cX7_packs 15 = .ok (.aload_n 0, 1) := by decide +kernel
theorem dX7_packs_16 : decode cX7_packs 16 = .ok (.getfield 19, 3) := by decide +kernel
theorem dX7_packs_19 : decode cX7_packs 19 = .ok (.iload_n 1, 1) := by decide +kernel
theorem dX7_packs_20 : decode cX7_packs 20 = .ok (.iaload, 1) := by decide +kernel
theorem dX7_packs_21 : decode cX7_packs 21 = .ok (.invokevirtual 193, 3) := by decide +kernel
theorem dX7_packs_24 : decode cX7_packs 24 = .ok (.aload_n 0, 1) := by decide +kernel
theorem dX7_packs_25 : decode cX7_packs 25 = .ok (.getfield 181, 3) := by decide +kernel
theorem dX7_packs_28 : decode cX7_packs 28 = .ok (.bipush (-9), 2) := by decide +kernel
theorem dX7_packs_30 : decode cX7_packs 30 = .ok (.if_icmp .eq 25, 3) := by decide +kernel
theorem dX7_packs_33 : decode cX7_packs 33 = .ok (.aload_n 0, 1) := by decide +kernel
theorem dX7_packs_34 : decode cX7_packs 34 = .ok (.aload_n 0, 1) := by decide +kernel
theorem dX7_packs_35 : decode cX7_packs 35 = .ok (.getfield 19, 3) := by decide +kernel
theorem dX7_packs_38 : decode cX7_packs 38 = .ok (.iload_n 1, 1) := by decide +kernel
theorem dX7_packs_39 : decode cX7_packs 39 = .ok (.iaload, 1) := by decide +kernel
theorem dX7_packs_40 : decode cX7_packs 40 = .ok (.aload_n 0, 1) := by decide +kernel
theorem dX7_packs_41 : decode cX7_packs 41 = .ok (.getfield 184, 3) := by decide +kernel
theorem dX7_packs_44 : decode cX7_packs 44 = .ok (.aload_n 0, 1) := by decide +kernel
theorem dX7_packs_45 : decode cX7_packs 45 = .ok (.getfield 187, 3) := by decide +kernel
theorem dX7_packs_48 : decode cX7_packs 48 = .ok (.aload_n 0, 1) := by decide +kernel
theorem dX7_packs_49 : decode cX7_packs 49 = .ok (.getfield 190, 3) := by decide +kernel
theorem dX7_packs_52 : decode cX7_packs 52 = .ok (.invokevirtual 107, 3) := by decide +kernel
theorem dX7_packs_55 : decode cX7_packs 55 = .ok (.iinc 1 1, 3) := by decide +kernel
theorem dX7_packs_58 : decode cX7_packs 58 = .ok (.goto (-52), 3) := by decide +kernel
theorem dX7_packs_61 : decode cX7_packs 61 = .ok (.return_, 1) := by decide +kernel
theorem dX7_swaps_0 : decode cX7_swaps 0 = .ok (.aload_n 0, 1) := by decide +kernel
theorem dX7_swaps_1 : decode cX7_swaps 1 = .ok (.getfield 19, 3) := by decide +kernel
theorem dX7_swaps_4 : decode cX7_swaps 4 = .ok (.iload_n 1, 1) := by decide +kernel
theorem dX7_swaps_5 : decode cX7_swaps 5 = .ok (.iaload, 1) := by decide +kernel
theorem dX7_swaps_6 : decode cX7_swaps 6 = .ok (.istore_n 3, 1) := by decide +kernel
theorem dX7_swaps_7 : decode cX7_swaps 7 = .ok (.aload_n 0, 1) := by decide +kernel
theorem dX7_swaps_8 : decode cX7_swaps 8 = .ok (.getfield 19, 3) := by decide +kernel
theorem dX7_swaps_11 : decode cX7_swaps 11 = .ok (.iload_n 1, 1) := by decide +kernel
theorem dX7_swaps_12 : decode cX7_swaps 12 = .ok (.aload_n 0, 1) := by decide +kernel
theorem dX7_swaps_13 : decode cX7_swaps 13 = .ok (.getfield 19, 3) := by decide +kernel
theorem dX7_swaps_16 : decode cX7_swaps 16 = .ok (.iload_n 2, 1) := by decide +kernel
theorem dX7_swaps_17 : decode cX7_swaps 17 = .ok (.iaload, 1) := by decide +kernel
theorem dX7_swaps_18 : decode cX7_swaps 18 = .ok (.iastore, 1) := by decide +kernel
theorem dX7_swaps_19 : decode cX7_swaps 19 = .ok (.aload_n 0, 1) := by decide +kernel
theorem dX7_swaps_20 : decode cX7_swaps 20 = .ok (.getfield 19, 3) := by decide +kernel
theorem dX7_swaps_23 : decode cX7_swaps 23 = .ok (.iload_n 2, 1) := by decide +kernel
theorem dX7_swaps_24 : decode cX7_swaps 24 = .ok (.iload_n 3, 1) := by decide +kernel
theorem dX7_swaps_25 : decode cX7_swaps 25 = .ok (.iastore, 1) := by decide +kernel
theorem dX7_swaps_26 : decode cX7_swaps 26 = .ok (.return_, 1) := by decide +kernel
theorem dX7_ordersNext_0 : decode cX7_ordersNext 0 = .ok (.aload_n 0, 1) := by decide +kernel
theorem dX7_ordersNext_1 : decode cX7_ordersNext 1 = .ok (.invokevirtual 39, 3) := by decide +kernel
theorem dX7_ordersNext_4 : decode cX7_ordersNext 4 = .ok (.iconst 2, 1) := by decide +kernel
theorem dX7_ordersNext_5 : decode cX7_ordersNext 5 = .ok (.isub, 1) := by decide +kernel
theorem dX7_ordersNext_6 : decode cX7_ordersNext 6 = .ok (.istore_n 1, 1) := by decide +kernel
theorem dX7_ordersNext_7 : decode cX7_ordersNext 7 = .ok (.iload_n 1, 1) := by decide +kernel
theorem dX7_ordersNext_8 : decode cX7_ordersNext 8 = .ok (.ifCond .lt 26, 3) := by decide +kernel
theorem dX7_ordersNext_11 : decode cX7_ordersNext 11 = .ok (.aload_n 0, 1) := by decide +kernel
theorem dX7_ordersNext_12 : decode cX7_ordersNext 12 = .ok (.getfield 19, 3) := by decide +kernel
theorem dX7_ordersNext_15 : decode cX7_ordersNext 15 = .ok (.iload_n 1, 1) := by decide +kernel
theorem dX7_ordersNext_16 : decode cX7_ordersNext 16 = .ok (.iaload, 1) := by decide +kernel
theorem dX7_ordersNext_17 : decode cX7_ordersNext 17 = .ok (.aload_n 0, 1) := by decide +kernel
theorem dX7_ordersNext_18 : decode cX7_ordersNext 18 = .ok (.getfield 19, 3) := by decide +kernel
theorem dX7_ordersNext_21 : decode cX7_ordersNext 21 = .ok (.iload_n 1, 1) := by decide +kernel
theorem dX7_ordersNext_22 : decode cX7_ordersNext 22 = .ok (.iconst 1, 1) := by decide +kernel
theorem dX7_ordersNext_23 : decode cX7_ordersNext 23 = .ok (.iadd, 1) := by decide +kernel
theorem dX7_ordersNext_24 : decode cX7_ordersNext 24 = .ok (.iaload, 1) := by decide +kernel
theorem dX7_ordersNext_25 : decode cX7_ordersNext 25 = .ok (.if_icmp .le 9, 3) := by decide +kernel
theorem dX7_ordersNext_28 : decode cX7_ordersNext 28 = .ok (.iinc 1 (-1), 3) := by decide +kernel
theorem dX7_ordersNext_31 : decode cX7_ordersNext 31 = .ok (.goto (-24), 3) := by decide +kernel
theorem dX7_ordersNext_34 : decode cX7_ordersNext 34 = .ok (.iload_n 1, 1) := by decide +kernel
theorem dX7_ordersNext_35 : decode cX7_ordersNext 35 = .ok (.ifCond .ge 5, 3) := by decide +kernel
theorem dX7_ordersNext_38 : decode cX7_ordersNext 38 = .ok (.iconst 0, 1) := by decide +kernel
theorem dX7_ordersNext_39 : decode cX7_ordersNext 39 = .ok (.ireturn, 1) := by decide +kernel
theorem dX7_ordersNext_40 : decode cX7_ordersNext 40 = .ok (.aload_n 0, 1) := by decide +kernel
theorem dX7_ordersNext_41 : decode cX7_ordersNext 41 = .ok (.invokevirtual 39, 3) := by decide +kernel
theorem dX7_ordersNext_44 : decode cX7_ordersNext 44 = .ok (.iconst 1, 1) := by decide +kernel
theorem dX7_ordersNext_45 : decode cX7_ordersNext 45 = .ok (.isub, 1) := by decide +kernel
theorem dX7_ordersNext_46 : decode cX7_ordersNext 46 = .ok (.istore_n 2, 1) := by decide +kernel
theorem dX7_ordersNext_47 : decode cX7_ordersNext 47 = .ok (.aload_n 0, 1) := by decide +kernel
theorem dX7_ordersNext_48 : decode cX7_ordersNext 48 = .ok (.getfield 19, 3) := by decide +kernel
theorem dX7_ordersNext_51 : decode cX7_ordersNext 51 = .ok (.iload_n 2, 1) := by decide +kernel
theorem dX7_ordersNext_52 : decode cX7_ordersNext 52 = .ok (.iaload, 1) := by decide +kernel
theorem dX7_ordersNext_53 : decode cX7_ordersNext 53 = .ok (.aload_n 0, 1) := by decide +kernel
theorem dX7_ordersNext_54 : decode cX7_ordersNext 54 = .ok (.getfield 19, 3) := by decide +kernel
theorem dX7_ordersNext_57 : decode cX7_ordersNext 57 = .ok (.iload_n 1, 1) := by decide +kernel
theorem dX7_ordersNext_58 : decode cX7_ordersNext 58 = .ok (.iaload, 1) := by decide +kernel
theorem dX7_ordersNext_59 : decode cX7_ordersNext 59 = .ok (.if_icmp .ge 9, 3) := by decide +kernel
theorem dX7_ordersNext_62 : decode cX7_ordersNext 62 = .ok (.iinc 2 (-1), 3) := by decide +kernel
theorem dX7_ordersNext_65 : decode cX7_ordersNext 65 = .ok (.goto (-18), 3) := by decide +kernel
theorem dX7_ordersNext_68 : decode cX7_ordersNext 68 = .ok (.aload_n 0, 1) := by decide +kernel
theorem dX7_ordersNext_69 : decode cX7_ordersNext 69 = .ok (.iload_n 1, 1) := by decide +kernel
theorem dX7_ordersNext_70 : decode cX7_ordersNext 70 = .ok (.iload_n 2, 1) := by decide +kernel
theorem dX7_ordersNext_71 : decode cX7_ordersNext 71 = .ok (.invokevirtual 199, 3) := by decide +kernel
theorem dX7_ordersNext_74 : decode cX7_ordersNext 74 = .ok (.aload_n 0, 1) := by decide +kernel
theorem dX7_ordersNext_75 : decode cX7_ordersNext 75 = .ok (.invokevirtual 39, 3) := by decide +kernel
theorem dX7_ordersNext_78 : decode cX7_ordersNext 78 = .ok (.iconst 1, 1) := by decide +kernel
theorem dX7_ordersNext_79 : decode cX7_ordersNext 79 = .ok (.isub, 1) := by decide +kernel
theorem dX7_ordersNext_80 : decode cX7_ordersNext 80 = .ok (.istore_n 3, 1) := by decide +kernel
theorem dX7_ordersNext_81 : decode cX7_ordersNext 81 = .ok (.iload_n 1, 1) := by decide +kernel
theorem dX7_ordersNext_82 : decode cX7_ordersNext 82 = .ok (.iconst 1, 1) := by decide +kernel
theorem dX7_ordersNext_83 : decode cX7_ordersNext 83 = .ok (.iadd, 1) := by decide +kernel
theorem dX7_ordersNext_84 : decode cX7_ordersNext 84 = .ok (.istore 4, 2) := by decide +kernel
theorem dX7_ordersNext_86 : decode cX7_ordersNext 86 = .ok (.iload 4, 2) := by decide +kernel
theorem dX7_ordersNext_88 : decode cX7_ordersNext 88 = .ok (.iload_n 3, 1) := by decide +kernel
theorem dX7_ordersNext_89 : decode cX7_ordersNext 89 = .ok (.if_icmp .ge 19, 3) := by decide +kernel
theorem dX7_ordersNext_92 : decode cX7_ordersNext 92 = .ok (.aload_n 0, 1) := by decide +kernel
theorem dX7_ordersNext_93 : decode cX7_ordersNext 93 = .ok (.iload 4, 2) := by decide +kernel
theorem dX7_ordersNext_95 : decode cX7_ordersNext 95 = .ok (.iload_n 3, 1) := by decide +kernel
theorem dX7_ordersNext_96 : decode cX7_ordersNext 96 = .ok (.invokevirtual 199, 3) := by decide +kernel
theorem dX7_ordersNext_99 : decode cX7_ordersNext 99 = .ok (.iinc 3 (-1), 3) := by decide +kernel
theorem dX7_ordersNext_102 : decode cX7_ordersNext 102 = .ok (.iinc 4 1, 3) := by decide +kernel
theorem dX7_ordersNext_105 : decode cX7_ordersNext 105 = .ok (.goto (-19), 3) := by decide +kernel
theorem dX7_ordersNext_108 : decode cX7_ordersNext 108 = .ok (.iconst 1, 1) := by decide +kernel
theorem dX7_ordersNext_109 : decode cX7_ordersNext 109 = .ok (.ireturn, 1) := by decide +kernel
theorem dX7_comesTo_0 : decode cX7_comesTo 0 = .ok (.iload_n 1, 1) := by decide +kernel
theorem dX7_comesTo_1 : decode cX7_comesTo 1 = .ok (.tableswitch 47 0 2 #[27, 37, 42], 27) := by decide +kernel
theorem dX7_comesTo_28 : decode cX7_comesTo 28 = .ok (.aload_n 0, 1) := by decide +kernel
theorem dX7_comesTo_29 : decode cX7_comesTo 29 = .ok (.invokevirtual 39, 3) := by decide +kernel
theorem dX7_comesTo_32 : decode cX7_comesTo 32 = .ok (.aload_n 0, 1) := by decide +kernel
theorem dX7_comesTo_33 : decode cX7_comesTo 33 = .ok (.invokevirtual 169, 3) := by decide +kernel
theorem dX7_comesTo_36 : decode cX7_comesTo 36 = .ok (.isub, 1) := by decide +kernel
theorem dX7_comesTo_37 : decode cX7_comesTo 37 = .ok (.ireturn, 1) := by decide +kernel
theorem dX7_comesTo_38 : decode cX7_comesTo 38 = .ok (.aload_n 0, 1) := by decide +kernel
theorem dX7_comesTo_39 : decode cX7_comesTo 39 = .ok (.invokevirtual 202, 3) := by decide +kernel
theorem dX7_comesTo_42 : decode cX7_comesTo 42 = .ok (.ireturn, 1) := by decide +kernel
theorem dX7_comesTo_43 : decode cX7_comesTo 43 = .ok (.aload_n 0, 1) := by decide +kernel
theorem dX7_comesTo_44 : decode cX7_comesTo 44 = .ok (.invokevirtual 127, 3) := by decide +kernel
theorem dX7_comesTo_47 : decode cX7_comesTo 47 = .ok (.ireturn, 1) := by decide +kernel
theorem dX7_comesTo_48 : decode cX7_comesTo 48 = .ok (.aload_n 0, 1) := by decide +kernel
theorem dX7_comesTo_49 : decode cX7_comesTo 49 = .ok (.invokevirtual 205, 3) := by decide +kernel
theorem dX7_comesTo_52 : decode cX7_comesTo 52 = .ok (.ireturn, 1) := by decide +kernel
theorem dX7_isBetter_0 : decode cX7_isBetter 0 = .ok (.iconst 0, 1) := by decide +kernel
theorem dX7_isBetter_1 : decode cX7_isBetter 1 = .ok (.istore_n 1, 1) := by decide +kernel
theorem dX7_isBetter_2 : decode cX7_isBetter 2 = .ok (.iload_n 1, 1) := by decide +kernel
theorem dX7_isBetter_3 : decode cX7_isBetter 3 = .ok (.iconst 4, 1) := by decide +kernel
theorem dX7_isBetter_4 : decode cX7_isBetter 4 = .ok (.if_icmp .ge 43, 3) := by decide +kernel
theorem dX7_isBetter_7 : decode cX7_isBetter 7 = .ok (.aload_n 0, 1) := by decide +kernel
theorem dX7_isBetter_8 : decode cX7_isBetter 8 = .ok (.iload_n 1, 1) := by decide +kernel
theorem dX7_isBetter_9 : decode cX7_isBetter 9 = .ok (.invokevirtual 208, 3) := by decide +kernel
theorem dX7_isBetter_12 : decode cX7_isBetter 12 = .ok (.aload_n 0, 1) := by decide +kernel
theorem dX7_isBetter_13 : decode cX7_isBetter 13 = .ok (.getfield 25, 3) := by decide +kernel
theorem dX7_isBetter_16 : decode cX7_isBetter 16 = .ok (.iload_n 1, 1) := by decide +kernel
theorem dX7_isBetter_17 : decode cX7_isBetter 17 = .ok (.iaload, 1) := by decide +kernel
theorem dX7_isBetter_18 : decode cX7_isBetter 18 = .ok (.if_icmp .eq 23, 3) := by decide +kernel
theorem dX7_isBetter_21 : decode cX7_isBetter 21 = .ok (.aload_n 0, 1) := by decide +kernel
theorem dX7_isBetter_22 : decode cX7_isBetter 22 = .ok (.iload_n 1, 1) := by decide +kernel
theorem dX7_isBetter_23 : decode cX7_isBetter 23 = .ok (.invokevirtual 208, 3) := by decide +kernel
theorem dX7_isBetter_26 : decode cX7_isBetter 26 = .ok (.aload_n 0, 1) := by decide +kernel
theorem dX7_isBetter_27 : decode cX7_isBetter 27 = .ok (.getfield 25, 3) := by decide +kernel
theorem dX7_isBetter_30 : decode cX7_isBetter 30 = .ok (.iload_n 1, 1) := by decide +kernel
theorem dX7_isBetter_31 : decode cX7_isBetter 31 = .ok (.iaload, 1) := by decide +kernel
theorem dX7_isBetter_32 : decode cX7_isBetter 32 = .ok (.if_icmp .ge 7, 3) := by decide +kernel
theorem dX7_isBetter_35 : decode cX7_isBetter 35 = .ok (.iconst 1, 1) := by decide +kernel
theorem dX7_isBetter_36 : decode cX7_isBetter 36 = .ok (.goto 4, 3) := by decide +kernel
theorem dX7_isBetter_39 : decode cX7_isBetter 39 = .ok (.iconst 0, 1) := by decide +kernel
theorem dX7_isBetter_40 : decode cX7_isBetter 40 = .ok (.ireturn, 1) := by decide +kernel
theorem dX7_isBetter_41 : decode cX7_isBetter 41 = .ok (.iinc 1 1, 3) := by decide +kernel
theorem dX7_isBetter_44 : decode cX7_isBetter 44 = .ok (.goto (-42), 3) := by decide +kernel
theorem dX7_isBetter_47 : decode cX7_isBetter 47 = .ok (.iconst 0, 1) := by decide +kernel
theorem dX7_isBetter_48 : decode cX7_isBetter 48 = .ok (.ireturn, 1) := by decide +kernel
theorem dX7_ordersBest_0 : decode cX7_ordersBest 0 = .ok (.iconst 0, 1) := by decide +kernel
theorem dX7_ordersBest_1 : decode cX7_ordersBest 1 = .ok (.istore_n 1, 1) := by decide +kernel
theorem dX7_ordersBest_2 : decode cX7_ordersBest 2 = .ok (.iload_n 1, 1) := by decide +kernel
theorem dX7_ordersBest_3 : decode cX7_ordersBest 3 = .ok (.aload_n 0, 1) := by decide +kernel
theorem dX7_ordersBest_4 : decode cX7_ordersBest 4 = .ok (.invokevirtual 39, 3) := by decide +kernel
theorem dX7_ordersBest_7 : decode cX7_ordersBest 7 = .ok (.if_icmp .ge 16, 3) := by decide +kernel
theorem dX7_ordersBest_10 : decode cX7_ordersBest 10 = .ok (.aload_n 0, 1) := by decide +kernel
theorem dX7_ordersBest_11 : decode cX7_ordersBest 11 = .ok (.getfield 19, 3) := by decide +kernel
theorem dX7_ordersBest_14 : decode cX7_ordersBest 14 = .ok (.iload_n 1, 1) := by decide +kernel
theorem dX7_ordersBest_15 : decode cX7_ordersBest 15 = .ok (.iload_n 1, 1) := by decide +kernel
theorem dX7_ordersBest_16 : decode cX7_ordersBest 16 = .ok (.iastore, 1) := by decide +kernel
theorem dX7_ordersBest_17 : decode cX7_ordersBest 17 = .ok (.iinc 1 1, 3) := by decide +kernel
theorem dX7_ordersBest_20 : decode cX7_ordersBest 20 = .ok (.goto (-18), 3) := by decide +kernel
theorem dX7_ordersBest_23 : decode cX7_ordersBest 23 = .ok (.iconst 1, 1) := by decide +kernel
theorem dX7_ordersBest_24 : decode cX7_ordersBest 24 = .ok (.istore_n 1, 1) := by decide +kernel
theorem dX7_ordersBest_25 : decode cX7_ordersBest 25 = .ok (.iconst 1, 1) := by decide +kernel
theorem dX7_ordersBest_26 : decode cX7_ordersBest 26 = .ok (.istore_n 2, 1) := by decide +kernel
theorem dX7_ordersBest_27 : decode cX7_ordersBest 27 = .ok (.iload_n 2, 1) := by decide +kernel
theorem dX7_ordersBest_28 : decode cX7_ordersBest 28 = .ok (.ifCond .eq 80, 3) := by decide +kernel
theorem dX7_ordersBest_31 : decode cX7_ordersBest 31 = .ok (.aload_n 0, 1) := by decide +kernel
theorem dX7_ordersBest_32 : decode cX7_ordersBest 32 = .ok (.invokevirtual 211, 3) := by decide +kernel
theorem dX7_ordersBest_35 : decode cX7_ordersBest 35 = .ok (.iload_n 1, 1) := by decide +kernel
theorem dX7_ordersBest_36 : decode cX7_ordersBest 36 = .ok (.ifCond .ne 10, 3) := by decide +kernel
theorem dX7_ordersBest_39 : decode cX7_ordersBest 39 = .ok (.aload_n 0, 1) := by decide +kernel
theorem dX7_ordersBest_40 : decode cX7_ordersBest 40 = .ok (.invokevirtual 214, 3) := by decide +kernel
theorem dX7_ordersBest_43 : decode cX7_ordersBest 43 = .ok (.ifCond .eq 55, 3) := by decide +kernel
theorem dX7_ordersBest_46 : decode cX7_ordersBest 46 = .ok (.iconst 0, 1) := by decide +kernel
theorem dX7_ordersBest_47 : decode cX7_ordersBest 47 = .ok (.istore_n 3, 1) := by decide +kernel
theorem dX7_ordersBest_48 : decode cX7_ordersBest 48 = .ok (.iload_n 3, 1) := by decide +kernel
theorem dX7_ordersBest_49 : decode cX7_ordersBest 49 = .ok (.iconst 4, 1) := by decide +kernel
theorem dX7_ordersBest_50 : decode cX7_ordersBest 50 = .ok (.if_icmp .ge 20, 3) := by decide +kernel
theorem dX7_ordersBest_53 : decode cX7_ordersBest 53 = .ok (.aload_n 0, 1) := by decide +kernel
theorem dX7_ordersBest_54 : decode cX7_ordersBest 54 = .ok (.getfield 25, 3) := by decide +kernel
theorem dX7_ordersBest_57 : decode cX7_ordersBest 57 = .ok (.iload_n 3, 1) := by decide +kernel
theorem dX7_ordersBest_58 : decode cX7_ordersBest 58 = .ok (.aload_n 0, 1) := by decide +kernel
theorem dX7_ordersBest_59 : decode cX7_ordersBest 59 = .ok (.iload_n 3, 1) := by decide +kernel
theorem dX7_ordersBest_60 : decode cX7_ordersBest 60 = .ok (.invokevirtual 208, 3) := by decide +kernel
theorem dX7_ordersBest_63 : decode cX7_ordersBest 63 = .ok (.iastore, 1) := by decide +kernel
theorem dX7_ordersBest_64 : decode cX7_ordersBest 64 = .ok (.iinc 3 1, 3) := by decide +kernel
theorem dX7_ordersBest_67 : decode cX7_ordersBest 67 = .ok (.goto (-19), 3) := by decide +kernel
theorem dX7_ordersBest_70 : decode cX7_ordersBest 70 = .ok (.iconst 0, 1) := by decide +kernel
theorem dX7_ordersBest_71 : decode cX7_ordersBest 71 = .ok (.istore_n 3, 1) := by decide +kernel
theorem dX7_ordersBest_72 : decode cX7_ordersBest 72 = .ok (.iload_n 3, 1) := by decide +kernel
theorem dX7_ordersBest_73 : decode cX7_ordersBest 73 = .ok (.aload_n 0, 1) := by decide +kernel
theorem dX7_ordersBest_74 : decode cX7_ordersBest 74 = .ok (.invokevirtual 39, 3) := by decide +kernel
theorem dX7_ordersBest_77 : decode cX7_ordersBest 77 = .ok (.if_icmp .ge 21, 3) := by decide +kernel
theorem dX7_ordersBest_80 : decode cX7_ordersBest 80 = .ok (.aload_n 0, 1) := by decide +kernel
theorem dX7_ordersBest_81 : decode cX7_ordersBest 81 = .ok (.getfield 22, 3) := by decide +kernel
theorem dX7_ordersBest_84 : decode cX7_ordersBest 84 = .ok (.iload_n 3, 1) := by decide +kernel
theorem dX7_ordersBest_85 : decode cX7_ordersBest 85 = .ok (.aload_n 0, 1) := by decide +kernel
theorem dX7_ordersBest_86 : decode cX7_ordersBest 86 = .ok (.getfield 19, 3) := by decide +kernel
theorem dX7_ordersBest_89 : decode cX7_ordersBest 89 = .ok (.iload_n 3, 1) := by decide +kernel
theorem dX7_ordersBest_90 : decode cX7_ordersBest 90 = .ok (.iaload, 1) := by decide +kernel
theorem dX7_ordersBest_91 : decode cX7_ordersBest 91 = .ok (.iastore, 1) := by decide +kernel
theorem dX7_ordersBest_92 : decode cX7_ordersBest 92 = .ok (.iinc 3 1, 3) := by decide +kernel
theorem dX7_ordersBest_95 : decode cX7_ordersBest 95 = .ok (.goto (-23), 3) := by decide +kernel
theorem dX7_ordersBest_98 : decode cX7_ordersBest 98 = .ok (.iconst 0, 1) := by decide +kernel
theorem dX7_ordersBest_99 : decode cX7_ordersBest 99 = .ok (.istore_n 1, 1) := by decide +kernel
theorem dX7_ordersBest_100 : decode cX7_ordersBest 100 = .ok (.aload_n 0, 1) := by decide +kernel
theorem dX7_ordersBest_101 : decode cX7_ordersBest 101 = .ok (.invokevirtual 217, 3) := by decide +kernel
theorem dX7_ordersBest_104 : decode cX7_ordersBest 104 = .ok (.istore_n 2, 1) := by decide +kernel
theorem dX7_ordersBest_105 : decode cX7_ordersBest 105 = .ok (.goto (-78), 3) := by decide +kernel
theorem dX7_ordersBest_108 : decode cX7_ordersBest 108 = .ok (.iconst 0, 1) := by decide +kernel
theorem dX7_ordersBest_109 : decode cX7_ordersBest 109 = .ok (.istore_n 3, 1) := by decide +kernel
theorem dX7_ordersBest_110 : decode cX7_ordersBest 110 = .ok (.iload_n 3, 1) := by decide +kernel
theorem dX7_ordersBest_111 : decode cX7_ordersBest 111 = .ok (.aload_n 0, 1) := by decide +kernel
theorem dX7_ordersBest_112 : decode cX7_ordersBest 112 = .ok (.invokevirtual 39, 3) := by decide +kernel
theorem dX7_ordersBest_115 : decode cX7_ordersBest 115 = .ok (.if_icmp .ge 21, 3) := by decide +kernel
theorem dX7_ordersBest_118 : decode cX7_ordersBest 118 = .ok (.aload_n 0, 1) := by decide +kernel
theorem dX7_ordersBest_119 : decode cX7_ordersBest 119 = .ok (.getfield 19, 3) := by decide +kernel
theorem dX7_ordersBest_122 : decode cX7_ordersBest 122 = .ok (.iload_n 3, 1) := by decide +kernel
theorem dX7_ordersBest_123 : decode cX7_ordersBest 123 = .ok (.aload_n 0, 1) := by decide +kernel
theorem dX7_ordersBest_124 : decode cX7_ordersBest 124 = .ok (.getfield 22, 3) := by decide +kernel
theorem dX7_ordersBest_127 : decode cX7_ordersBest 127 = .ok (.iload_n 3, 1) := by decide +kernel
theorem dX7_ordersBest_128 : decode cX7_ordersBest 128 = .ok (.iaload, 1) := by decide +kernel
theorem dX7_ordersBest_129 : decode cX7_ordersBest 129 = .ok (.iastore, 1) := by decide +kernel
theorem dX7_ordersBest_130 : decode cX7_ordersBest 130 = .ok (.iinc 3 1, 3) := by decide +kernel
theorem dX7_ordersBest_133 : decode cX7_ordersBest 133 = .ok (.goto (-23), 3) := by decide +kernel
theorem dX7_ordersBest_136 : decode cX7_ordersBest 136 = .ok (.return_, 1) := by decide +kernel
theorem dX7_pack_0 : decode cX7_pack 0 = .ok (.aload_n 0, 1) := by decide +kernel
theorem dX7_pack_1 : decode cX7_pack 1 = .ok (.invokevirtual 104, 3) := by decide +kernel
theorem dX7_pack_4 : decode cX7_pack 4 = .ok (.aload_n 0, 1) := by decide +kernel
theorem dX7_pack_5 : decode cX7_pack 5 = .ok (.invokevirtual 220, 3) := by decide +kernel
theorem dX7_pack_8 : decode cX7_pack 8 = .ok (.aload_n 0, 1) := by decide +kernel
theorem dX7_pack_9 : decode cX7_pack 9 = .ok (.invokevirtual 211, 3) := by decide +kernel
theorem dX7_pack_12 : decode cX7_pack 12 = .ok (.aload_n 0, 1) := by decide +kernel
theorem dX7_pack_13 : decode cX7_pack 13 = .ok (.iconst 0, 1) := by decide +kernel
theorem dX7_pack_14 : decode cX7_pack 14 = .ok (.invokevirtual 208, 3) := by decide +kernel
theorem dX7_pack_17 : decode cX7_pack 17 = .ok (.ireturn, 1) := by decide +kernel
theorem dX7_packBest_0 : decode cX7_packBest 0 = .ok (.aload_n 0, 1) := by decide +kernel
theorem dX7_packBest_1 : decode cX7_packBest 1 = .ok (.invokevirtual 39, 3) := by decide +kernel
theorem dX7_packBest_4 : decode cX7_packBest 4 = .ok (.iconst 5, 1) := by decide +kernel
theorem dX7_packBest_5 : decode cX7_packBest 5 = .ok (.if_icmp .le 6, 3) := by decide +kernel
theorem dX7_packBest_8 : decode cX7_packBest 8 = .ok (.bipush (-2), 2) := by decide +kernel
theorem dX7_packBest_10 : decode cX7_packBest 10 = .ok (.ireturn, 1) := by decide +kernel
theorem dX7_packBest_11 : decode cX7_packBest 11 = .ok (.aload_n 0, 1) := by decide +kernel
theorem dX7_packBest_12 : decode cX7_packBest 12 = .ok (.invokevirtual 104, 3) := by decide +kernel
theorem dX7_packBest_15 : decode cX7_packBest 15 = .ok (.aload_n 0, 1) := by decide +kernel
theorem dX7_packBest_16 : decode cX7_packBest 16 = .ok (.invokevirtual 223, 3) := by decide +kernel
theorem dX7_packBest_19 : decode cX7_packBest 19 = .ok (.aload_n 0, 1) := by decide +kernel
theorem dX7_packBest_20 : decode cX7_packBest 20 = .ok (.invokevirtual 211, 3) := by decide +kernel
theorem dX7_packBest_23 : decode cX7_packBest 23 = .ok (.aload_n 0, 1) := by decide +kernel
theorem dX7_packBest_24 : decode cX7_packBest 24 = .ok (.iconst 0, 1) := by decide +kernel
theorem dX7_packBest_25 : decode cX7_packBest 25 = .ok (.invokevirtual 208, 3) := by decide +kernel
theorem dX7_packBest_28 : decode cX7_packBest 28 = .ok (.ireturn, 1) := by decide +kernel
theorem dX7_ifPacked_0 : decode cX7_ifPacked 0 = .ok (.iload_n 2, 1) := by decide +kernel
theorem dX7_ifPacked_1 : decode cX7_ifPacked 1 = .ok (.ifCond .lt 13, 3) := by decide +kernel
theorem dX7_ifPacked_4 : decode cX7_ifPacked 4 = .ok (.iload_n 2, 1) := by decide +kernel
theorem dX7_ifPacked_5 : decode cX7_ifPacked 5 = .ok (.iconst 4, 1) := by decide +kernel
theorem dX7_ifPacked_6 : decode cX7_ifPacked 6 = .ok (.bipush 9, 2) := by decide +kernel
theorem dX7_ifPacked_8 : decode cX7_ifPacked 8 = .ok (.invokestatic 43, 3) := by decide +kernel
theorem dX7_ifPacked_11 : decode cX7_ifPacked 11 = .ok (.ifCond .eq 5, 3) := by decide +kernel
theorem dX7_ifPacked_14 : decode cX7_ifPacked 14 = .ok (.iconst (-1), 1) := by decide +kernel
theorem dX7_ifPacked_15 : decode cX7_ifPacked 15 = .ok (.ireturn, 1) := by decide +kernel
theorem dX7_ifPacked_16 : decode cX7_ifPacked 16 = .ok (.iload_n 1, 1) := by decide +kernel
theorem dX7_ifPacked_17 : decode cX7_ifPacked 17 = .ok (.ifCond .eq 14, 3) := by decide +kernel
theorem dX7_ifPacked_20 : decode cX7_ifPacked 20 = .ok (.aload_n 0, 1) := by decide +kernel
theorem dX7_ifPacked_21 : decode cX7_ifPacked 21 = .ok (.invokevirtual 39, 3) := by decide +kernel
theorem dX7_ifPacked_24 : decode cX7_ifPacked 24 = .ok (.iconst 5, 1) := by decide +kernel
theorem dX7_ifPacked_25 : decode cX7_ifPacked 25 = .ok (.if_icmp .le 6, 3) := by decide +kernel
theorem dX7_ifPacked_28 : decode cX7_ifPacked 28 = .ok (.bipush (-2), 2) := by decide +kernel
theorem dX7_ifPacked_30 : decode cX7_ifPacked 30 = .ok (.ireturn, 1) := by decide +kernel
theorem dX7_ifPacked_31 : decode cX7_ifPacked 31 = .ok (.iload_n 2, 1) := by decide +kernel
theorem dX7_ifPacked_32 : decode cX7_ifPacked 32 = .ok (.bipush 10, 2) := by decide +kernel
theorem dX7_ifPacked_34 : decode cX7_ifPacked 34 = .ok (.if_icmp .lt 17, 3) := by decide +kernel
theorem dX7_ifPacked_37 : decode cX7_ifPacked 37 = .ok (.iload_n 2, 1) := by decide +kernel
theorem dX7_ifPacked_38 : decode cX7_ifPacked 38 = .ok (.bipush 10, 2) := by decide +kernel
theorem dX7_ifPacked_40 : decode cX7_ifPacked 40 = .ok (.isub, 1) := by decide +kernel
theorem dX7_ifPacked_41 : decode cX7_ifPacked 41 = .ok (.aload_n 0, 1) := by decide +kernel
theorem dX7_ifPacked_42 : decode cX7_ifPacked 42 = .ok (.invokevirtual 39, 3) := by decide +kernel
theorem dX7_ifPacked_45 : decode cX7_ifPacked 45 = .ok (.if_icmp .lt 6, 3) := by decide +kernel
theorem dX7_ifPacked_48 : decode cX7_ifPacked 48 = .ok (.bipush (-9), 2) := by decide +kernel
theorem dX7_ifPacked_50 : decode cX7_ifPacked 50 = .ok (.ireturn, 1) := by decide +kernel
theorem dX7_ifPacked_51 : decode cX7_ifPacked 51 = .ok (.aload_n 0, 1) := by decide +kernel
theorem dX7_ifPacked_52 : decode cX7_ifPacked 52 = .ok (.iconst 0, 1) := by decide +kernel
theorem dX7_ifPacked_53 : decode cX7_ifPacked 53 = .ok (.bipush 10, 2) := by decide +kernel
theorem dX7_ifPacked_55 : decode cX7_ifPacked 55 = .ok (.invokevirtual 35, 3) := by decide +kernel
theorem dX7_ifPacked_58 : decode cX7_ifPacked 58 = .ok (.iload_n 1, 1) := by decide +kernel
theorem dX7_ifPacked_59 : decode cX7_ifPacked 59 = .ok (.ifCond .eq 10, 3) := by decide +kernel
theorem dX7_ifPacked_62 : decode cX7_ifPacked 62 = .ok (.aload_n 0, 1) := by decide +kernel
theorem dX7_ifPacked_63 : decode cX7_ifPacked 63 = .ok (.invokevirtual 223, 3) := by decide +kernel
theorem dX7_ifPacked_66 : decode cX7_ifPacked 66 = .ok (.goto 7, 3) := by decide +kernel
theorem dX7_ifPacked_69 : decode cX7_ifPacked 69 = .ok (.aload_n 0, 1) := by decide +kernel
theorem dX7_ifPacked_70 : decode cX7_ifPacked 70 = .ok (.invokevirtual 220, 3) := by decide +kernel
theorem dX7_ifPacked_73 : decode cX7_ifPacked 73 = .ok (.aload_n 0, 1) := by decide +kernel
theorem dX7_ifPacked_74 : decode cX7_ifPacked 74 = .ok (.invokevirtual 211, 3) := by decide +kernel
theorem dX7_ifPacked_77 : decode cX7_ifPacked 77 = .ok (.iload_n 2, 1) := by decide +kernel
theorem dX7_ifPacked_78 : decode cX7_ifPacked 78 = .ok (.bipush 10, 2) := by decide +kernel
theorem dX7_ifPacked_80 : decode cX7_ifPacked 80 = .ok (.if_icmp .lt 15, 3) := by decide +kernel
theorem dX7_ifPacked_83 : decode cX7_ifPacked 83 = .ok (.aload_n 0, 1) := by decide +kernel
theorem dX7_ifPacked_84 : decode cX7_ifPacked 84 = .ok (.getfield 19, 3) := by decide +kernel
theorem dX7_ifPacked_87 : decode cX7_ifPacked 87 = .ok (.iload_n 2, 1) := by decide +kernel
theorem dX7_ifPacked_88 : decode cX7_ifPacked 88 = .ok (.bipush 10, 2) := by decide +kernel
theorem dX7_ifPacked_90 : decode cX7_ifPacked 90 = .ok (.isub, 1) := by decide +kernel
theorem dX7_ifPacked_91 : decode cX7_ifPacked 91 = .ok (.iaload, 1) := by decide +kernel
theorem dX7_ifPacked_92 : decode cX7_ifPacked 92 = .ok (.goto 8, 3) := by decide +kernel
theorem dX7_ifPacked_95 : decode cX7_ifPacked 95 = .ok (.aload_n 0, 1) := by decide +kernel
theorem dX7_ifPacked_96 : decode cX7_ifPacked 96 = .ok (.iload_n 2, 1) := by decide +kernel
theorem dX7_ifPacked_97 : decode cX7_ifPacked 97 = .ok (.invokevirtual 208, 3) := by decide +kernel
theorem dX7_ifPacked_100 : decode cX7_ifPacked 100 = .ok (.istore_n 3, 1) := by decide +kernel
theorem dX7_ifPacked_101 : decode cX7_ifPacked 101 = .ok (.aload_n 0, 1) := by decide +kernel
theorem dX7_ifPacked_102 : decode cX7_ifPacked 102 = .ok (.bipush 10, 2) := by decide +kernel
theorem dX7_ifPacked_104 : decode cX7_ifPacked 104 = .ok (.iconst 0, 1) := by decide +kernel
theorem dX7_ifPacked_105 : decode cX7_ifPacked 105 = .ok (.invokevirtual 35, 3) := by decide +kernel
theorem dX7_ifPacked_108 : decode cX7_ifPacked 108 = .ok (.iload_n 3, 1) := by decide +kernel
theorem dX7_ifPacked_109 : decode cX7_ifPacked 109 = .ok (.ireturn, 1) := by decide +kernel
theorem dX7_gets_0 : decode cX7_gets 0 = .ok (.aload_n 0, 1) := by decide +kernel
theorem dX7_gets_1 : decode cX7_gets 1 = .ok (.iload_n 1, 1) := by decide +kernel
theorem dX7_gets_2 : decode cX7_gets 2 = .ok (.invokevirtual 118, 3) := by decide +kernel
theorem dX7_gets_5 : decode cX7_gets 5 = .ok (.istore_n 2, 1) := by decide +kernel
theorem dX7_gets_6 : decode cX7_gets 6 = .ok (.iconst 0, 1) := by decide +kernel
theorem dX7_gets_7 : decode cX7_gets 7 = .ok (.istore_n 3, 1) := by decide +kernel
theorem dX7_gets_8 : decode cX7_gets 8 = .ok (.iconst 0, 1) := by decide +kernel
theorem dX7_gets_9 : decode cX7_gets 9 = .ok (.istore 4, 2) := by decide +kernel
theorem dX7_gets_11 : decode cX7_gets 11 = .ok (.iload 4, 2) := by decide +kernel
theorem dX7_gets_13 : decode cX7_gets 13 = .ok (.aload_n 0, 1) := by decide +kernel
theorem dX7_gets_14 : decode cX7_gets 14 = .ok (.invokevirtual 39, 3) := by decide +kernel
theorem dX7_gets_17 : decode cX7_gets 17 = .ok (.if_icmp .ge 87, 3) := by decide +kernel
theorem dX7_gets_20 : decode cX7_gets 20 = .ok (.iload_n 2, 1) := by decide +kernel
theorem dX7_gets_21 : decode cX7_gets 21 = .ok (.iload 4, 2) := by decide +kernel
theorem dX7_gets_23 : decode cX7_gets 23 = .ok (.ishr, 1) := by decide +kernel
theorem dX7_gets_24 : decode cX7_gets 24 = .ok (.iconst 1, 1) := by decide +kernel
theorem dX7_gets_25 : decode cX7_gets 25 = .ok (.iand, 1) := by decide +kernel
theorem dX7_gets_26 : decode cX7_gets 26 = .ok (.iconst 1, 1) := by decide +kernel
theorem dX7_gets_27 : decode cX7_gets 27 = .ok (.if_icmp .ne 71, 3) := by decide +kernel
theorem dX7_gets_30 : decode cX7_gets 30 = .ok (.iload_n 3, 1) := by decide +kernel
theorem dX7_gets_31 : decode cX7_gets 31 = .ok (.istore 5, 2) := by decide +kernel
theorem dX7_gets_33 : decode cX7_gets 33 = .ok (.iload 5, 2) := by decide +kernel
theorem dX7_gets_35 : decode cX7_gets 35 = .ok (.ifCond .le 51, 3) := by decide +kernel
theorem dX7_gets_38 : decode cX7_gets 38 = .ok (.aload_n 0, 1) := by decide +kernel
theorem dX7_gets_39 : decode cX7_gets 39 = .ok (.aload_n 0, 1) := by decide +kernel
theorem dX7_gets_40 : decode cX7_gets 40 = .ok (.getfield 28, 3) := by decide +kernel
theorem dX7_gets_43 : decode cX7_gets 43 = .ok (.iload 5, 2) := by decide +kernel
theorem dX7_gets_45 : decode cX7_gets 45 = .ok (.iconst 1, 1) := by decide +kernel
theorem dX7_gets_46 : decode cX7_gets 46 = .ok (.isub, 1) := by decide +kernel
theorem dX7_gets_47 : decode cX7_gets 47 = .ok (.iaload, 1) := by decide +kernel
theorem dX7_gets_48 : decode cX7_gets 48 = .ok (.bipush 9, 2) := by decide +kernel
theorem dX7_gets_50 : decode cX7_gets 50 = .ok (.invokevirtual 47, 3) := by decide +kernel
theorem dX7_gets_53 : decode cX7_gets 53 = .ok (.aload_n 0, 1) := by decide +kernel
theorem dX7_gets_54 : decode cX7_gets 54 = .ok (.iload 4, 2) := by decide +kernel
theorem dX7_gets_56 : decode cX7_gets 56 = .ok (.bipush 9, 2) := by decide +kernel
theorem dX7_gets_58 : decode cX7_gets 58 = .ok (.invokevirtual 47, 3) := by decide +kernel
theorem dX7_gets_61 : decode cX7_gets 61 = .ok (.if_icmp .le 25, 3) := by decide +kernel
theorem dX7_gets_64 : decode cX7_gets 64 = .ok (.aload_n 0, 1) := by decide +kernel
theorem dX7_gets_65 : decode cX7_gets 65 = .ok (.getfield 28, 3) := by decide +kernel
theorem dX7_gets_68 : decode cX7_gets 68 = .ok (.iload 5, 2) := by decide +kernel
theorem dX7_gets_70 : decode cX7_gets 70 = .ok (.aload_n 0, 1) := by decide +kernel
theorem dX7_gets_71 : decode cX7_gets 71 = .ok (.getfield 28, 3) := by decide +kernel
theorem dX7_gets_74 : decode cX7_gets 74 = .ok (.iload 5, 2) := by decide +kernel
theorem dX7_gets_76 : decode cX7_gets 76 = .ok (.iconst 1, 1) := by decide +kernel
theorem dX7_gets_77 : decode cX7_gets 77 = .ok (.isub, 1) := by decide +kernel
theorem dX7_gets_78 : decode cX7_gets 78 = .ok (.iaload, 1) := by decide +kernel
theorem dX7_gets_79 : decode cX7_gets 79 = .ok (.iastore, 1) := by decide +kernel
theorem dX7_gets_80 : decode cX7_gets 80 = .ok (.iinc 5 (-1), 3) := by decide +kernel
theorem dX7_gets_83 : decode cX7_gets 83 = .ok (.goto (-50), 3) := by decide +kernel
theorem dX7_gets_86 : decode cX7_gets 86 = .ok (.aload_n 0, 1) := by decide +kernel
theorem dX7_gets_87 : decode cX7_gets 87 = .ok (.getfield 28, 3) := by decide +kernel
theorem dX7_gets_90 : decode cX7_gets 90 = .ok (.iload 5, 2) := by decide +kernel
theorem dX7_gets_92 : decode cX7_gets 92 = .ok (.iload 4, 2) := by decide +kernel
theorem dX7_gets_94 : decode cX7_gets 94 = .ok (.iastore, 1) := by decide +kernel
theorem dX7_gets_95 : decode cX7_gets 95 = .ok (.iinc 3 1, 3) := by decide +kernel
theorem dX7_gets_98 : decode cX7_gets 98 = .ok (.iinc 4 1, 3) := by decide +kernel
theorem dX7_gets_101 : decode cX7_gets 101 = .ok (.goto (-90), 3) := by decide +kernel
theorem dX7_gets_104 : decode cX7_gets 104 = .ok (.aload_n 0, 1) := by decide +kernel
theorem dX7_gets_105 : decode cX7_gets 105 = .ok (.iload_n 1, 1) := by decide +kernel
theorem dX7_gets_106 : decode cX7_gets 106 = .ok (.invokevirtual 67, 3) := by decide +kernel
theorem dX7_gets_109 : decode cX7_gets 109 = .ok (.iconst 0, 1) := by decide +kernel
theorem dX7_gets_110 : decode cX7_gets 110 = .ok (.istore 4, 2) := by decide +kernel
theorem dX7_gets_112 : decode cX7_gets 112 = .ok (.iload 4, 2) := by decide +kernel
theorem dX7_gets_114 : decode cX7_gets 114 = .ok (.iload_n 3, 1) := by decide +kernel
theorem dX7_gets_115 : decode cX7_gets 115 = .ok (.if_icmp .ge 22, 3) := by decide +kernel
theorem dX7_gets_118 : decode cX7_gets 118 = .ok (.aload_n 0, 1) := by decide +kernel
theorem dX7_gets_119 : decode cX7_gets 119 = .ok (.aload_n 0, 1) := by decide +kernel
theorem dX7_gets_120 : decode cX7_gets 120 = .ok (.getfield 28, 3) := by decide +kernel
theorem dX7_gets_123 : decode cX7_gets 123 = .ok (.iload 4, 2) := by decide +kernel
theorem dX7_gets_125 : decode cX7_gets 125 = .ok (.iaload, 1) := by decide +kernel
theorem dX7_gets_126 : decode cX7_gets 126 = .ok (.iconst 5, 1) := by decide +kernel
theorem dX7_gets_127 : decode cX7_gets 127 = .ok (.iconst 0, 1) := by decide +kernel
theorem dX7_gets_128 : decode cX7_gets 128 = .ok (.invokevirtual 63, 3) := by decide +kernel
theorem dX7_gets_131 : decode cX7_gets 131 = .ok (.iinc 4 1, 3) := by decide +kernel
theorem dX7_gets_134 : decode cX7_gets 134 = .ok (.goto (-22), 3) := by decide +kernel
theorem dX7_gets_137 : decode cX7_gets 137 = .ok (.iconst 0, 1) := by decide +kernel
theorem dX7_gets_138 : decode cX7_gets 138 = .ok (.istore 4, 2) := by decide +kernel
theorem dX7_gets_140 : decode cX7_gets 140 = .ok (.iload 4, 2) := by decide +kernel
theorem dX7_gets_142 : decode cX7_gets 142 = .ok (.iload_n 3, 1) := by decide +kernel
theorem dX7_gets_143 : decode cX7_gets 143 = .ok (.if_icmp .ge 59, 3) := by decide +kernel
theorem dX7_gets_146 : decode cX7_gets 146 = .ok (.aload_n 0, 1) := by decide +kernel
theorem dX7_gets_147 : decode cX7_gets 147 = .ok (.aload_n 0, 1) := by decide +kernel
theorem dX7_gets_148 : decode cX7_gets 148 = .ok (.getfield 28, 3) := by decide +kernel
theorem dX7_gets_151 : decode cX7_gets 151 = .ok (.iload 4, 2) := by decide +kernel
theorem dX7_gets_153 : decode cX7_gets 153 = .ok (.iaload, 1) := by decide +kernel
theorem dX7_gets_154 : decode cX7_gets 154 = .ok (.aload_n 0, 1) := by decide +kernel
theorem dX7_gets_155 : decode cX7_gets 155 = .ok (.aload_n 0, 1) := by decide +kernel
theorem dX7_gets_156 : decode cX7_gets 156 = .ok (.getfield 28, 3) := by decide +kernel
theorem dX7_gets_159 : decode cX7_gets 159 = .ok (.iload 4, 2) := by decide +kernel
theorem dX7_gets_161 : decode cX7_gets 161 = .ok (.iaload, 1) := by decide +kernel
theorem dX7_gets_162 : decode cX7_gets 162 = .ok (.bipush 7, 2) := by decide +kernel
theorem dX7_gets_164 : decode cX7_gets 164 = .ok (.invokevirtual 47, 3) := by decide +kernel
theorem dX7_gets_167 : decode cX7_gets 167 = .ok (.aload_n 0, 1) := by decide +kernel
theorem dX7_gets_168 : decode cX7_gets 168 = .ok (.aload_n 0, 1) := by decide +kernel
theorem dX7_gets_169 : decode cX7_gets 169 = .ok (.getfield 28, 3) := by decide +kernel
theorem dX7_gets_172 : decode cX7_gets 172 = .ok (.iload 4, 2) := by decide +kernel
theorem dX7_gets_174 : decode cX7_gets 174 = .ok (.iaload, 1) := by decide +kernel
theorem dX7_gets_175 : decode cX7_gets 175 = .ok (.bipush 8, 2) := by decide +kernel
theorem dX7_gets_177 : decode cX7_gets 177 = .ok (.invokevirtual 47, 3) := by decide +kernel
theorem dX7_gets_180 : decode cX7_gets 180 = .ok (.aload_n 0, 1) := by decide +kernel
theorem dX7_gets_181 : decode cX7_gets 181 = .ok (.aload_n 0, 1) := by decide +kernel
theorem dX7_gets_182 : decode cX7_gets 182 = .ok (.getfield 28, 3) := by decide +kernel
theorem dX7_gets_185 : decode cX7_gets 185 = .ok (.iload 4, 2) := by decide +kernel
theorem dX7_gets_187 : decode cX7_gets 187 = .ok (.iaload, 1) := by decide +kernel
theorem dX7_gets_188 : decode cX7_gets 188 = .ok (.bipush 6, 2) := by decide +kernel
theorem dX7_gets_190 : decode cX7_gets 190 = .ok (.invokevirtual 47, 3) := by decide +kernel
theorem dX7_gets_193 : decode cX7_gets 193 = .ok (.invokevirtual 107, 3) := by decide +kernel
theorem dX7_gets_196 : decode cX7_gets 196 = .ok (.iinc 4 1, 3) := by decide +kernel
theorem dX7_gets_199 : decode cX7_gets 199 = .ok (.goto (-59), 3) := by decide +kernel
theorem dX7_gets_202 : decode cX7_gets 202 = .ok (.iload_n 3, 1) := by decide +kernel
theorem dX7_gets_203 : decode cX7_gets 203 = .ok (.ireturn, 1) := by decide +kernel
theorem dX7_plays_0 : decode cX7_plays 0 = .ok (.iconst 0, 1) := by decide +kernel
theorem dX7_plays_1 : decode cX7_plays 1 = .ok (.istore_n 2, 1) := by decide +kernel
theorem dX7_plays_2 : decode cX7_plays 2 = .ok (.iconst 1, 1) := by decide +kernel
theorem dX7_plays_3 : decode cX7_plays 3 = .ok (.istore_n 3, 1) := by decide +kernel
theorem dX7_plays_4 : decode cX7_plays 4 = .ok (.iconst 0, 1) := by decide +kernel
theorem dX7_plays_5 : decode cX7_plays 5 = .ok (.istore 4, 2) := by decide +kernel
theorem dX7_plays_7 : decode cX7_plays 7 = .ok (.iload 4, 2) := by decide +kernel
theorem dX7_plays_9 : decode cX7_plays 9 = .ok (.bipush 10, 2) := by decide +kernel
theorem dX7_plays_11 : decode cX7_plays 11 = .ok (.if_icmp .ge 73, 3) := by decide +kernel
theorem dX7_plays_14 : decode cX7_plays 14 = .ok (.iconst 0, 1) := by decide +kernel
theorem dX7_plays_15 : decode cX7_plays 15 = .ok (.istore 5, 2) := by decide +kernel
theorem dX7_plays_17 : decode cX7_plays 17 = .ok (.iload 5, 2) := by decide +kernel
theorem dX7_plays_19 : decode cX7_plays 19 = .ok (.aload_n 0, 1) := by decide +kernel
theorem dX7_plays_20 : decode cX7_plays 20 = .ok (.invokevirtual 39, 3) := by decide +kernel
theorem dX7_plays_23 : decode cX7_plays 23 = .ok (.if_icmp .ge 55, 3) := by decide +kernel
theorem dX7_plays_26 : decode cX7_plays 26 = .ok (.iload_n 3, 1) := by decide +kernel
theorem dX7_plays_27 : decode cX7_plays 27 = .ok (.ifCond .eq 45, 3) := by decide +kernel
theorem dX7_plays_30 : decode cX7_plays 30 = .ok (.aload_n 0, 1) := by decide +kernel
theorem dX7_plays_31 : decode cX7_plays 31 = .ok (.iload 5, 2) := by decide +kernel
theorem dX7_plays_33 : decode cX7_plays 33 = .ok (.invokevirtual 71, 3) := by decide +kernel
theorem dX7_plays_36 : decode cX7_plays 36 = .ok (.ifCond .eq 36, 3) := by decide +kernel
theorem dX7_plays_39 : decode cX7_plays 39 = .ok (.aload_n 0, 1) := by decide +kernel
theorem dX7_plays_40 : decode cX7_plays 40 = .ok (.iload 5, 2) := by decide +kernel
theorem dX7_plays_42 : decode cX7_plays 42 = .ok (.iconst 3, 1) := by decide +kernel
theorem dX7_plays_43 : decode cX7_plays 43 = .ok (.invokevirtual 47, 3) := by decide +kernel
theorem dX7_plays_46 : decode cX7_plays 46 = .ok (.iload 4, 2) := by decide +kernel
theorem dX7_plays_48 : decode cX7_plays 48 = .ok (.if_icmp .ne 24, 3) := by decide +kernel
theorem dX7_plays_51 : decode cX7_plays 51 = .ok (.iload_n 2, 1) := by decide +kernel
theorem dX7_plays_52 : decode cX7_plays 52 = .ok (.aload_n 0, 1) := by decide +kernel
theorem dX7_plays_53 : decode cX7_plays 53 = .ok (.iload 5, 2) := by decide +kernel
theorem dX7_plays_55 : decode cX7_plays 55 = .ok (.invokevirtual 226, 3) := by decide +kernel
theorem dX7_plays_58 : decode cX7_plays 58 = .ok (.iadd, 1) := by decide +kernel
theorem dX7_plays_59 : decode cX7_plays 59 = .ok (.istore_n 2, 1) := by decide +kernel
theorem dX7_plays_60 : decode cX7_plays 60 = .ok (.iload 5, 2) := by decide +kernel
theorem dX7_plays_62 : decode cX7_plays 62 = .ok (.iload_n 1, 1) := by decide +kernel
theorem dX7_plays_63 : decode cX7_plays 63 = .ok (.if_icmp .eq 7, 3) := by decide +kernel
theorem dX7_plays_66 : decode cX7_plays 66 = .ok (.iconst 1, 1) := by decide +kernel
theorem dX7_plays_67 : decode cX7_plays 67 = .ok (.goto 4, 3) := by decide +kernel
theorem dX7_plays_70 : decode cX7_plays 70 = .ok (.iconst 0, 1) := by decide +kernel
theorem dX7_plays_71 : decode cX7_plays 71 = .ok (.istore_n 3, 1) := by decide +kernel
theorem dX7_plays_72 : decode cX7_plays 72 = .ok (.iinc 5 1, 3) := by decide +kernel
theorem dX7_plays_75 : decode cX7_plays 75 = .ok (.goto (-58), 3) := by decide +kernel
theorem dX7_plays_78 : decode cX7_plays 78 = .ok (.iinc 4 1, 3) := by decide +kernel
theorem dX7_plays_81 : decode cX7_plays 81 = .ok (.goto (-74), 3) := by decide +kernel
theorem dX7_plays_84 : decode cX7_plays 84 = .ok (.iload_n 2, 1) := by decide +kernel
theorem dX7_plays_85 : decode cX7_plays 85 = .ok (.ireturn, 1) := by decide +kernel
theorem dX7_play_0 : decode cX7_play 0 = .ok (.aload_n 0, 1) := by decide +kernel
theorem dX7_play_1 : decode cX7_play 1 = .ok (.invokevirtual 104, 3) := by decide +kernel
theorem dX7_play_4 : decode cX7_play 4 = .ok (.aload_n 0, 1) := by decide +kernel
theorem dX7_play_5 : decode cX7_play 5 = .ok (.bipush (-9), 2) := by decide +kernel
theorem dX7_play_7 : decode cX7_play 7 = .ok (.invokevirtual 229, 3) := by decide +kernel
theorem dX7_play_10 : decode cX7_play 10 = .ok (.ireturn, 1) := by decide +kernel
theorem dX7_liftsTo_0 : decode cX7_liftsTo 0 = .ok (.aload_n 0, 1) := by decide +kernel
theorem dX7_liftsTo_1 : decode cX7_liftsTo 1 = .ok (.iload_n 1, 1) := by decide +kernel
theorem dX7_liftsTo_2 : decode cX7_liftsTo 2 = .ok (.invokevirtual 94, 3) := by decide +kernel
theorem dX7_liftsTo_5 : decode cX7_liftsTo 5 = .ok (.ifCond .ne 5, 3) := by decide +kernel
theorem dX7_liftsTo_8 : decode cX7_liftsTo 8 = .ok (.iconst (-1), 1) := by decide +kernel
theorem dX7_liftsTo_9 : decode cX7_liftsTo 9 = .ok (.ireturn, 1) := by decide +kernel
theorem dX7_liftsTo_10 : decode cX7_liftsTo 10 = .ok (.aload_n 0, 1) := by decide +kernel
theorem dX7_liftsTo_11 : decode cX7_liftsTo 11 = .ok (.iload_n 1, 1) := by decide +kernel
theorem dX7_liftsTo_12 : decode cX7_liftsTo 12 = .ok (.invokevirtual 71, 3) := by decide +kernel
theorem dX7_liftsTo_15 : decode cX7_liftsTo 15 = .ok (.ifCond .ne 6, 3) := by decide +kernel
theorem dX7_liftsTo_18 : decode cX7_liftsTo 18 = .ok (.bipush (-2), 2) := by decide +kernel
theorem dX7_liftsTo_20 : decode cX7_liftsTo 20 = .ok (.ireturn, 1) := by decide +kernel
theorem dX7_liftsTo_21 : decode cX7_liftsTo 21 = .ok (.aload_n 0, 1) := by decide +kernel
theorem dX7_liftsTo_22 : decode cX7_liftsTo 22 = .ok (.iconst 0, 1) := by decide +kernel
theorem dX7_liftsTo_23 : decode cX7_liftsTo 23 = .ok (.bipush 10, 2) := by decide +kernel
theorem dX7_liftsTo_25 : decode cX7_liftsTo 25 = .ok (.invokevirtual 35, 3) := by decide +kernel
theorem dX7_liftsTo_28 : decode cX7_liftsTo 28 = .ok (.aload_n 0, 1) := by decide +kernel
theorem dX7_liftsTo_29 : decode cX7_liftsTo 29 = .ok (.iload_n 1, 1) := by decide +kernel
theorem dX7_liftsTo_30 : decode cX7_liftsTo 30 = .ok (.invokevirtual 229, 3) := by decide +kernel
theorem dX7_liftsTo_33 : decode cX7_liftsTo 33 = .ok (.istore_n 2, 1) := by decide +kernel
theorem dX7_liftsTo_34 : decode cX7_liftsTo 34 = .ok (.aload_n 0, 1) := by decide +kernel
theorem dX7_liftsTo_35 : decode cX7_liftsTo 35 = .ok (.bipush 10, 2) := by decide +kernel
theorem dX7_liftsTo_37 : decode cX7_liftsTo 37 = .ok (.iconst 0, 1) := by decide +kernel
theorem dX7_liftsTo_38 : decode cX7_liftsTo 38 = .ok (.invokevirtual 35, 3) := by decide +kernel
theorem dX7_liftsTo_41 : decode cX7_liftsTo 41 = .ok (.iload_n 2, 1) := by decide +kernel
theorem dX7_liftsTo_42 : decode cX7_liftsTo 42 = .ok (.ireturn, 1) := by decide +kernel
theorem dX7_count_0 : decode cX7_count 0 = .ok (.iload_n 1, 1) := by decide +kernel
theorem dX7_count_1 : decode cX7_count 1 = .ok (.tableswitch 114 0 12 #[67, 67, 67, 67, 67, 74, 79, 84, 89, 94, 99, 104, 109], 67) := by decide +kernel
theorem dX7_count_68 : decode cX7_count 68 = .ok (.aload_n 0, 1) := by decide +kernel
theorem dX7_count_69 : decode cX7_count 69 = .ok (.getfield 7, 3) := by decide +kernel
theorem dX7_count_72 : decode cX7_count 72 = .ok (.iload_n 1, 1) := by decide +kernel
theorem dX7_count_73 : decode cX7_count 73 = .ok (.iaload, 1) := by decide +kernel
theorem dX7_count_74 : decode cX7_count 74 = .ok (.ireturn, 1) := by decide +kernel
theorem dX7_count_75 : decode cX7_count 75 = .ok (.aload_n 0, 1) := by decide +kernel
theorem dX7_count_76 : decode cX7_count 76 = .ok (.invokevirtual 169, 3) := by decide +kernel
theorem dX7_count_79 : decode cX7_count 79 = .ok (.ireturn, 1) := by decide +kernel
theorem dX7_count_80 : decode cX7_count 80 = .ok (.aload_n 0, 1) := by decide +kernel
theorem dX7_count_81 : decode cX7_count 81 = .ok (.invokevirtual 232, 3) := by decide +kernel
theorem dX7_count_84 : decode cX7_count 84 = .ok (.ireturn, 1) := by decide +kernel
theorem dX7_count_85 : decode cX7_count 85 = .ok (.aload_n 0, 1) := by decide +kernel
theorem dX7_count_86 : decode cX7_count 86 = .ok (.invokevirtual 127, 3) := by decide +kernel
theorem dX7_count_89 : decode cX7_count 89 = .ok (.ireturn, 1) := by decide +kernel
theorem dX7_count_90 : decode cX7_count 90 = .ok (.aload_n 0, 1) := by decide +kernel
theorem dX7_count_91 : decode cX7_count 91 = .ok (.invokevirtual 205, 3) := by decide +kernel
theorem dX7_count_94 : decode cX7_count 94 = .ok (.ireturn, 1) := by decide +kernel
theorem dX7_count_95 : decode cX7_count 95 = .ok (.aload_n 0, 1) := by decide +kernel
theorem dX7_count_96 : decode cX7_count 96 = .ok (.invokevirtual 202, 3) := by decide +kernel
theorem dX7_count_99 : decode cX7_count 99 = .ok (.ireturn, 1) := by decide +kernel
theorem dX7_count_100 : decode cX7_count 100 = .ok (.aload_n 0, 1) := by decide +kernel
theorem dX7_count_101 : decode cX7_count 101 = .ok (.invokevirtual 235, 3) := by decide +kernel
theorem dX7_count_104 : decode cX7_count 104 = .ok (.ireturn, 1) := by decide +kernel
theorem dX7_count_105 : decode cX7_count 105 = .ok (.aload_n 0, 1) := by decide +kernel
theorem dX7_count_106 : decode cX7_count 106 = .ok (.getfield 130, 3) := by decide +kernel
theorem dX7_count_109 : decode cX7_count 109 = .ok (.ireturn, 1) := by decide +kernel
theorem dX7_count_110 : decode cX7_count 110 = .ok (.aload_n 0, 1) := by decide +kernel
theorem dX7_count_111 : decode cX7_count 111 = .ok (.getfield 31, 3) := by decide +kernel
theorem dX7_count_114 : decode cX7_count 114 = .ok (.ireturn, 1) := by decide +kernel
theorem dX7_count_115 : decode cX7_count 115 = .ok (.iconst (-1), 1) := by decide +kernel
theorem dX7_count_116 : decode cX7_count 116 = .ok (.ireturn, 1) := by decide +kernel
theorem dX7_mixes_0 : decode cX7_mixes 0 = .ok (.aload_n 0, 1) := by decide +kernel
theorem dX7_mixes_1 : decode cX7_mixes 1 = .ok (.ldc2_w 238, 3) := by decide +kernel
theorem dX7_mixes_4 : decode cX7_mixes 4 = .ok (.aload_n 0, 1) := by decide +kernel
theorem dX7_mixes_5 : decode cX7_mixes 5 = .ok (.getfield 240, 3) := by decide +kernel
theorem dX7_mixes_8 : decode cX7_mixes 8 = .ok (.lmul, 1) := by decide +kernel
theorem dX7_mixes_9 : decode cX7_mixes 9 = .ok (.iload_n 1, 1) := by decide +kernel
theorem dX7_mixes_10 : decode cX7_mixes 10 = .ok (.i2l, 1) := by decide +kernel
theorem dX7_mixes_11 : decode cX7_mixes 11 = .ok (.ladd, 1) := by decide +kernel
theorem dX7_mixes_12 : decode cX7_mixes 12 = .ok (.putfield 240, 3) := by decide +kernel
theorem dX7_mixes_15 : decode cX7_mixes 15 = .ok (.return_, 1) := by decide +kernel
theorem dX7_digest_0 : decode cX7_digest 0 = .ok (.aload_n 0, 1) := by decide +kernel
theorem dX7_digest_1 : decode cX7_digest 1 = .ok (.ldc2_w 244, 3) := by decide +kernel
theorem dX7_digest_4 : decode cX7_digest 4 = .ok (.putfield 240, 3) := by decide +kernel
theorem dX7_digest_7 : decode cX7_digest 7 = .ok (.iconst 0, 1) := by decide +kernel
theorem dX7_digest_8 : decode cX7_digest 8 = .ok (.istore_n 1, 1) := by decide +kernel
theorem dX7_digest_9 : decode cX7_digest 9 = .ok (.iload_n 1, 1) := by decide +kernel
theorem dX7_digest_10 : decode cX7_digest 10 = .ok (.bipush 13, 2) := by decide +kernel
theorem dX7_digest_12 : decode cX7_digest 12 = .ok (.if_icmp .ge 18, 3) := by decide +kernel
theorem dX7_digest_15 : decode cX7_digest 15 = .ok (.aload_n 0, 1) := by decide +kernel
theorem dX7_digest_16 : decode cX7_digest 16 = .ok (.aload_n 0, 1) := by decide +kernel
theorem dX7_digest_17 : decode cX7_digest 17 = .ok (.iload_n 1, 1) := by decide +kernel
theorem dX7_digest_18 : decode cX7_digest 18 = .ok (.invokevirtual 246, 3) := by decide +kernel
theorem dX7_digest_21 : decode cX7_digest 21 = .ok (.invokevirtual 249, 3) := by decide +kernel
theorem dX7_digest_24 : decode cX7_digest 24 = .ok (.iinc 1 1, 3) := by decide +kernel
theorem dX7_digest_27 : decode cX7_digest 27 = .ok (.goto (-18), 3) := by decide +kernel
theorem dX7_digest_30 : decode cX7_digest 30 = .ok (.iconst 0, 1) := by decide +kernel
theorem dX7_digest_31 : decode cX7_digest 31 = .ok (.istore_n 1, 1) := by decide +kernel
theorem dX7_digest_32 : decode cX7_digest 32 = .ok (.iload_n 1, 1) := by decide +kernel
theorem dX7_digest_33 : decode cX7_digest 33 = .ok (.aload_n 0, 1) := by decide +kernel
theorem dX7_digest_34 : decode cX7_digest 34 = .ok (.invokevirtual 39, 3) := by decide +kernel
theorem dX7_digest_37 : decode cX7_digest 37 = .ok (.if_icmp .ge 53, 3) := by decide +kernel
theorem dX7_digest_40 : decode cX7_digest 40 = .ok (.iconst 0, 1) := by decide +kernel
theorem dX7_digest_41 : decode cX7_digest 41 = .ok (.istore_n 2, 1) := by decide +kernel
theorem dX7_digest_42 : decode cX7_digest 42 = .ok (.iload_n 2, 1) := by decide +kernel
theorem dX7_digest_43 : decode cX7_digest 43 = .ok (.bipush 16, 2) := by decide +kernel
theorem dX7_digest_45 : decode cX7_digest 45 = .ok (.if_icmp .ge 19, 3) := by decide +kernel
theorem dX7_digest_48 : decode cX7_digest 48 = .ok (.aload_n 0, 1) := by decide +kernel
theorem dX7_digest_49 : decode cX7_digest 49 = .ok (.aload_n 0, 1) := by decide +kernel
theorem dX7_digest_50 : decode cX7_digest 50 = .ok (.iload_n 1, 1) := by decide +kernel
theorem dX7_digest_51 : decode cX7_digest 51 = .ok (.iload_n 2, 1) := by decide +kernel
theorem dX7_digest_52 : decode cX7_digest 52 = .ok (.invokevirtual 252, 3) := by decide +kernel
theorem dX7_digest_55 : decode cX7_digest 55 = .ok (.invokevirtual 249, 3) := by decide +kernel
theorem dX7_digest_58 : decode cX7_digest 58 = .ok (.iinc 2 1, 3) := by decide +kernel
theorem dX7_digest_61 : decode cX7_digest 61 = .ok (.goto (-19), 3) := by decide +kernel
theorem dX7_digest_64 : decode cX7_digest 64 = .ok (.aload_n 0, 1) := by decide +kernel
theorem dX7_digest_65 : decode cX7_digest 65 = .ok (.aload_n 0, 1) := by decide +kernel
theorem dX7_digest_66 : decode cX7_digest 66 = .ok (.iload_n 1, 1) := by decide +kernel
theorem dX7_digest_67 : decode cX7_digest 67 = .ok (.iconst 0, 1) := by decide +kernel
theorem dX7_digest_68 : decode cX7_digest 68 = .ok (.invokevirtual 255, 3) := by decide +kernel
theorem dX7_digest_71 : decode cX7_digest 71 = .ok (.invokevirtual 249, 3) := by decide +kernel
theorem dX7_digest_74 : decode cX7_digest 74 = .ok (.aload_n 0, 1) := by decide +kernel
theorem dX7_digest_75 : decode cX7_digest 75 = .ok (.aload_n 0, 1) := by decide +kernel
theorem dX7_digest_76 : decode cX7_digest 76 = .ok (.iload_n 1, 1) := by decide +kernel
theorem dX7_digest_77 : decode cX7_digest 77 = .ok (.iconst 3, 1) := by decide +kernel
theorem dX7_digest_78 : decode cX7_digest 78 = .ok (.invokevirtual 255, 3) := by decide +kernel
theorem dX7_digest_81 : decode cX7_digest 81 = .ok (.invokevirtual 249, 3) := by decide +kernel
theorem dX7_digest_84 : decode cX7_digest 84 = .ok (.iinc 1 1, 3) := by decide +kernel
theorem dX7_digest_87 : decode cX7_digest 87 = .ok (.goto (-55), 3) := by decide +kernel
theorem dX7_digest_90 : decode cX7_digest 90 = .ok (.iconst 0, 1) := by decide +kernel
theorem dX7_digest_91 : decode cX7_digest 91 = .ok (.istore_n 1, 1) := by decide +kernel
theorem dX7_digest_92 : decode cX7_digest 92 = .ok (.iload_n 1, 1) := by decide +kernel
theorem dX7_digest_93 : decode cX7_digest 93 = .ok (.aload_n 0, 1) := by decide +kernel
theorem dX7_digest_94 : decode cX7_digest 94 = .ok (.getfield 7, 3) := by decide +kernel
theorem dX7_digest_97 : decode cX7_digest 97 = .ok (.iconst 0, 1) := by decide +kernel
theorem dX7_digest_98 : decode cX7_digest 98 = .ok (.iaload, 1) := by decide +kernel
theorem dX7_digest_99 : decode cX7_digest 99 = .ok (.if_icmp .ge 49, 3) := by decide +kernel
theorem dX7_digest_102 : decode cX7_digest 102 = .ok (.iconst 0, 1) := by decide +kernel
theorem dX7_digest_103 : decode cX7_digest 103 = .ok (.istore_n 2, 1) := by decide +kernel
theorem dX7_digest_104 : decode cX7_digest 104 = .ok (.iload_n 2, 1) := by decide +kernel
theorem dX7_digest_105 : decode cX7_digest 105 = .ok (.aload_n 0, 1) := by decide +kernel
theorem dX7_digest_106 : decode cX7_digest 106 = .ok (.getfield 7, 3) := by decide +kernel
theorem dX7_digest_109 : decode cX7_digest 109 = .ok (.iconst 1, 1) := by decide +kernel
theorem dX7_digest_110 : decode cX7_digest 110 = .ok (.iaload, 1) := by decide +kernel
theorem dX7_digest_111 : decode cX7_digest 111 = .ok (.if_icmp .ge 31, 3) := by decide +kernel
theorem dX7_digest_114 : decode cX7_digest 114 = .ok (.aload_n 0, 1) := by decide +kernel
theorem dX7_digest_115 : decode cX7_digest 115 = .ok (.aload_n 0, 1) := by decide +kernel
theorem dX7_digest_116 : decode cX7_digest 116 = .ok (.iload_n 1, 1) := by decide +kernel
theorem dX7_digest_117 : decode cX7_digest 117 = .ok (.iload_n 2, 1) := by decide +kernel
theorem dX7_digest_118 : decode cX7_digest 118 = .ok (.iconst 0, 1) := by decide +kernel
theorem dX7_digest_119 : decode cX7_digest 119 = .ok (.invokevirtual 258, 3) := by decide +kernel
theorem dX7_digest_122 : decode cX7_digest 122 = .ok (.invokevirtual 249, 3) := by decide +kernel
theorem dX7_digest_125 : decode cX7_digest 125 = .ok (.aload_n 0, 1) := by decide +kernel
theorem dX7_digest_126 : decode cX7_digest 126 = .ok (.aload_n 0, 1) := by decide +kernel
theorem dX7_digest_127 : decode cX7_digest 127 = .ok (.iload_n 1, 1) := by decide +kernel
theorem dX7_digest_128 : decode cX7_digest 128 = .ok (.iload_n 2, 1) := by decide +kernel
theorem dX7_digest_129 : decode cX7_digest 129 = .ok (.iconst 1, 1) := by decide +kernel
theorem dX7_digest_130 : decode cX7_digest 130 = .ok (.invokevirtual 258, 3) := by decide +kernel
theorem dX7_digest_133 : decode cX7_digest 133 = .ok (.invokevirtual 249, 3) := by decide +kernel
theorem dX7_digest_136 : decode cX7_digest 136 = .ok (.iinc 2 1, 3) := by decide +kernel
theorem dX7_digest_139 : decode cX7_digest 139 = .ok (.goto (-35), 3) := by decide +kernel
theorem dX7_digest_142 : decode cX7_digest 142 = .ok (.iinc 1 1, 3) := by decide +kernel
theorem dX7_digest_145 : decode cX7_digest 145 = .ok (.goto (-53), 3) := by decide +kernel
theorem dX7_digest_148 : decode cX7_digest 148 = .ok (.iconst 0, 1) := by decide +kernel
theorem dX7_digest_149 : decode cX7_digest 149 = .ok (.istore_n 1, 1) := by decide +kernel
theorem dX7_digest_150 : decode cX7_digest 150 = .ok (.iload_n 1, 1) := by decide +kernel
theorem dX7_digest_151 : decode cX7_digest 151 = .ok (.iconst 4, 1) := by decide +kernel
theorem dX7_digest_152 : decode cX7_digest 152 = .ok (.if_icmp .ge 19, 3) := by decide +kernel
theorem dX7_digest_155 : decode cX7_digest 155 = .ok (.aload_n 0, 1) := by decide +kernel
theorem dX7_digest_156 : decode cX7_digest 156 = .ok (.aload_n 0, 1) := by decide +kernel
theorem dX7_digest_157 : decode cX7_digest 157 = .ok (.iconst 0, 1) := by decide +kernel
theorem dX7_digest_158 : decode cX7_digest 158 = .ok (.iload_n 1, 1) := by decide +kernel
theorem dX7_digest_159 : decode cX7_digest 159 = .ok (.invokevirtual 262, 3) := by decide +kernel
theorem dX7_digest_162 : decode cX7_digest 162 = .ok (.invokevirtual 249, 3) := by decide +kernel
theorem dX7_digest_165 : decode cX7_digest 165 = .ok (.iinc 1 1, 3) := by decide +kernel
theorem dX7_digest_168 : decode cX7_digest 168 = .ok (.goto (-18), 3) := by decide +kernel
theorem dX7_digest_171 : decode cX7_digest 171 = .ok (.iconst 0, 1) := by decide +kernel
theorem dX7_digest_172 : decode cX7_digest 172 = .ok (.istore_n 1, 1) := by decide +kernel
theorem dX7_digest_173 : decode cX7_digest 173 = .ok (.iload_n 1, 1) := by decide +kernel
theorem dX7_digest_174 : decode cX7_digest 174 = .ok (.aload_n 0, 1) := by decide +kernel
theorem dX7_digest_175 : decode cX7_digest 175 = .ok (.invokevirtual 39, 3) := by decide +kernel
theorem dX7_digest_178 : decode cX7_digest 178 = .ok (.if_icmp .ge 26, 3) := by decide +kernel
theorem dX7_digest_181 : decode cX7_digest 181 = .ok (.aload_n 0, 1) := by decide +kernel
theorem dX7_digest_182 : decode cX7_digest 182 = .ok (.iload_n 1, 1) := by decide +kernel
theorem dX7_digest_183 : decode cX7_digest 183 = .ok (.invokevirtual 71, 3) := by decide +kernel
theorem dX7_digest_186 : decode cX7_digest 186 = .ok (.ifCond .eq 12, 3) := by decide +kernel
theorem dX7_digest_189 : decode cX7_digest 189 = .ok (.aload_n 0, 1) := by decide +kernel
theorem dX7_digest_190 : decode cX7_digest 190 = .ok (.aload_n 0, 1) := by decide +kernel
theorem dX7_digest_191 : decode cX7_digest 191 = .ok (.iload_n 1, 1) := by decide +kernel
theorem dX7_digest_192 : decode cX7_digest 192 = .ok (.invokevirtual 266, 3) := by decide +kernel
theorem dX7_digest_195 : decode cX7_digest 195 = .ok (.invokevirtual 249, 3) := by decide +kernel
theorem dX7_digest_198 : decode cX7_digest 198 = .ok (.iinc 1 1, 3) := by decide +kernel
theorem dX7_digest_201 : decode cX7_digest 201 = .ok (.goto (-28), 3) := by decide +kernel
theorem dX7_digest_204 : decode cX7_digest 204 = .ok (.aload_n 0, 1) := by decide +kernel
theorem dX7_digest_205 : decode cX7_digest 205 = .ok (.getfield 240, 3) := by decide +kernel
theorem dX7_digest_208 : decode cX7_digest 208 = .ok (.lreturn, 1) := by decide +kernel
theorem dJ6_bitCount_0f7a4_0 : decode cJ6_bitCount_0f7a4 0 = .ok (.iload_n 0, 1) := by decide +kernel
theorem dJ6_bitCount_0f7a4_1 : decode cJ6_bitCount_0f7a4 1 = .ok (.iload_n 0, 1) := by decide +kernel
theorem dJ6_bitCount_0f7a4_2 : decode cJ6_bitCount_0f7a4 2 = .ok (.iconst 1, 1) := by decide +kernel
theorem dJ6_bitCount_0f7a4_3 : decode cJ6_bitCount_0f7a4 3 = .ok (.iushr, 1) := by decide +kernel
theorem dJ6_bitCount_0f7a4_4 : decode cJ6_bitCount_0f7a4 4 = .ok (.ldc_w 265, 3) := by decide +kernel
theorem dJ6_bitCount_0f7a4_7 : decode cJ6_bitCount_0f7a4 7 = .ok (.iand, 1) := by decide +kernel
theorem dJ6_bitCount_0f7a4_8 : decode cJ6_bitCount_0f7a4 8 = .ok (.isub, 1) := by decide +kernel
theorem dJ6_bitCount_0f7a4_9 : decode cJ6_bitCount_0f7a4 9 = .ok (.istore_n 0, 1) := by decide +kernel
theorem dJ6_bitCount_0f7a4_10 : decode cJ6_bitCount_0f7a4 10 = .ok (.iload_n 0, 1) := by decide +kernel
theorem dJ6_bitCount_0f7a4_11 : decode cJ6_bitCount_0f7a4 11 = .ok (.ldc_w 266, 3) := by decide +kernel
theorem dJ6_bitCount_0f7a4_14 : decode cJ6_bitCount_0f7a4 14 = .ok (.iand, 1) := by decide +kernel
theorem dJ6_bitCount_0f7a4_15 : decode cJ6_bitCount_0f7a4 15 = .ok (.iload_n 0, 1) := by decide +kernel
theorem dJ6_bitCount_0f7a4_16 : decode cJ6_bitCount_0f7a4 16 = .ok (.iconst 2, 1) := by decide +kernel
theorem dJ6_bitCount_0f7a4_17 : decode cJ6_bitCount_0f7a4 17 = .ok (.iushr, 1) := by decide +kernel
theorem dJ6_bitCount_0f7a4_18 : decode cJ6_bitCount_0f7a4 18 = .ok (.ldc_w 266, 3) := by decide +kernel
theorem dJ6_bitCount_0f7a4_21 : decode cJ6_bitCount_0f7a4 21 = .ok (.iand, 1) := by decide +kernel
theorem dJ6_bitCount_0f7a4_22 : decode cJ6_bitCount_0f7a4 22 = .ok (.iadd, 1) := by decide +kernel
theorem dJ6_bitCount_0f7a4_23 : decode cJ6_bitCount_0f7a4 23 = .ok (.istore_n 0, 1) := by decide +kernel
theorem dJ6_bitCount_0f7a4_24 : decode cJ6_bitCount_0f7a4 24 = .ok (.iload_n 0, 1) := by decide +kernel
theorem dJ6_bitCount_0f7a4_25 : decode cJ6_bitCount_0f7a4 25 = .ok (.iload_n 0, 1) := by decide +kernel
theorem dJ6_bitCount_0f7a4_26 : decode cJ6_bitCount_0f7a4 26 = .ok (.iconst 4, 1) := by decide +kernel
theorem dJ6_bitCount_0f7a4_27 : decode cJ6_bitCount_0f7a4 27 = .ok (.iushr, 1) := by decide +kernel
theorem dJ6_bitCount_0f7a4_28 : decode cJ6_bitCount_0f7a4 28 = .ok (.iadd, 1) := by decide +kernel
theorem dJ6_bitCount_0f7a4_29 : decode cJ6_bitCount_0f7a4 29 = .ok (.ldc_w 267, 3) := by decide +kernel
theorem dJ6_bitCount_0f7a4_32 : decode cJ6_bitCount_0f7a4 32 = .ok (.iand, 1) := by decide +kernel
theorem dJ6_bitCount_0f7a4_33 : decode cJ6_bitCount_0f7a4 33 = .ok (.istore_n 0, 1) := by decide +kernel
theorem dJ6_bitCount_0f7a4_34 : decode cJ6_bitCount_0f7a4 34 = .ok (.iload_n 0, 1) := by decide +kernel
theorem dJ6_bitCount_0f7a4_35 : decode cJ6_bitCount_0f7a4 35 = .ok (.iload_n 0, 1) := by decide +kernel
theorem dJ6_bitCount_0f7a4_36 : decode cJ6_bitCount_0f7a4 36 = .ok (.bipush 8, 2) := by decide +kernel
theorem dJ6_bitCount_0f7a4_38 : decode cJ6_bitCount_0f7a4 38 = .ok (.iushr, 1) := by decide +kernel
theorem dJ6_bitCount_0f7a4_39 : decode cJ6_bitCount_0f7a4 39 = .ok (.iadd, 1) := by decide +kernel
theorem dJ6_bitCount_0f7a4_40 : decode cJ6_bitCount_0f7a4 40 = .ok (.istore_n 0, 1) := by decide +kernel
theorem dJ6_bitCount_0f7a4_41 : decode cJ6_bitCount_0f7a4 41 = .ok (.iload_n 0, 1) := by decide +kernel
theorem dJ6_bitCount_0f7a4_42 : decode cJ6_bitCount_0f7a4 42 = .ok (.iload_n 0, 1) := by decide +kernel
theorem dJ6_bitCount_0f7a4_43 : decode cJ6_bitCount_0f7a4 43 = .ok (.bipush 16, 2) := by decide +kernel
theorem dJ6_bitCount_0f7a4_45 : decode cJ6_bitCount_0f7a4 45 = .ok (.iushr, 1) := by decide +kernel
theorem dJ6_bitCount_0f7a4_46 : decode cJ6_bitCount_0f7a4 46 = .ok (.iadd, 1) := by decide +kernel
theorem dJ6_bitCount_0f7a4_47 : decode cJ6_bitCount_0f7a4 47 = .ok (.istore_n 0, 1) := by decide +kernel
theorem dJ6_bitCount_0f7a4_48 : decode cJ6_bitCount_0f7a4 48 = .ok (.iload_n 0, 1) := by decide +kernel
theorem dJ6_bitCount_0f7a4_49 : decode cJ6_bitCount_0f7a4 49 = .ok (.bipush 63, 2) := by decide +kernel
theorem dJ6_bitCount_0f7a4_51 : decode cJ6_bitCount_0f7a4 51 = .ok (.iand, 1) := by decide +kernel
theorem dJ6_bitCount_0f7a4_52 : decode cJ6_bitCount_0f7a4 52 = .ok (.ireturn, 1) := by decide +kernel
theorem dJ9_max_7cf53_0 : decode cJ9_max_7cf53 0 = .ok (.iload_n 0, 1) := by decide +kernel
theorem dJ9_max_7cf53_1 : decode cJ9_max_7cf53 1 = .ok (.iload_n 1, 1) := by decide +kernel
theorem dJ9_max_7cf53_2 : decode cJ9_max_7cf53 2 = .ok (.if_icmp .lt 7, 3) := by decide +kernel
theorem dJ9_max_7cf53_5 : decode cJ9_max_7cf53 5 = .ok (.iload_n 0, 1) := by decide +kernel
theorem dJ9_max_7cf53_6 : decode cJ9_max_7cf53 6 = .ok (.goto 4, 3) := by decide +kernel
theorem dJ9_max_7cf53_9 : decode cJ9_max_7cf53 9 = .ok (.iload_n 1, 1) := by decide +kernel
theorem dJ9_max_7cf53_10 : decode cJ9_max_7cf53 10 = .ok (.ireturn, 1) := by decide +kernel
theorem dL_law_0 : decode cL_law 0 = .ok (.new 7, 3) := by decide +kernel
theorem dL_law_3 : decode cL_law 3 = .ok (.dup, 1) := by decide +kernel
theorem dL_law_4 : decode cL_law 4 = .ok (.invokespecial 9, 3) := by decide +kernel
theorem dL_law_7 : decode cL_law 7 = .ok (.astore_n 1, 1) := by decide +kernel
theorem dL_law_8 : decode cL_law 8 = .ok (.new 10, 3) := by decide +kernel
theorem dL_law_11 : decode cL_law 11 = .ok (.dup, 1) := by decide +kernel
theorem dL_law_12 : decode cL_law 12 = .ok (.invokespecial 12, 3) := by decide +kernel
theorem dL_law_15 : decode cL_law 15 = .ok (.astore_n 2, 1) := by decide +kernel
theorem dL_law_16 : decode cL_law 16 = .ok (.iconst 0, 1) := by decide +kernel
theorem dL_law_17 : decode cL_law 17 = .ok (.istore_n 3, 1) := by decide +kernel
theorem dL_law_18 : decode cL_law 18 = .ok (.iload_n 3, 1) := by decide +kernel
theorem dL_law_19 : decode cL_law 19 = .ok (.aload_n 0, 1) := by decide +kernel
theorem dL_law_20 : decode cL_law 20 = .ok (.arraylength, 1) := by decide +kernel
theorem dL_law_21 : decode cL_law 21 = .ok (.iconst 5, 1) := by decide +kernel
theorem dL_law_22 : decode cL_law 22 = .ok (.isub, 1) := by decide +kernel
theorem dL_law_23 : decode cL_law 23 = .ok (.if_icmp .gt 788, 3) := by decide +kernel
theorem dL_law_26 : decode cL_law 26 = .ok (.aload_n 0, 1) := by decide +kernel
theorem dL_law_27 : decode cL_law 27 = .ok (.iload_n 3, 1) := by decide +kernel
theorem dL_law_28 : decode cL_law 28 = .ok (.iaload, 1) := by decide +kernel
theorem dL_law_29 : decode cL_law 29 = .ok (.bipush 31, 2) := by decide +kernel
theorem dL_law_31 : decode cL_law 31 = .ok (.iand, 1) := by decide +kernel
theorem dL_law_32 : decode cL_law 32 = .ok (.tableswitch 773 0 23 #[112, 155, 178, 201, 214, 227, 240, 293, 316, 359, 428, 451, 464, 497, 556, 589, 612, 625, 638, 687, 700, 723, 736, 759], 112) := by decide +kernel
theorem dL_law_144 : decode cL_law 144 = .ok (.aload_n 1, 1) := by decide +kernel
theorem dL_law_145 : decode cL_law 145 = .ok (.aload_n 0, 1) := by decide +kernel
theorem dL_law_146 : decode cL_law 146 = .ok (.iload_n 3, 1) := by decide +kernel
theorem dL_law_147 : decode cL_law 147 = .ok (.iconst 1, 1) := by decide +kernel
theorem dL_law_148 : decode cL_law 148 = .ok (.iadd, 1) := by decide +kernel
theorem dL_law_149 : decode cL_law 149 = .ok (.iaload, 1) := by decide +kernel
theorem dL_law_150 : decode cL_law 150 = .ok (.aload_n 0, 1) := by decide +kernel
theorem dL_law_151 : decode cL_law 151 = .ok (.iload_n 3, 1) := by decide +kernel
theorem dL_law_152 : decode cL_law 152 = .ok (.iconst 2, 1) := by decide +kernel
theorem dL_law_153 : decode cL_law 153 = .ok (.iadd, 1) := by decide +kernel
theorem dL_law_154 : decode cL_law 154 = .ok (.iaload, 1) := by decide +kernel
theorem dL_law_155 : decode cL_law 155 = .ok (.aload_n 0, 1) := by decide +kernel
theorem dL_law_156 : decode cL_law 156 = .ok (.iload_n 3, 1) := by decide +kernel
theorem dL_law_157 : decode cL_law 157 = .ok (.iconst 3, 1) := by decide +kernel
theorem dL_law_158 : decode cL_law 158 = .ok (.iadd, 1) := by decide +kernel
theorem dL_law_159 : decode cL_law 159 = .ok (.iaload, 1) := by decide +kernel
theorem dL_law_160 : decode cL_law 160 = .ok (.invokevirtual 13, 3) := by decide +kernel
theorem dL_law_163 : decode cL_law 163 = .ok (.aload_n 2, 1) := by decide +kernel
theorem dL_law_164 : decode cL_law 164 = .ok (.aload_n 0, 1) := by decide +kernel
theorem dL_law_165 : decode cL_law 165 = .ok (.iload_n 3, 1) := by decide +kernel
theorem dL_law_166 : decode cL_law 166 = .ok (.iconst 1, 1) := by decide +kernel
theorem dL_law_167 : decode cL_law 167 = .ok (.iadd, 1) := by decide +kernel
theorem dL_law_168 : decode cL_law 168 = .ok (.iaload, 1) := by decide +kernel
theorem dL_law_169 : decode cL_law 169 = .ok (.aload_n 0, 1) := by decide +kernel
theorem dL_law_170 : decode cL_law 170 = .ok (.iload_n 3, 1) := by decide +kernel
theorem dL_law_171 : decode cL_law 171 = .ok (.iconst 2, 1) := by decide +kernel
theorem dL_law_172 : decode cL_law 172 = .ok (.iadd, 1) := by decide +kernel
theorem dL_law_173 : decode cL_law 173 = .ok (.iaload, 1) := by decide +kernel
theorem dL_law_174 : decode cL_law 174 = .ok (.aload_n 0, 1) := by decide +kernel
theorem dL_law_175 : decode cL_law 175 = .ok (.iload_n 3, 1) := by decide +kernel
theorem dL_law_176 : decode cL_law 176 = .ok (.iconst 3, 1) := by decide +kernel
theorem dL_law_177 : decode cL_law 177 = .ok (.iadd, 1) := by decide +kernel
theorem dL_law_178 : decode cL_law 178 = .ok (.iaload, 1) := by decide +kernel
theorem dL_law_179 : decode cL_law 179 = .ok (.invokevirtual 17, 3) := by decide +kernel
theorem dL_law_182 : decode cL_law 182 = .ok (.if_icmp .eq 623, 3) := by decide +kernel
theorem dL_law_185 : decode cL_law 185 = .ok (.iconst 0, 1) := by decide +kernel
theorem dL_law_186 : decode cL_law 186 = .ok (.ireturn, 1) := by decide +kernel
theorem dL_law_187 : decode cL_law 187 = .ok (.aload_n 1, 1) := by decide +kernel
theorem dL_law_188 : decode cL_law 188 = .ok (.aload_n 0, 1) := by decide +kernel
theorem dL_law_189 : decode cL_law 189 = .ok (.iload_n 3, 1) := by decide +kernel
theorem dL_law_190 : decode cL_law 190 = .ok (.iconst 1, 1) := by decide +kernel
theorem dL_law_191 : decode cL_law 191 = .ok (.iadd, 1) := by decide +kernel
theorem dL_law_192 : decode cL_law 192 = .ok (.iaload, 1) := by decide +kernel
theorem dL_law_193 : decode cL_law 193 = .ok (.invokevirtual 18, 3) := by decide +kernel
theorem dL_law_196 : decode cL_law 196 = .ok (.aload_n 2, 1) := by decide +kernel
theorem dL_law_197 : decode cL_law 197 = .ok (.aload_n 0, 1) := by decide +kernel
theorem dL_law_198 : decode cL_law 198 = .ok (.iload_n 3, 1) := by decide +kernel
theorem dL_law_199 : decode cL_law 199 = .ok (.iconst 1, 1) := by decide +kernel
theorem dL_law_200 : decode cL_law 200 = .ok (.iadd, 1) := by decide +kernel
theorem dL_law_201 : decode cL_law 201 = .ok (.iaload, 1) := by decide +kernel
theorem dL_law_202 : decode cL_law 202 = .ok (.invokevirtual 22, 3) := by decide +kernel
theorem dL_law_205 : decode cL_law 205 = .ok (.if_icmp .eq 600, 3) := by decide +kernel
theorem dL_law_208 : decode cL_law 208 = .ok (.iconst 0, 1) := by decide +kernel
theorem dL_law_209 : decode cL_law 209 = .ok (.ireturn, 1) := by decide +kernel
theorem dL_law_210 : decode cL_law 210 = .ok (.aload_n 1, 1) := by decide +kernel
theorem dL_law_211 : decode cL_law 211 = .ok (.aload_n 0, 1) := by decide +kernel
theorem dL_law_212 : decode cL_law 212 = .ok (.iload_n 3, 1) := by decide +kernel
theorem dL_law_213 : decode cL_law 213 = .ok (.iconst 1, 1) := by decide +kernel
theorem dL_law_214 : decode cL_law 214 = .ok (.iadd, 1) := by decide +kernel
theorem dL_law_215 : decode cL_law 215 = .ok (.iaload, 1) := by decide +kernel
theorem dL_law_216 : decode cL_law 216 = .ok (.invokevirtual 23, 3) := by decide +kernel
theorem dL_law_219 : decode cL_law 219 = .ok (.aload_n 2, 1) := by decide +kernel
theorem dL_law_220 : decode cL_law 220 = .ok (.aload_n 0, 1) := by decide +kernel
theorem dL_law_221 : decode cL_law 221 = .ok (.iload_n 3, 1) := by decide +kernel
theorem dL_law_222 : decode cL_law 222 = .ok (.iconst 1, 1) := by decide +kernel
theorem dL_law_223 : decode cL_law 223 = .ok (.iadd, 1) := by decide +kernel
theorem dL_law_224 : decode cL_law 224 = .ok (.iaload, 1) := by decide +kernel
theorem dL_law_225 : decode cL_law 225 = .ok (.invokevirtual 26, 3) := by decide +kernel
theorem dL_law_228 : decode cL_law 228 = .ok (.if_icmp .eq 577, 3) := by decide +kernel
theorem dL_law_231 : decode cL_law 231 = .ok (.iconst 0, 1) := by decide +kernel
theorem dL_law_232 : decode cL_law 232 = .ok (.ireturn, 1) := by decide +kernel
theorem dL_law_233 : decode cL_law 233 = .ok (.aload_n 1, 1) := by decide +kernel
theorem dL_law_234 : decode cL_law 234 = .ok (.invokevirtual 27, 3) := by decide +kernel
theorem dL_law_237 : decode cL_law 237 = .ok (.aload_n 2, 1) := by decide +kernel
theorem dL_law_238 : decode cL_law 238 = .ok (.invokevirtual 31, 3) := by decide +kernel
theorem dL_law_241 : decode cL_law 241 = .ok (.if_icmp .eq 564, 3) := by decide +kernel
theorem dL_law_244 : decode cL_law 244 = .ok (.iconst 0, 1) := by decide +kernel
theorem dL_law_245 : decode cL_law 245 = .ok (.ireturn, 1) := by decide +kernel
theorem dL_law_246 : decode cL_law 246 = .ok (.aload_n 1, 1) := by decide +kernel
theorem dL_law_247 : decode cL_law 247 = .ok (.invokevirtual 32, 3) := by decide +kernel
theorem dL_law_250 : decode cL_law 250 = .ok (.aload_n 2, 1) := by decide +kernel
theorem dL_law_251 : decode cL_law 251 = .ok (.invokevirtual 35, 3) := by decide +kernel
theorem dL_law_254 : decode cL_law 254 = .ok (.if_icmp .eq 551, 3) := by decide +kernel
theorem dL_law_257 : decode cL_law 257 = .ok (.iconst 0, 1) := by decide +kernel
theorem dL_law_258 : decode cL_law 258 = .ok (.ireturn, 1) := by decide +kernel
theorem dL_law_259 : decode cL_law 259 = .ok (.aload_n 1, 1) := by decide +kernel
theorem dL_law_260 : decode cL_law 260 = .ok (.invokevirtual 36, 3) := by decide +kernel
theorem dL_law_263 : decode cL_law 263 = .ok (.aload_n 2, 1) := by decide +kernel
theorem dL_law_264 : decode cL_law 264 = .ok (.invokevirtual 39, 3) := by decide +kernel
theorem dL_law_267 : decode cL_law 267 = .ok (.if_icmp .eq 538, 3) := by decide +kernel
theorem dL_law_270 : decode cL_law 270 = .ok (.iconst 0, 1) := by decide +kernel
theorem dL_law_271 : decode cL_law 271 = .ok (.ireturn, 1) := by decide +kernel
theorem dL_law_272 : decode cL_law 272 = .ok (.aload_n 1, 1) := by decide +kernel
theorem dL_law_273 : decode cL_law 273 = .ok (.aload_n 0, 1) := by decide +kernel
theorem dL_law_274 : decode cL_law 274 = .ok (.iload_n 3, 1) := by decide +kernel
theorem dL_law_275 : decode cL_law 275 = .ok (.iconst 1, 1) := by decide +kernel
theorem dL_law_276 : decode cL_law 276 = .ok (.iadd, 1) := by decide +kernel
theorem dL_law_277 : decode cL_law 277 = .ok (.iaload, 1) := by decide +kernel
theorem dL_law_278 : decode cL_law 278 = .ok (.aload_n 0, 1) := by decide +kernel
theorem dL_law_279 : decode cL_law 279 = .ok (.iload_n 3, 1) := by decide +kernel
theorem dL_law_280 : decode cL_law 280 = .ok (.iconst 2, 1) := by decide +kernel
theorem dL_law_281 : decode cL_law 281 = .ok (.iadd, 1) := by decide +kernel
theorem dL_law_282 : decode cL_law 282 = .ok (.iaload, 1) := by decide +kernel
theorem dL_law_283 : decode cL_law 283 = .ok (.aload_n 0, 1) := by decide +kernel
theorem dL_law_284 : decode cL_law 284 = .ok (.iload_n 3, 1) := by decide +kernel
theorem dL_law_285 : decode cL_law 285 = .ok (.iconst 3, 1) := by decide +kernel
theorem dL_law_286 : decode cL_law 286 = .ok (.iadd, 1) := by decide +kernel
theorem dL_law_287 : decode cL_law 287 = .ok (.iaload, 1) := by decide +kernel
theorem dL_law_288 : decode cL_law 288 = .ok (.aload_n 0, 1) := by decide +kernel
theorem dL_law_289 : decode cL_law 289 = .ok (.iload_n 3, 1) := by decide +kernel
theorem dL_law_290 : decode cL_law 290 = .ok (.iconst 4, 1) := by decide +kernel
theorem dL_law_291 : decode cL_law 291 = .ok (.iadd, 1) := by decide +kernel
theorem dL_law_292 : decode cL_law 292 = .ok (.iaload, 1) := by decide +kernel
theorem dL_law_293 : decode cL_law 293 = .ok (.invokevirtual 40, 3) := by decide +kernel
theorem dL_law_296 : decode cL_law 296 = .ok (.aload_n 2, 1) := by decide +kernel
theorem dL_law_297 : decode cL_law 297 = .ok (.aload_n 0, 1) := by decide +kernel
theorem dL_law_298 : decode cL_law 298 = .ok (.iload_n 3, 1) := by decide +kernel
theorem dL_law_299 : decode cL_law 299 = .ok (.iconst 1, 1) := by decide +kernel
theorem dL_law_300 : decode cL_law 300 = .ok (.iadd, 1) := by decide +kernel
theorem dL_law_301 : decode cL_law 301 = .ok (.iaload, 1) := by decide +kernel
theorem dL_law_302 : decode cL_law 302 = .ok (.aload_n 0, 1) := by decide +kernel
theorem dL_law_303 : decode cL_law 303 = .ok (.iload_n 3, 1) := by decide +kernel
theorem dL_law_304 : decode cL_law 304 = .ok (.iconst 2, 1) := by decide +kernel
theorem dL_law_305 : decode cL_law 305 = .ok (.iadd, 1) := by decide +kernel
theorem dL_law_306 : decode cL_law 306 = .ok (.iaload, 1) := by decide +kernel
theorem dL_law_307 : decode cL_law 307 = .ok (.aload_n 0, 1) := by decide +kernel
theorem dL_law_308 : decode cL_law 308 = .ok (.iload_n 3, 1) := by decide +kernel
theorem dL_law_309 : decode cL_law 309 = .ok (.iconst 3, 1) := by decide +kernel
theorem dL_law_310 : decode cL_law 310 = .ok (.iadd, 1) := by decide +kernel
theorem dL_law_311 : decode cL_law 311 = .ok (.iaload, 1) := by decide +kernel
theorem dL_law_312 : decode cL_law 312 = .ok (.aload_n 0, 1) := by decide +kernel
theorem dL_law_313 : decode cL_law 313 = .ok (.iload_n 3, 1) := by decide +kernel
theorem dL_law_314 : decode cL_law 314 = .ok (.iconst 4, 1) := by decide +kernel
theorem dL_law_315 : decode cL_law 315 = .ok (.iadd, 1) := by decide +kernel
theorem dL_law_316 : decode cL_law 316 = .ok (.iaload, 1) := by decide +kernel
theorem dL_law_317 : decode cL_law 317 = .ok (.invokevirtual 44, 3) := by decide +kernel
theorem dL_law_320 : decode cL_law 320 = .ok (.if_icmp .eq 485, 3) := by decide +kernel
theorem dL_law_323 : decode cL_law 323 = .ok (.iconst 0, 1) := by decide +kernel
theorem dL_law_324 : decode cL_law 324 = .ok (.ireturn, 1) := by decide +kernel
theorem dL_law_325 : decode cL_law 325 = .ok (.aload_n 1, 1) := by decide +kernel
theorem dL_law_326 : decode cL_law 326 = .ok (.aload_n 0, 1) := by decide +kernel
theorem dL_law_327 : decode cL_law 327 = .ok (.iload_n 3, 1) := by decide +kernel
theorem dL_law_328 : decode cL_law 328 = .ok (.iconst 1, 1) := by decide +kernel
theorem dL_law_329 : decode cL_law 329 = .ok (.iadd, 1) := by decide +kernel
theorem dL_law_330 : decode cL_law 330 = .ok (.iaload, 1) := by decide +kernel
theorem dL_law_331 : decode cL_law 331 = .ok (.invokevirtual 45, 3) := by decide +kernel
theorem dL_law_334 : decode cL_law 334 = .ok (.aload_n 2, 1) := by decide +kernel
theorem dL_law_335 : decode cL_law 335 = .ok (.aload_n 0, 1) := by decide +kernel
theorem dL_law_336 : decode cL_law 336 = .ok (.iload_n 3, 1) := by decide +kernel
theorem dL_law_337 : decode cL_law 337 = .ok (.iconst 1, 1) := by decide +kernel
theorem dL_law_338 : decode cL_law 338 = .ok (.iadd, 1) := by decide +kernel
theorem dL_law_339 : decode cL_law 339 = .ok (.iaload, 1) := by decide +kernel
theorem dL_law_340 : decode cL_law 340 = .ok (.invokevirtual 48, 3) := by decide +kernel
theorem dL_law_343 : decode cL_law 343 = .ok (.if_icmp .eq 462, 3) := by decide +kernel
theorem dL_law_346 : decode cL_law 346 = .ok (.iconst 0, 1) := by decide +kernel
theorem dL_law_347 : decode cL_law 347 = .ok (.ireturn, 1) := by decide +kernel
theorem dL_law_348 : decode cL_law 348 = .ok (.aload_n 1, 1) := by decide +kernel
theorem dL_law_349 : decode cL_law 349 = .ok (.aload_n 0, 1) := by decide +kernel
theorem dL_law_350 : decode cL_law 350 = .ok (.iload_n 3, 1) := by decide +kernel
theorem dL_law_351 : decode cL_law 351 = .ok (.iconst 1, 1) := by decide +kernel
theorem dL_law_352 : decode cL_law 352 = .ok (.iadd, 1) := by decide +kernel
theorem dL_law_353 : decode cL_law 353 = .ok (.iaload, 1) := by decide +kernel
theorem dL_law_354 : decode cL_law 354 = .ok (.aload_n 0, 1) := by decide +kernel
theorem dL_law_355 : decode cL_law 355 = .ok (.iload_n 3, 1) := by decide +kernel
theorem dL_law_356 : decode cL_law 356 = .ok (.iconst 2, 1) := by decide +kernel
theorem dL_law_357 : decode cL_law 357 = .ok (.iadd, 1) := by decide +kernel
theorem dL_law_358 : decode cL_law 358 = .ok (.iaload, 1) := by decide +kernel
theorem dL_law_359 : decode cL_law 359 = .ok (.aload_n 0, 1) := by decide +kernel
theorem dL_law_360 : decode cL_law 360 = .ok (.iload_n 3, 1) := by decide +kernel
theorem dL_law_361 : decode cL_law 361 = .ok (.iconst 3, 1) := by decide +kernel
theorem dL_law_362 : decode cL_law 362 = .ok (.iadd, 1) := by decide +kernel
theorem dL_law_363 : decode cL_law 363 = .ok (.iaload, 1) := by decide +kernel
theorem dL_law_364 : decode cL_law 364 = .ok (.invokevirtual 49, 3) := by decide +kernel
theorem dL_law_367 : decode cL_law 367 = .ok (.aload_n 2, 1) := by decide +kernel
theorem dL_law_368 : decode cL_law 368 = .ok (.aload_n 0, 1) := by decide +kernel
theorem dL_law_369 : decode cL_law 369 = .ok (.iload_n 3, 1) := by decide +kernel
theorem dL_law_370 : decode cL_law 370 = .ok (.iconst 1, 1) := by decide +kernel
theorem dL_law_371 : decode cL_law 371 = .ok (.iadd, 1) := by decide +kernel
theorem dL_law_372 : decode cL_law 372 = .ok (.iaload, 1) := by decide +kernel
theorem dL_law_373 : decode cL_law 373 = .ok (.aload_n 0, 1) := by decide +kernel
theorem dL_law_374 : decode cL_law 374 = .ok (.iload_n 3, 1) := by decide +kernel
theorem dL_law_375 : decode cL_law 375 = .ok (.iconst 2, 1) := by decide +kernel
theorem dL_law_376 : decode cL_law 376 = .ok (.iadd, 1) := by decide +kernel
theorem dL_law_377 : decode cL_law 377 = .ok (.iaload, 1) := by decide +kernel
theorem dL_law_378 : decode cL_law 378 = .ok (.aload_n 0, 1) := by decide +kernel
theorem dL_law_379 : decode cL_law 379 = .ok (.iload_n 3, 1) := by decide +kernel
theorem dL_law_380 : decode cL_law 380 = .ok (.iconst 3, 1) := by decide +kernel
theorem dL_law_381 : decode cL_law 381 = .ok (.iadd, 1) := by decide +kernel
theorem dL_law_382 : decode cL_law 382 = .ok (.iaload, 1) := by decide +kernel
theorem dL_law_383 : decode cL_law 383 = .ok (.invokevirtual 52, 3) := by decide +kernel
theorem dL_law_386 : decode cL_law 386 = .ok (.if_icmp .eq 419, 3) := by decide +kernel
theorem dL_law_389 : decode cL_law 389 = .ok (.iconst 0, 1) := by decide +kernel
theorem dL_law_390 : decode cL_law 390 = .ok (.ireturn, 1) := by decide +kernel
theorem dL_law_391 : decode cL_law 391 = .ok (.aload_n 1, 1) := by decide +kernel
theorem dL_law_392 : decode cL_law 392 = .ok (.aload_n 0, 1) := by decide +kernel
theorem dL_law_393 : decode cL_law 393 = .ok (.iload_n 3, 1) := by decide +kernel
theorem dL_law_394 : decode cL_law 394 = .ok (.iconst 1, 1) := by decide +kernel
theorem dL_law_395 : decode cL_law 395 = .ok (.iadd, 1) := by decide +kernel
theorem dL_law_396 : decode cL_law 396 = .ok (.iaload, 1) := by decide +kernel
theorem dL_law_397 : decode cL_law 397 = .ok (.aload_n 0, 1) := by decide +kernel
theorem dL_law_398 : decode cL_law 398 = .ok (.iload_n 3, 1) := by decide +kernel
theorem dL_law_399 : decode cL_law 399 = .ok (.iconst 2, 1) := by decide +kernel
theorem dL_law_400 : decode cL_law 400 = .ok (.iadd, 1) := by decide +kernel
theorem dL_law_401 : decode cL_law 401 = .ok (.iaload, 1) := by decide +kernel
theorem dL_law_402 : decode cL_law 402 = .ok (.aload_n 0, 1) := by decide +kernel
theorem dL_law_403 : decode cL_law 403 = .ok (.iload_n 3, 1) := by decide +kernel
theorem dL_law_404 : decode cL_law 404 = .ok (.iconst 3, 1) := by decide +kernel
theorem dL_law_405 : decode cL_law 405 = .ok (.iadd, 1) := by decide +kernel
theorem dL_law_406 : decode cL_law 406 = .ok (.iaload, 1) := by decide +kernel
theorem dL_law_407 : decode cL_law 407 = .ok (.aload_n 0, 1) := by decide +kernel
theorem dL_law_408 : decode cL_law 408 = .ok (.iload_n 3, 1) := by decide +kernel
theorem dL_law_409 : decode cL_law 409 = .ok (.iconst 4, 1) := by decide +kernel
theorem dL_law_410 : decode cL_law 410 = .ok (.iadd, 1) := by decide +kernel
theorem dL_law_411 : decode cL_law 411 = .ok (.iaload, 1) := by decide +kernel
theorem dL_law_412 : decode cL_law 412 = .ok (.ifCond .eq 7, 3) := by decide +kernel
theorem dL_law_415 : decode cL_law 415 = .ok (.iconst 1, 1) := by decide +kernel
theorem dL_law_416 : decode cL_law 416 = .ok (.goto 4, 3) := by decide +kernel
theorem dL_law_419 : decode cL_law 419 = .ok (.iconst 0, 1) := by decide +kernel
theorem dL_law_420 : decode cL_law 420 = .ok (.invokevirtual 53, 3) := by decide +kernel
theorem dL_law_423 : decode cL_law 423 = .ok (.aload_n 2, 1) := by decide +kernel
theorem dL_law_424 : decode cL_law 424 = .ok (.aload_n 0, 1) := by decide +kernel
theorem dL_law_425 : decode cL_law 425 = .ok (.iload_n 3, 1) := by decide +kernel
theorem dL_law_426 : decode cL_law 426 = .ok (.iconst 1, 1) := by decide +kernel
theorem dL_law_427 : decode cL_law 427 = .ok (.iadd, 1) := by decide +kernel
theorem dL_law_428 : decode cL_law 428 = .ok (.iaload, 1) := by decide +kernel
theorem dL_law_429 : decode cL_law 429 = .ok (.aload_n 0, 1) := by decide +kernel
theorem dL_law_430 : decode cL_law 430 = .ok (.iload_n 3, 1) := by decide +kernel
theorem dL_law_431 : decode cL_law 431 = .ok (.iconst 2, 1) := by decide +kernel
theorem dL_law_432 : decode cL_law 432 = .ok (.iadd, 1) := by decide +kernel
theorem dL_law_433 : decode cL_law 433 = .ok (.iaload, 1) := by decide +kernel
theorem dL_law_434 : decode cL_law 434 = .ok (.aload_n 0, 1) := by decide +kernel
theorem dL_law_435 : decode cL_law 435 = .ok (.iload_n 3, 1) := by decide +kernel
theorem dL_law_436 : decode cL_law 436 = .ok (.iconst 3, 1) := by decide +kernel
theorem dL_law_437 : decode cL_law 437 = .ok (.iadd, 1) := by decide +kernel
theorem dL_law_438 : decode cL_law 438 = .ok (.iaload, 1) := by decide +kernel
theorem dL_law_439 : decode cL_law 439 = .ok (.aload_n 0, 1) := by decide +kernel
theorem dL_law_440 : decode cL_law 440 = .ok (.iload_n 3, 1) := by decide +kernel
theorem dL_law_441 : decode cL_law 441 = .ok (.iconst 4, 1) := by decide +kernel
theorem dL_law_442 : decode cL_law 442 = .ok (.iadd, 1) := by decide +kernel
theorem dL_law_443 : decode cL_law 443 = .ok (.iaload, 1) := by decide +kernel
theorem dL_law_444 : decode cL_law 444 = .ok (.ifCond .eq 7, 3) := by decide +kernel
theorem dL_law_447 : decode cL_law 447 = .ok (.iconst 1, 1) := by decide +kernel
theorem dL_law_448 : decode cL_law 448 = .ok (.goto 4, 3) := by decide +kernel
theorem dL_law_451 : decode cL_law 451 = .ok (.iconst 0, 1) := by decide +kernel
theorem dL_law_452 : decode cL_law 452 = .ok (.invokevirtual 57, 3) := by decide +kernel
theorem dL_law_455 : decode cL_law 455 = .ok (.if_icmp .eq 350, 3) := by decide +kernel
theorem dL_law_458 : decode cL_law 458 = .ok (.iconst 0, 1) := by decide +kernel
theorem dL_law_459 : decode cL_law 459 = .ok (.ireturn, 1) := by decide +kernel
theorem dL_law_460 : decode cL_law 460 = .ok (.aload_n 1, 1) := by decide +kernel
theorem dL_law_461 : decode cL_law 461 = .ok (.aload_n 0, 1) := by decide +kernel
theorem dL_law_462 : decode cL_law 462 = .ok (.iload_n 3, 1) := by decide +kernel
theorem dL_law_463 : decode cL_law 463 = .ok (.iconst 1, 1) := by decide +kernel
theorem dL_law_464 : decode cL_law 464 = .ok (.iadd, 1) := by decide +kernel
theorem dL_law_465 : decode cL_law 465 = .ok (.iaload, 1) := by decide +kernel
theorem dL_law_466 : decode cL_law 466 = .ok (.invokevirtual 58, 3) := by decide +kernel
theorem dL_law_469 : decode cL_law 469 = .ok (.aload_n 2, 1) := by decide +kernel
theorem dL_law_470 : decode cL_law 470 = .ok (.aload_n 0, 1) := by decide +kernel
theorem dL_law_471 : decode cL_law 471 = .ok (.iload_n 3, 1) := by decide +kernel
theorem dL_law_472 : decode cL_law 472 = .ok (.iconst 1, 1) := by decide +kernel
theorem dL_law_473 : decode cL_law 473 = .ok (.iadd, 1) := by decide +kernel
theorem dL_law_474 : decode cL_law 474 = .ok (.iaload, 1) := by decide +kernel
theorem dL_law_475 : decode cL_law 475 = .ok (.invokevirtual 61, 3) := by decide +kernel
theorem dL_law_478 : decode cL_law 478 = .ok (.if_icmp .eq 327, 3) := by decide +kernel
theorem dL_law_481 : decode cL_law 481 = .ok (.iconst 0, 1) := by decide +kernel
theorem dL_law_482 : decode cL_law 482 = .ok (.ireturn, 1) := by decide +kernel
theorem dL_law_483 : decode cL_law 483 = .ok (.aload_n 1, 1) := by decide +kernel
theorem dL_law_484 : decode cL_law 484 = .ok (.invokevirtual 62, 3) := by decide +kernel
theorem dL_law_487 : decode cL_law 487 = .ok (.aload_n 2, 1) := by decide +kernel
theorem dL_law_488 : decode cL_law 488 = .ok (.invokevirtual 65, 3) := by decide +kernel
theorem dL_law_491 : decode cL_law 491 = .ok (.if_icmp .eq 314, 3) := by decide +kernel
theorem dL_law_494 : decode cL_law 494 = .ok (.iconst 0, 1) := by decide +kernel
theorem dL_law_495 : decode cL_law 495 = .ok (.ireturn, 1) := by decide +kernel
theorem dL_law_496 : decode cL_law 496 = .ok (.aload_n 1, 1) := by decide +kernel
theorem dL_law_497 : decode cL_law 497 = .ok (.aload_n 0, 1) := by decide +kernel
theorem dL_law_498 : decode cL_law 498 = .ok (.iload_n 3, 1) := by decide +kernel
theorem dL_law_499 : decode cL_law 499 = .ok (.iconst 1, 1) := by decide +kernel
theorem dL_law_500 : decode cL_law 500 = .ok (.iadd, 1) := by decide +kernel
theorem dL_law_501 : decode cL_law 501 = .ok (.iaload, 1) := by decide +kernel
theorem dL_law_502 : decode cL_law 502 = .ok (.aload_n 0, 1) := by decide +kernel
theorem dL_law_503 : decode cL_law 503 = .ok (.iload_n 3, 1) := by decide +kernel
theorem dL_law_504 : decode cL_law 504 = .ok (.iconst 2, 1) := by decide +kernel
theorem dL_law_505 : decode cL_law 505 = .ok (.iadd, 1) := by decide +kernel
theorem dL_law_506 : decode cL_law 506 = .ok (.iaload, 1) := by decide +kernel
theorem dL_law_507 : decode cL_law 507 = .ok (.invokevirtual 66, 3) := by decide +kernel
theorem dL_law_510 : decode cL_law 510 = .ok (.aload_n 2, 1) := by decide +kernel
theorem dL_law_511 : decode cL_law 511 = .ok (.aload_n 0, 1) := by decide +kernel
theorem dL_law_512 : decode cL_law 512 = .ok (.iload_n 3, 1) := by decide +kernel
theorem dL_law_513 : decode cL_law 513 = .ok (.iconst 1, 1) := by decide +kernel
theorem dL_law_514 : decode cL_law 514 = .ok (.iadd, 1) := by decide +kernel
theorem dL_law_515 : decode cL_law 515 = .ok (.iaload, 1) := by decide +kernel
theorem dL_law_516 : decode cL_law 516 = .ok (.aload_n 0, 1) := by decide +kernel
theorem dL_law_517 : decode cL_law 517 = .ok (.iload_n 3, 1) := by decide +kernel
theorem dL_law_518 : decode cL_law 518 = .ok (.iconst 2, 1) := by decide +kernel
theorem dL_law_519 : decode cL_law 519 = .ok (.iadd, 1) := by decide +kernel
theorem dL_law_520 : decode cL_law 520 = .ok (.iaload, 1) := by decide +kernel
theorem dL_law_521 : decode cL_law 521 = .ok (.invokevirtual 70, 3) := by decide +kernel
theorem dL_law_524 : decode cL_law 524 = .ok (.if_icmp .eq 281, 3) := by decide +kernel
theorem dL_law_527 : decode cL_law 527 = .ok (.iconst 0, 1) := by decide +kernel
theorem dL_law_528 : decode cL_law 528 = .ok (.ireturn, 1) := by decide +kernel
theorem dL_law_529 : decode cL_law 529 = .ok (.aload_n 1, 1) := by decide +kernel
theorem dL_law_530 : decode cL_law 530 = .ok (.aload_n 0, 1) := by decide +kernel
theorem dL_law_531 : decode cL_law 531 = .ok (.iload_n 3, 1) := by decide +kernel
theorem dL_law_532 : decode cL_law 532 = .ok (.iconst 1, 1) := by decide +kernel
theorem dL_law_533 : decode cL_law 533 = .ok (.iadd, 1) := by decide +kernel
theorem dL_law_534 : decode cL_law 534 = .ok (.iaload, 1) := by decide +kernel
theorem dL_law_535 : decode cL_law 535 = .ok (.aload_n 0, 1) := by decide +kernel
theorem dL_law_536 : decode cL_law 536 = .ok (.iload_n 3, 1) := by decide +kernel
theorem dL_law_537 : decode cL_law 537 = .ok (.iconst 2, 1) := by decide +kernel
theorem dL_law_538 : decode cL_law 538 = .ok (.iadd, 1) := by decide +kernel
theorem dL_law_539 : decode cL_law 539 = .ok (.iaload, 1) := by decide +kernel
theorem dL_law_540 : decode cL_law 540 = .ok (.aload_n 0, 1) := by decide +kernel
theorem dL_law_541 : decode cL_law 541 = .ok (.iload_n 3, 1) := by decide +kernel
theorem dL_law_542 : decode cL_law 542 = .ok (.iconst 3, 1) := by decide +kernel
theorem dL_law_543 : decode cL_law 543 = .ok (.iadd, 1) := by decide +kernel
theorem dL_law_544 : decode cL_law 544 = .ok (.iaload, 1) := by decide +kernel
theorem dL_law_545 : decode cL_law 545 = .ok (.ifCond .eq 7, 3) := by decide +kernel
theorem dL_law_548 : decode cL_law 548 = .ok (.iconst 1, 1) := by decide +kernel
theorem dL_law_549 : decode cL_law 549 = .ok (.goto 4, 3) := by decide +kernel
theorem dL_law_552 : decode cL_law 552 = .ok (.iconst 0, 1) := by decide +kernel
theorem dL_law_553 : decode cL_law 553 = .ok (.invokevirtual 71, 3) := by decide +kernel
theorem dL_law_556 : decode cL_law 556 = .ok (.aload_n 2, 1) := by decide +kernel
theorem dL_law_557 : decode cL_law 557 = .ok (.aload_n 0, 1) := by decide +kernel
theorem dL_law_558 : decode cL_law 558 = .ok (.iload_n 3, 1) := by decide +kernel
theorem dL_law_559 : decode cL_law 559 = .ok (.iconst 1, 1) := by decide +kernel
theorem dL_law_560 : decode cL_law 560 = .ok (.iadd, 1) := by decide +kernel
theorem dL_law_561 : decode cL_law 561 = .ok (.iaload, 1) := by decide +kernel
theorem dL_law_562 : decode cL_law 562 = .ok (.aload_n 0, 1) := by decide +kernel
theorem dL_law_563 : decode cL_law 563 = .ok (.iload_n 3, 1) := by decide +kernel
theorem dL_law_564 : decode cL_law 564 = .ok (.iconst 2, 1) := by decide +kernel
theorem dL_law_565 : decode cL_law 565 = .ok (.iadd, 1) := by decide +kernel
theorem dL_law_566 : decode cL_law 566 = .ok (.iaload, 1) := by decide +kernel
theorem dL_law_567 : decode cL_law 567 = .ok (.aload_n 0, 1) := by decide +kernel
theorem dL_law_568 : decode cL_law 568 = .ok (.iload_n 3, 1) := by decide +kernel
theorem dL_law_569 : decode cL_law 569 = .ok (.iconst 3, 1) := by decide +kernel
theorem dL_law_570 : decode cL_law 570 = .ok (.iadd, 1) := by decide +kernel
theorem dL_law_571 : decode cL_law 571 = .ok (.iaload, 1) := by decide +kernel
theorem dL_law_572 : decode cL_law 572 = .ok (.ifCond .eq 7, 3) := by decide +kernel
theorem dL_law_575 : decode cL_law 575 = .ok (.iconst 1, 1) := by decide +kernel
theorem dL_law_576 : decode cL_law 576 = .ok (.goto 4, 3) := by decide +kernel
theorem dL_law_579 : decode cL_law 579 = .ok (.iconst 0, 1) := by decide +kernel
theorem dL_law_580 : decode cL_law 580 = .ok (.invokevirtual 75, 3) := by decide +kernel
theorem dL_law_583 : decode cL_law 583 = .ok (.if_icmp .eq 222, 3) := by decide +kernel
theorem dL_law_586 : decode cL_law 586 = .ok (.iconst 0, 1) := by decide +kernel
theorem dL_law_587 : decode cL_law 587 = .ok (.ireturn, 1) := by decide +kernel
theorem dL_law_588 : decode cL_law 588 = .ok (.aload_n 1, 1) := by decide +kernel
theorem dL_law_589 : decode cL_law 589 = .ok (.aload_n 0, 1) := by decide +kernel
theorem dL_law_590 : decode cL_law 590 = .ok (.iload_n 3, 1) := by decide +kernel
theorem dL_law_591 : decode cL_law 591 = .ok (.iconst 1, 1) := by decide +kernel
theorem dL_law_592 : decode cL_law 592 = .ok (.iadd, 1) := by decide +kernel
theorem dL_law_593 : decode cL_law 593 = .ok (.iaload, 1) := by decide +kernel
theorem dL_law_594 : decode cL_law 594 = .ok (.aload_n 0, 1) := by decide +kernel
theorem dL_law_595 : decode cL_law 595 = .ok (.iload_n 3, 1) := by decide +kernel
theorem dL_law_596 : decode cL_law 596 = .ok (.iconst 2, 1) := by decide +kernel
theorem dL_law_597 : decode cL_law 597 = .ok (.iadd, 1) := by decide +kernel
theorem dL_law_598 : decode cL_law 598 = .ok (.iaload, 1) := by decide +kernel
theorem dL_law_599 : decode cL_law 599 = .ok (.invokevirtual 76, 3) := by decide +kernel
theorem dL_law_602 : decode cL_law 602 = .ok (.aload_n 2, 1) := by decide +kernel
theorem dL_law_603 : decode cL_law 603 = .ok (.aload_n 0, 1) := by decide +kernel
theorem dL_law_604 : decode cL_law 604 = .ok (.iload_n 3, 1) := by decide +kernel
theorem dL_law_605 : decode cL_law 605 = .ok (.iconst 1, 1) := by decide +kernel
theorem dL_law_606 : decode cL_law 606 = .ok (.iadd, 1) := by decide +kernel
theorem dL_law_607 : decode cL_law 607 = .ok (.iaload, 1) := by decide +kernel
theorem dL_law_608 : decode cL_law 608 = .ok (.aload_n 0, 1) := by decide +kernel
theorem dL_law_609 : decode cL_law 609 = .ok (.iload_n 3, 1) := by decide +kernel
theorem dL_law_610 : decode cL_law 610 = .ok (.iconst 2, 1) := by decide +kernel
theorem dL_law_611 : decode cL_law 611 = .ok (.iadd, 1) := by decide +kernel
theorem dL_law_612 : decode cL_law 612 = .ok (.iaload, 1) := by decide +kernel
theorem dL_law_613 : decode cL_law 613 = .ok (.invokevirtual 79, 3) := by decide +kernel
theorem dL_law_616 : decode cL_law 616 = .ok (.if_icmp .eq 189, 3) := by decide +kernel
theorem dL_law_619 : decode cL_law 619 = .ok (.iconst 0, 1) := by decide +kernel
theorem dL_law_620 : decode cL_law 620 = .ok (.ireturn, 1) := by decide +kernel
theorem dL_law_621 : decode cL_law 621 = .ok (.aload_n 1, 1) := by decide +kernel
theorem dL_law_622 : decode cL_law 622 = .ok (.aload_n 0, 1) := by decide +kernel
theorem dL_law_623 : decode cL_law 623 = .ok (.iload_n 3, 1) := by decide +kernel
theorem dL_law_624 : decode cL_law 624 = .ok (.iconst 1, 1) := by decide +kernel
theorem dL_law_625 : decode cL_law 625 = .ok (.iadd, 1) := by decide +kernel
theorem dL_law_626 : decode cL_law 626 = .ok (.iaload, 1) := by decide +kernel
theorem dL_law_627 : decode cL_law 627 = .ok (.invokevirtual 80, 3) := by decide +kernel
theorem dL_law_630 : decode cL_law 630 = .ok (.aload_n 2, 1) := by decide +kernel
theorem dL_law_631 : decode cL_law 631 = .ok (.aload_n 0, 1) := by decide +kernel
theorem dL_law_632 : decode cL_law 632 = .ok (.iload_n 3, 1) := by decide +kernel
theorem dL_law_633 : decode cL_law 633 = .ok (.iconst 1, 1) := by decide +kernel
theorem dL_law_634 : decode cL_law 634 = .ok (.iadd, 1) := by decide +kernel
theorem dL_law_635 : decode cL_law 635 = .ok (.iaload, 1) := by decide +kernel
theorem dL_law_636 : decode cL_law 636 = .ok (.invokevirtual 83, 3) := by decide +kernel
theorem dL_law_639 : decode cL_law 639 = .ok (.if_icmp .eq 166, 3) := by decide +kernel
theorem dL_law_642 : decode cL_law 642 = .ok (.iconst 0, 1) := by decide +kernel
theorem dL_law_643 : decode cL_law 643 = .ok (.ireturn, 1) := by decide +kernel
theorem dL_law_644 : decode cL_law 644 = .ok (.aload_n 1, 1) := by decide +kernel
theorem dL_law_645 : decode cL_law 645 = .ok (.invokevirtual 84, 3) := by decide +kernel
theorem dL_law_648 : decode cL_law 648 = .ok (.aload_n 2, 1) := by decide +kernel
theorem dL_law_649 : decode cL_law 649 = .ok (.invokevirtual 87, 3) := by decide +kernel
theorem dL_law_652 : decode cL_law 652 = .ok (.if_icmp .eq 153, 3) := by decide +kernel
theorem dL_law_655 : decode cL_law 655 = .ok (.iconst 0, 1) := by decide +kernel
theorem dL_law_656 : decode cL_law 656 = .ok (.ireturn, 1) := by decide +kernel
theorem dL_law_657 : decode cL_law 657 = .ok (.aload_n 1, 1) := by decide +kernel
theorem dL_law_658 : decode cL_law 658 = .ok (.invokevirtual 88, 3) := by decide +kernel
theorem dL_law_661 : decode cL_law 661 = .ok (.aload_n 2, 1) := by decide +kernel
theorem dL_law_662 : decode cL_law 662 = .ok (.invokevirtual 91, 3) := by decide +kernel
theorem dL_law_665 : decode cL_law 665 = .ok (.if_icmp .eq 140, 3) := by decide +kernel
theorem dL_law_668 : decode cL_law 668 = .ok (.iconst 0, 1) := by decide +kernel
theorem dL_law_669 : decode cL_law 669 = .ok (.ireturn, 1) := by decide +kernel
theorem dL_law_670 : decode cL_law 670 = .ok (.aload_n 1, 1) := by decide +kernel
theorem dL_law_671 : decode cL_law 671 = .ok (.aload_n 0, 1) := by decide +kernel
theorem dL_law_672 : decode cL_law 672 = .ok (.iload_n 3, 1) := by decide +kernel
theorem dL_law_673 : decode cL_law 673 = .ok (.iconst 1, 1) := by decide +kernel
theorem dL_law_674 : decode cL_law 674 = .ok (.iadd, 1) := by decide +kernel
theorem dL_law_675 : decode cL_law 675 = .ok (.iaload, 1) := by decide +kernel
theorem dL_law_676 : decode cL_law 676 = .ok (.ifCond .eq 7, 3) := by decide +kernel
theorem dL_law_679 : decode cL_law 679 = .ok (.iconst 1, 1) := by decide +kernel
theorem dL_law_680 : decode cL_law 680 = .ok (.goto 4, 3) := by decide +kernel
theorem dL_law_683 : decode cL_law 683 = .ok (.iconst 0, 1) := by decide +kernel
theorem dL_law_684 : decode cL_law 684 = .ok (.aload_n 0, 1) := by decide +kernel
theorem dL_law_685 : decode cL_law 685 = .ok (.iload_n 3, 1) := by decide +kernel
theorem dL_law_686 : decode cL_law 686 = .ok (.iconst 2, 1) := by decide +kernel
theorem dL_law_687 : decode cL_law 687 = .ok (.iadd, 1) := by decide +kernel
theorem dL_law_688 : decode cL_law 688 = .ok (.iaload, 1) := by decide +kernel
theorem dL_law_689 : decode cL_law 689 = .ok (.invokevirtual 92, 3) := by decide +kernel
theorem dL_law_692 : decode cL_law 692 = .ok (.aload_n 2, 1) := by decide +kernel
theorem dL_law_693 : decode cL_law 693 = .ok (.aload_n 0, 1) := by decide +kernel
theorem dL_law_694 : decode cL_law 694 = .ok (.iload_n 3, 1) := by decide +kernel
theorem dL_law_695 : decode cL_law 695 = .ok (.iconst 1, 1) := by decide +kernel
theorem dL_law_696 : decode cL_law 696 = .ok (.iadd, 1) := by decide +kernel
theorem dL_law_697 : decode cL_law 697 = .ok (.iaload, 1) := by decide +kernel
theorem dL_law_698 : decode cL_law 698 = .ok (.ifCond .eq 7, 3) := by decide +kernel
theorem dL_law_701 : decode cL_law 701 = .ok (.iconst 1, 1) := by decide +kernel
theorem dL_law_702 : decode cL_law 702 = .ok (.goto 4, 3) := by decide +kernel
theorem dL_law_705 : decode cL_law 705 = .ok (.iconst 0, 1) := by decide +kernel
theorem dL_law_706 : decode cL_law 706 = .ok (.aload_n 0, 1) := by decide +kernel
theorem dL_law_707 : decode cL_law 707 = .ok (.iload_n 3, 1) := by decide +kernel
theorem dL_law_708 : decode cL_law 708 = .ok (.iconst 2, 1) := by decide +kernel
theorem dL_law_709 : decode cL_law 709 = .ok (.iadd, 1) := by decide +kernel
theorem dL_law_710 : decode cL_law 710 = .ok (.iaload, 1) := by decide +kernel
theorem dL_law_711 : decode cL_law 711 = .ok (.invokevirtual 96, 3) := by decide +kernel
theorem dL_law_714 : decode cL_law 714 = .ok (.if_icmp .eq 91, 3) := by decide +kernel
theorem dL_law_717 : decode cL_law 717 = .ok (.iconst 0, 1) := by decide +kernel
theorem dL_law_718 : decode cL_law 718 = .ok (.ireturn, 1) := by decide +kernel
theorem dL_law_719 : decode cL_law 719 = .ok (.aload_n 1, 1) := by decide +kernel
theorem dL_law_720 : decode cL_law 720 = .ok (.invokevirtual 97, 3) := by decide +kernel
theorem dL_law_723 : decode cL_law 723 = .ok (.aload_n 2, 1) := by decide +kernel
theorem dL_law_724 : decode cL_law 724 = .ok (.invokevirtual 100, 3) := by decide +kernel
theorem dL_law_727 : decode cL_law 727 = .ok (.if_icmp .eq 78, 3) := by decide +kernel
theorem dL_law_730 : decode cL_law 730 = .ok (.iconst 0, 1) := by decide +kernel
theorem dL_law_731 : decode cL_law 731 = .ok (.ireturn, 1) := by decide +kernel
theorem dL_law_732 : decode cL_law 732 = .ok (.aload_n 1, 1) := by decide +kernel
theorem dL_law_733 : decode cL_law 733 = .ok (.aload_n 0, 1) := by decide +kernel
theorem dL_law_734 : decode cL_law 734 = .ok (.iload_n 3, 1) := by decide +kernel
theorem dL_law_735 : decode cL_law 735 = .ok (.iconst 1, 1) := by decide +kernel
theorem dL_law_736 : decode cL_law 736 = .ok (.iadd, 1) := by decide +kernel
theorem dL_law_737 : decode cL_law 737 = .ok (.iaload, 1) := by decide +kernel
theorem dL_law_738 : decode cL_law 738 = .ok (.invokevirtual 101, 3) := by decide +kernel
theorem dL_law_741 : decode cL_law 741 = .ok (.aload_n 2, 1) := by decide +kernel
theorem dL_law_742 : decode cL_law 742 = .ok (.aload_n 0, 1) := by decide +kernel
theorem dL_law_743 : decode cL_law 743 = .ok (.iload_n 3, 1) := by decide +kernel
theorem dL_law_744 : decode cL_law 744 = .ok (.iconst 1, 1) := by decide +kernel
theorem dL_law_745 : decode cL_law 745 = .ok (.iadd, 1) := by decide +kernel
theorem dL_law_746 : decode cL_law 746 = .ok (.iaload, 1) := by decide +kernel
theorem dL_law_747 : decode cL_law 747 = .ok (.invokevirtual 104, 3) := by decide +kernel
theorem dL_law_750 : decode cL_law 750 = .ok (.if_icmp .eq 55, 3) := by decide +kernel
theorem dL_law_753 : decode cL_law 753 = .ok (.iconst 0, 1) := by decide +kernel
theorem dL_law_754 : decode cL_law 754 = .ok (.ireturn, 1) := by decide +kernel
theorem dL_law_755 : decode cL_law 755 = .ok (.aload_n 1, 1) := by decide +kernel
theorem dL_law_756 : decode cL_law 756 = .ok (.invokevirtual 105, 3) := by decide +kernel
theorem dL_law_759 : decode cL_law 759 = .ok (.aload_n 2, 1) := by decide +kernel
theorem dL_law_760 : decode cL_law 760 = .ok (.invokevirtual 108, 3) := by decide +kernel
theorem dL_law_763 : decode cL_law 763 = .ok (.if_icmp .eq 42, 3) := by decide +kernel
theorem dL_law_766 : decode cL_law 766 = .ok (.iconst 0, 1) := by decide +kernel
theorem dL_law_767 : decode cL_law 767 = .ok (.ireturn, 1) := by decide +kernel
theorem dL_law_768 : decode cL_law 768 = .ok (.aload_n 1, 1) := by decide +kernel
theorem dL_law_769 : decode cL_law 769 = .ok (.aload_n 0, 1) := by decide +kernel
theorem dL_law_770 : decode cL_law 770 = .ok (.iload_n 3, 1) := by decide +kernel
theorem dL_law_771 : decode cL_law 771 = .ok (.iconst 1, 1) := by decide +kernel
theorem dL_law_772 : decode cL_law 772 = .ok (.iadd, 1) := by decide +kernel
theorem dL_law_773 : decode cL_law 773 = .ok (.iaload, 1) := by decide +kernel
theorem dL_law_774 : decode cL_law 774 = .ok (.invokevirtual 109, 3) := by decide +kernel
theorem dL_law_777 : decode cL_law 777 = .ok (.aload_n 2, 1) := by decide +kernel
theorem dL_law_778 : decode cL_law 778 = .ok (.aload_n 0, 1) := by decide +kernel
theorem dL_law_779 : decode cL_law 779 = .ok (.iload_n 3, 1) := by decide +kernel
theorem dL_law_780 : decode cL_law 780 = .ok (.iconst 1, 1) := by decide +kernel
theorem dL_law_781 : decode cL_law 781 = .ok (.iadd, 1) := by decide +kernel
theorem dL_law_782 : decode cL_law 782 = .ok (.iaload, 1) := by decide +kernel
theorem dL_law_783 : decode cL_law 783 = .ok (.invokevirtual 112, 3) := by decide +kernel
theorem dL_law_786 : decode cL_law 786 = .ok (.if_icmp .eq 19, 3) := by decide +kernel
theorem dL_law_789 : decode cL_law 789 = .ok (.iconst 0, 1) := by decide +kernel
theorem dL_law_790 : decode cL_law 790 = .ok (.ireturn, 1) := by decide +kernel
theorem dL_law_791 : decode cL_law 791 = .ok (.aload_n 1, 1) := by decide +kernel
theorem dL_law_792 : decode cL_law 792 = .ok (.invokevirtual 113, 3) := by decide +kernel
theorem dL_law_795 : decode cL_law 795 = .ok (.aload_n 2, 1) := by decide +kernel
theorem dL_law_796 : decode cL_law 796 = .ok (.invokevirtual 117, 3) := by decide +kernel
theorem dL_law_799 : decode cL_law 799 = .ok (.lcmp, 1) := by decide +kernel
theorem dL_law_800 : decode cL_law 800 = .ok (.ifCond .eq 5, 3) := by decide +kernel
theorem dL_law_803 : decode cL_law 803 = .ok (.iconst 0, 1) := by decide +kernel
theorem dL_law_804 : decode cL_law 804 = .ok (.ireturn, 1) := by decide +kernel
theorem dL_law_805 : decode cL_law 805 = .ok (.iinc 3 5, 3) := by decide +kernel
theorem dL_law_808 : decode cL_law 808 = .ok (.goto (-790), 3) := by decide +kernel
theorem dL_law_811 : decode cL_law 811 = .ok (.iconst 1, 1) := by decide +kernel
theorem dL_law_812 : decode cL_law 812 = .ok (.ireturn, 1) := by decide +kernel
