theorem dX4_readLid_24 : decode cX4_readLid 24 = .ok (.iconst 1, 1) := by decide +kernel
theorem dX4_readLid_25 : decode cX4_readLid 25 = .ok (.ireturn, 1) := by decide +kernel
theorem dX4_readTurn_0 : decode cX4_readTurn 0 = .ok (.aload_n 0, 1) := by decide +kernel
theorem dX4_readTurn_1 : decode cX4_readTurn 1 = .ok (.invokevirtual 39, 3) := by decide +kernel
theorem dX4_readTurn_4 : decode cX4_readTurn 4 = .ok (.bipush 64, 2) := by decide +kernel
theorem dX4_readTurn_6 : decode cX4_readTurn 6 = .ok (.if_icmp .eq 5, 3) := by decide +kernel
theorem dX4_readTurn_9 : decode cX4_readTurn 9 = .ok (.iconst 1, 1) := by decide +kernel
theorem dX4_readTurn_10 : decode cX4_readTurn 10 = .ok (.ireturn, 1) := by decide +kernel
theorem dX4_readTurn_11 : decode cX4_readTurn 11 = .ok (.aload_n 0, 1) := by decide +kernel
theorem dX4_readTurn_12 : decode cX4_readTurn 12 = .ok (.dup, 1) := by decide +kernel
theorem dX4_readTurn_13 : decode cX4_readTurn 13 = .ok (.getfield 29, 3) := by decide +kernel
theorem dX4_readTurn_16 : decode cX4_readTurn 16 = .ok (.iconst 1, 1) := by decide +kernel
theorem dX4_readTurn_17 : decode cX4_readTurn 17 = .ok (.iadd, 1) := by decide +kernel
theorem dX4_readTurn_18 : decode cX4_readTurn 18 = .ok (.putfield 29, 3) := by decide +kernel
theorem dX4_readTurn_21 : decode cX4_readTurn 21 = .ok (.aload_n 0, 1) := by decide +kernel
theorem dX4_readTurn_22 : decode cX4_readTurn 22 = .ok (.invokevirtual 39, 3) := by decide +kernel
theorem dX4_readTurn_25 : decode cX4_readTurn 25 = .ok (.invokestatic 43, 3) := by decide +kernel
theorem dX4_readTurn_28 : decode cX4_readTurn 28 = .ok (.ifCond .ne 13, 3) := by decide +kernel
theorem dX4_readTurn_31 : decode cX4_readTurn 31 = .ok (.aload_n 0, 1) := by decide +kernel
theorem dX4_readTurn_32 : decode cX4_readTurn 32 = .ok (.iconst 1, 1) := by decide +kernel
theorem dX4_readTurn_33 : decode cX4_readTurn 33 = .ok (.aload_n 0, 1) := by decide +kernel
theorem dX4_readTurn_34 : decode cX4_readTurn 34 = .ok (.getfield 29, 3) := by decide +kernel
theorem dX4_readTurn_37 : decode cX4_readTurn 37 = .ok (.invokevirtual 47, 3) := by decide +kernel
theorem dX4_readTurn_40 : decode cX4_readTurn 40 = .ok (.ireturn, 1) := by decide +kernel
theorem dX4_readTurn_41 : decode cX4_readTurn 41 = .ok (.aload_n 1, 1) := by decide +kernel
theorem dX4_readTurn_42 : decode cX4_readTurn 42 = .ok (.aload_n 0, 1) := by decide +kernel
theorem dX4_readTurn_43 : decode cX4_readTurn 43 = .ok (.invokevirtual 39, 3) := by decide +kernel
theorem dX4_readTurn_46 : decode cX4_readTurn 46 = .ok (.bipush 48, 2) := by decide +kernel
theorem dX4_readTurn_48 : decode cX4_readTurn 48 = .ok (.isub, 1) := by decide +kernel
theorem dX4_readTurn_49 : decode cX4_readTurn 49 = .ok (.putfield 85, 3) := by decide +kernel
theorem dX4_readTurn_52 : decode cX4_readTurn 52 = .ok (.aload_n 0, 1) := by decide +kernel
theorem dX4_readTurn_53 : decode cX4_readTurn 53 = .ok (.dup, 1) := by decide +kernel
theorem dX4_readTurn_54 : decode cX4_readTurn 54 = .ok (.getfield 29, 3) := by decide +kernel
theorem dX4_readTurn_57 : decode cX4_readTurn 57 = .ok (.iconst 1, 1) := by decide +kernel
theorem dX4_readTurn_58 : decode cX4_readTurn 58 = .ok (.iadd, 1) := by decide +kernel
theorem dX4_readTurn_59 : decode cX4_readTurn 59 = .ok (.putfield 29, 3) := by decide +kernel
theorem dX4_readTurn_62 : decode cX4_readTurn 62 = .ok (.iconst 1, 1) := by decide +kernel
theorem dX4_readTurn_63 : decode cX4_readTurn 63 = .ok (.ireturn, 1) := by decide +kernel
theorem dX4_next_0 : decode cX4_next 0 = .ok (.aload_n 0, 1) := by decide +kernel
theorem dX4_next_1 : decode cX4_next 1 = .ok (.getfield 29, 3) := by decide +kernel
theorem dX4_next_4 : decode cX4_next 4 = .ok (.aload_n 0, 1) := by decide +kernel
theorem dX4_next_5 : decode cX4_next 5 = .ok (.getfield 26, 3) := by decide +kernel
theorem dX4_next_8 : decode cX4_next 8 = .ok (.if_icmp .ge 24, 3) := by decide +kernel
theorem dX4_next_11 : decode cX4_next 11 = .ok (.aload_n 0, 1) := by decide +kernel
theorem dX4_next_12 : decode cX4_next 12 = .ok (.getfield 29, 3) := by decide +kernel
theorem dX4_next_15 : decode cX4_next 15 = .ok (.bipush 100, 2) := by decide +kernel
theorem dX4_next_17 : decode cX4_next 17 = .ok (.if_icmp .ge 15, 3) := by decide +kernel
theorem dX4_next_20 : decode cX4_next 20 = .ok (.aload_n 0, 1) := by decide +kernel
theorem dX4_next_21 : decode cX4_next 21 = .ok (.getfield 22, 3) := by decide +kernel
theorem dX4_next_24 : decode cX4_next 24 = .ok (.aload_n 0, 1) := by decide +kernel
theorem dX4_next_25 : decode cX4_next 25 = .ok (.getfield 29, 3) := by decide +kernel
theorem dX4_next_28 : decode cX4_next 28 = .ok (.caload, 1) := by decide +kernel
theorem dX4_next_29 : decode cX4_next 29 = .ok (.goto 4, 3) := by decide +kernel
theorem dX4_next_32 : decode cX4_next 32 = .ok (.iconst 0, 1) := by decide +kernel
theorem dX4_next_33 : decode cX4_next 33 = .ok (.ireturn, 1) := by decide +kernel
theorem dX4_fail_0 : decode cX4_fail 0 = .ok (.aload_n 0, 1) := by decide +kernel
theorem dX4_fail_1 : decode cX4_fail 1 = .ok (.iload_n 1, 1) := by decide +kernel
theorem dX4_fail_2 : decode cX4_fail 2 = .ok (.putfield 9, 3) := by decide +kernel
theorem dX4_fail_5 : decode cX4_fail 5 = .ok (.aload_n 0, 1) := by decide +kernel
theorem dX4_fail_6 : decode cX4_fail 6 = .ok (.iload_n 2, 1) := by decide +kernel
theorem dX4_fail_7 : decode cX4_fail 7 = .ok (.putfield 29, 3) := by decide +kernel
theorem dX4_fail_10 : decode cX4_fail 10 = .ok (.iconst 0, 1) := by decide +kernel
theorem dX4_fail_11 : decode cX4_fail 11 = .ok (.ireturn, 1) := by decide +kernel
theorem dX4_isDigit_0 : decode cX4_isDigit 0 = .ok (.iload_n 0, 1) := by decide +kernel
theorem dX4_isDigit_1 : decode cX4_isDigit 1 = .ok (.bipush 48, 2) := by decide +kernel
theorem dX4_isDigit_3 : decode cX4_isDigit 3 = .ok (.if_icmp .lt 13, 3) := by decide +kernel
theorem dX4_isDigit_6 : decode cX4_isDigit 6 = .ok (.iload_n 0, 1) := by decide +kernel
theorem dX4_isDigit_7 : decode cX4_isDigit 7 = .ok (.bipush 57, 2) := by decide +kernel
theorem dX4_isDigit_9 : decode cX4_isDigit 9 = .ok (.if_icmp .gt 7, 3) := by decide +kernel
theorem dX4_isDigit_12 : decode cX4_isDigit 12 = .ok (.iconst 1, 1) := by decide +kernel
theorem dX4_isDigit_13 : decode cX4_isDigit 13 = .ok (.goto 4, 3) := by decide +kernel
theorem dX4_isDigit_16 : decode cX4_isDigit 16 = .ok (.iconst 0, 1) := by decide +kernel
theorem dX4_isDigit_17 : decode cX4_isDigit 17 = .ok (.ireturn, 1) := by decide +kernel
theorem dX5_init_0 : decode cX5_init 0 = .ok (.aload_n 0, 1) := by decide +kernel
theorem dX5_init_1 : decode cX5_init 1 = .ok (.invokespecial 1, 3) := by decide +kernel
theorem dX5_init_4 : decode cX5_init 4 = .ok (.return_, 1) := by decide +kernel
theorem dX5_become_0 : decode cX5_become 0 = .ok (.aload_n 0, 1) := by decide +kernel
theorem dX5_become_1 : decode cX5_become 1 = .ok (.iload_n 1, 1) := by decide +kernel
theorem dX5_become_2 : decode cX5_become 2 = .ok (.putfield 7, 3) := by decide +kernel
theorem dX5_become_5 : decode cX5_become 5 = .ok (.aload_n 0, 1) := by decide +kernel
theorem dX5_become_6 : decode cX5_become 6 = .ok (.iload_n 2, 1) := by decide +kernel
theorem dX5_become_7 : decode cX5_become 7 = .ok (.putfield 13, 3) := by decide +kernel
theorem dX5_become_10 : decode cX5_become 10 = .ok (.aload_n 0, 1) := by decide +kernel
theorem dX5_become_11 : decode cX5_become 11 = .ok (.iload_n 3, 1) := by decide +kernel
theorem dX5_become_12 : decode cX5_become 12 = .ok (.putfield 16, 3) := by decide +kernel
theorem dX5_become_15 : decode cX5_become 15 = .ok (.aload_n 0, 1) := by decide +kernel
theorem dX5_become_16 : decode cX5_become 16 = .ok (.iload 4, 2) := by decide +kernel
theorem dX5_become_18 : decode cX5_become 18 = .ok (.putfield 19, 3) := by decide +kernel
theorem dX5_become_21 : decode cX5_become 21 = .ok (.aload_n 0, 1) := by decide +kernel
theorem dX5_become_22 : decode cX5_become 22 = .ok (.iconst 0, 1) := by decide +kernel
theorem dX5_become_23 : decode cX5_become 23 = .ok (.putfield 22, 3) := by decide +kernel
theorem dX5_become_26 : decode cX5_become 26 = .ok (.aload_n 0, 1) := by decide +kernel
theorem dX5_become_27 : decode cX5_become 27 = .ok (.invokevirtual 25, 3) := by decide +kernel
theorem dX5_become_30 : decode cX5_become 30 = .ok (.return_, 1) := by decide +kernel
theorem dX5_copyFrom_0 : decode cX5_copyFrom 0 = .ok (.aload_n 0, 1) := by decide +kernel
theorem dX5_copyFrom_1 : decode cX5_copyFrom 1 = .ok (.aload_n 1, 1) := by decide +kernel
theorem dX5_copyFrom_2 : decode cX5_copyFrom 2 = .ok (.getfield 7, 3) := by decide +kernel
theorem dX5_copyFrom_5 : decode cX5_copyFrom 5 = .ok (.putfield 7, 3) := by decide +kernel
theorem dX5_copyFrom_8 : decode cX5_copyFrom 8 = .ok (.aload_n 0, 1) := by decide +kernel
theorem dX5_copyFrom_9 : decode cX5_copyFrom 9 = .ok (.aload_n 1, 1) := by decide +kernel
theorem dX5_copyFrom_10 : decode cX5_copyFrom 10 = .ok (.getfield 13, 3) := by decide +kernel
theorem dX5_copyFrom_13 : decode cX5_copyFrom 13 = .ok (.putfield 13, 3) := by decide +kernel
theorem dX5_copyFrom_16 : decode cX5_copyFrom 16 = .ok (.aload_n 0, 1) := by decide +kernel
theorem dX5_copyFrom_17 : decode cX5_copyFrom 17 = .ok (.aload_n 1, 1) := by decide +kernel
theorem dX5_copyFrom_18 : decode cX5_copyFrom 18 = .ok (.getfield 16, 3) := by decide +kernel
theorem dX5_copyFrom_21 : decode cX5_copyFrom 21 = .ok (.putfield 16, 3) := by decide +kernel
theorem dX5_copyFrom_24 : decode cX5_copyFrom 24 = .ok (.aload_n 0, 1) := by decide +kernel
theorem dX5_copyFrom_25 : decode cX5_copyFrom 25 = .ok (.aload_n 1, 1) := by decide +kernel
theorem dX5_copyFrom_26 : decode cX5_copyFrom 26 = .ok (.getfield 19, 3) := by decide +kernel
theorem dX5_copyFrom_29 : decode cX5_copyFrom 29 = .ok (.putfield 19, 3) := by decide +kernel
theorem dX5_copyFrom_32 : decode cX5_copyFrom 32 = .ok (.aload_n 0, 1) := by decide +kernel
theorem dX5_copyFrom_33 : decode cX5_copyFrom 33 = .ok (.aload_n 1, 1) := by decide +kernel
theorem dX5_copyFrom_34 : decode cX5_copyFrom 34 = .ok (.getfield 22, 3) := by decide +kernel
theorem dX5_copyFrom_37 : decode cX5_copyFrom 37 = .ok (.putfield 22, 3) := by decide +kernel
theorem dX5_copyFrom_40 : decode cX5_copyFrom 40 = .ok (.aload_n 0, 1) := by decide +kernel
theorem dX5_copyFrom_41 : decode cX5_copyFrom 41 = .ok (.aload_n 1, 1) := by decide +kernel
theorem dX5_copyFrom_42 : decode cX5_copyFrom 42 = .ok (.getfield 28, 3) := by decide +kernel
theorem dX5_copyFrom_45 : decode cX5_copyFrom 45 = .ok (.putfield 28, 3) := by decide +kernel
theorem dX5_copyFrom_48 : decode cX5_copyFrom 48 = .ok (.aload_n 0, 1) := by decide +kernel
theorem dX5_copyFrom_49 : decode cX5_copyFrom 49 = .ok (.aload_n 1, 1) := by decide +kernel
theorem dX5_copyFrom_50 : decode cX5_copyFrom 50 = .ok (.getfield 32, 3) := by decide +kernel
theorem dX5_copyFrom_53 : decode cX5_copyFrom 53 = .ok (.putfield 32, 3) := by decide +kernel
theorem dX5_copyFrom_56 : decode cX5_copyFrom 56 = .ok (.aload_n 0, 1) := by decide +kernel
theorem dX5_copyFrom_57 : decode cX5_copyFrom 57 = .ok (.aload_n 1, 1) := by decide +kernel
theorem dX5_copyFrom_58 : decode cX5_copyFrom 58 = .ok (.getfield 35, 3) := by decide +kernel
theorem dX5_copyFrom_61 : decode cX5_copyFrom 61 = .ok (.putfield 35, 3) := by decide +kernel
theorem dX5_copyFrom_64 : decode cX5_copyFrom 64 = .ok (.aload_n 0, 1) := by decide +kernel
theorem dX5_copyFrom_65 : decode cX5_copyFrom 65 = .ok (.aload_n 1, 1) := by decide +kernel
theorem dX5_copyFrom_66 : decode cX5_copyFrom 66 = .ok (.getfield 38, 3) := by decide +kernel
theorem dX5_copyFrom_69 : decode cX5_copyFrom 69 = .ok (.putfield 38, 3) := by decide +kernel
theorem dX5_copyFrom_72 : decode cX5_copyFrom 72 = .ok (.aload_n 0, 1) := by decide +kernel
theorem dX5_copyFrom_73 : decode cX5_copyFrom 73 = .ok (.aload_n 1, 1) := by decide +kernel
theorem dX5_copyFrom_74 : decode cX5_copyFrom 74 = .ok (.getfield 41, 3) := by decide +kernel
theorem dX5_copyFrom_77 : decode cX5_copyFrom 77 = .ok (.putfield 41, 3) := by decide +kernel
theorem dX5_copyFrom_80 : decode cX5_copyFrom 80 = .ok (.aload_n 0, 1) := by decide +kernel
theorem dX5_copyFrom_81 : decode cX5_copyFrom 81 = .ok (.aload_n 1, 1) := by decide +kernel
theorem dX5_copyFrom_82 : decode cX5_copyFrom 82 = .ok (.getfield 44, 3) := by decide +kernel
theorem dX5_copyFrom_85 : decode cX5_copyFrom 85 = .ok (.putfield 44, 3) := by decide +kernel
theorem dX5_copyFrom_88 : decode cX5_copyFrom 88 = .ok (.aload_n 0, 1) := by decide +kernel
theorem dX5_copyFrom_89 : decode cX5_copyFrom 89 = .ok (.aload_n 1, 1) := by decide +kernel
theorem dX5_copyFrom_90 : decode cX5_copyFrom 90 = .ok (.getfield 47, 3) := by decide +kernel
theorem dX5_copyFrom_93 : decode cX5_copyFrom 93 = .ok (.putfield 47, 3) := by decide +kernel
theorem dX5_copyFrom_96 : decode cX5_copyFrom 96 = .ok (.aload_n 0, 1) := by decide +kernel
theorem dX5_copyFrom_97 : decode cX5_copyFrom 97 = .ok (.aload_n 1, 1) := by decide +kernel
theorem dX5_copyFrom_98 : decode cX5_copyFrom 98 = .ok (.getfield 50, 3) := by decide +kernel
theorem dX5_copyFrom_101 : decode cX5_copyFrom 101 = .ok (.putfield 50, 3) := by decide +kernel
theorem dX5_copyFrom_104 : decode cX5_copyFrom 104 = .ok (.aload_n 0, 1) := by decide +kernel
theorem dX5_copyFrom_105 : decode cX5_copyFrom 105 = .ok (.aload_n 1, 1) := by decide +kernel
theorem dX5_copyFrom_106 : decode cX5_copyFrom 106 = .ok (.getfield 53, 3) := by decide +kernel
theorem dX5_copyFrom_109 : decode cX5_copyFrom 109 = .ok (.putfield 53, 3) := by decide +kernel
theorem dX5_copyFrom_112 : decode cX5_copyFrom 112 = .ok (.return_, 1) := by decide +kernel
theorem dX5_lie_0 : decode cX5_lie 0 = .ok (.aload_n 0, 1) := by decide +kernel
theorem dX5_lie_1 : decode cX5_lie 1 = .ok (.iconst 1, 1) := by decide +kernel
theorem dX5_lie_2 : decode cX5_lie 2 = .ok (.putfield 28, 3) := by decide +kernel
theorem dX5_lie_5 : decode cX5_lie 5 = .ok (.aload_n 0, 1) := by decide +kernel
theorem dX5_lie_6 : decode cX5_lie 6 = .ok (.iload_n 3, 1) := by decide +kernel
theorem dX5_lie_7 : decode cX5_lie 7 = .ok (.putfield 32, 3) := by decide +kernel
theorem dX5_lie_10 : decode cX5_lie 10 = .ok (.aload_n 0, 1) := by decide +kernel
theorem dX5_lie_11 : decode cX5_lie 11 = .ok (.iload_n 1, 1) := by decide +kernel
theorem dX5_lie_12 : decode cX5_lie 12 = .ok (.putfield 35, 3) := by decide +kernel
theorem dX5_lie_15 : decode cX5_lie 15 = .ok (.aload_n 0, 1) := by decide +kernel
theorem dX5_lie_16 : decode cX5_lie 16 = .ok (.iload_n 2, 1) := by decide +kernel
theorem dX5_lie_17 : decode cX5_lie 17 = .ok (.putfield 38, 3) := by decide +kernel
theorem dX5_lie_20 : decode cX5_lie 20 = .ok (.aload_n 0, 1) := by decide +kernel
theorem dX5_lie_21 : decode cX5_lie 21 = .ok (.iload_n 1, 1) := by decide +kernel
theorem dX5_lie_22 : decode cX5_lie 22 = .ok (.aload_n 0, 1) := by decide +kernel
theorem dX5_lie_23 : decode cX5_lie 23 = .ok (.iload_n 3, 1) := by decide +kernel
theorem dX5_lie_24 : decode cX5_lie 24 = .ok (.invokevirtual 56, 3) := by decide +kernel
theorem dX5_lie_27 : decode cX5_lie 27 = .ok (.iadd, 1) := by decide +kernel
theorem dX5_lie_28 : decode cX5_lie 28 = .ok (.putfield 41, 3) := by decide +kernel
theorem dX5_lie_31 : decode cX5_lie 31 = .ok (.aload_n 0, 1) := by decide +kernel
theorem dX5_lie_32 : decode cX5_lie 32 = .ok (.iload_n 2, 1) := by decide +kernel
theorem dX5_lie_33 : decode cX5_lie 33 = .ok (.aload_n 0, 1) := by decide +kernel
theorem dX5_lie_34 : decode cX5_lie 34 = .ok (.iload_n 3, 1) := by decide +kernel
theorem dX5_lie_35 : decode cX5_lie 35 = .ok (.invokevirtual 60, 3) := by decide +kernel
theorem dX5_lie_38 : decode cX5_lie 38 = .ok (.iadd, 1) := by decide +kernel
theorem dX5_lie_39 : decode cX5_lie 39 = .ok (.putfield 44, 3) := by decide +kernel
theorem dX5_lie_42 : decode cX5_lie 42 = .ok (.aload_n 0, 1) := by decide +kernel
theorem dX5_lie_43 : decode cX5_lie 43 = .ok (.iload 4, 2) := by decide +kernel
theorem dX5_lie_45 : decode cX5_lie 45 = .ok (.putfield 47, 3) := by decide +kernel
theorem dX5_lie_48 : decode cX5_lie 48 = .ok (.aload_n 0, 1) := by decide +kernel
theorem dX5_lie_49 : decode cX5_lie 49 = .ok (.iload 4, 2) := by decide +kernel
theorem dX5_lie_51 : decode cX5_lie 51 = .ok (.aload_n 0, 1) := by decide +kernel
theorem dX5_lie_52 : decode cX5_lie 52 = .ok (.invokevirtual 63, 3) := by decide +kernel
theorem dX5_lie_55 : decode cX5_lie 55 = .ok (.iadd, 1) := by decide +kernel
theorem dX5_lie_56 : decode cX5_lie 56 = .ok (.putfield 50, 3) := by decide +kernel
theorem dX5_lie_59 : decode cX5_lie 59 = .ok (.aload_n 0, 1) := by decide +kernel
theorem dX5_lie_60 : decode cX5_lie 60 = .ok (.iload 5, 2) := by decide +kernel
theorem dX5_lie_62 : decode cX5_lie 62 = .ok (.putfield 53, 3) := by decide +kernel
theorem dX5_lie_65 : decode cX5_lie 65 = .ok (.return_, 1) := by decide +kernel
theorem dX5_leave_0 : decode cX5_leave 0 = .ok (.aload_n 0, 1) := by decide +kernel
theorem dX5_leave_1 : decode cX5_leave 1 = .ok (.iconst 0, 1) := by decide +kernel
theorem dX5_leave_2 : decode cX5_leave 2 = .ok (.putfield 28, 3) := by decide +kernel
theorem dX5_leave_5 : decode cX5_leave 5 = .ok (.aload_n 0, 1) := by decide +kernel
theorem dX5_leave_6 : decode cX5_leave 6 = .ok (.iconst 0, 1) := by decide +kernel
theorem dX5_leave_7 : decode cX5_leave 7 = .ok (.putfield 32, 3) := by decide +kernel
theorem dX5_leave_10 : decode cX5_leave 10 = .ok (.return_, 1) := by decide +kernel
theorem dX5_alongX_0 : decode cX5_alongX 0 = .ok (.iload_n 1, 1) := by decide +kernel
theorem dX5_alongX_1 : decode cX5_alongX 1 = .ok (.ifCond .eq 10, 3) := by decide +kernel
theorem dX5_alongX_4 : decode cX5_alongX 4 = .ok (.aload_n 0, 1) := by decide +kernel
theorem dX5_alongX_5 : decode cX5_alongX 5 = .ok (.getfield 13, 3) := by decide +kernel
theorem dX5_alongX_8 : decode cX5_alongX 8 = .ok (.goto 7, 3) := by decide +kernel
theorem dX5_alongX_11 : decode cX5_alongX 11 = .ok (.aload_n 0, 1) := by decide +kernel
theorem dX5_alongX_12 : decode cX5_alongX 12 = .ok (.getfield 7, 3) := by decide +kernel
theorem dX5_alongX_15 : decode cX5_alongX 15 = .ok (.ireturn, 1) := by decide +kernel
theorem dX5_alongY_0 : decode cX5_alongY 0 = .ok (.iload_n 1, 1) := by decide +kernel
theorem dX5_alongY_1 : decode cX5_alongY 1 = .ok (.ifCond .eq 10, 3) := by decide +kernel
theorem dX5_alongY_4 : decode cX5_alongY 4 = .ok (.aload_n 0, 1) := by decide +kernel
theorem dX5_alongY_5 : decode cX5_alongY 5 = .ok (.getfield 7, 3) := by decide +kernel
theorem dX5_alongY_8 : decode cX5_alongY 8 = .ok (.goto 7, 3) := by decide +kernel
theorem dX5_alongY_11 : decode cX5_alongY 11 = .ok (.aload_n 0, 1) := by decide +kernel
theorem dX5_alongY_12 : decode cX5_alongY 12 = .ok (.getfield 13, 3) := by decide +kernel
theorem dX5_alongY_15 : decode cX5_alongY 15 = .ok (.ireturn, 1) := by decide +kernel
theorem dX5_area_0 : decode cX5_area 0 = .ok (.aload_n 0, 1) := by decide +kernel
theorem dX5_area_1 : decode cX5_area 1 = .ok (.getfield 7, 3) := by decide +kernel
theorem dX5_area_4 : decode cX5_area 4 = .ok (.aload_n 0, 1) := by decide +kernel
theorem dX5_area_5 : decode cX5_area 5 = .ok (.getfield 13, 3) := by decide +kernel
theorem dX5_area_8 : decode cX5_area 8 = .ok (.imul, 1) := by decide +kernel
theorem dX5_area_9 : decode cX5_area 9 = .ok (.ireturn, 1) := by decide +kernel
theorem dX5_tall_0 : decode cX5_tall 0 = .ok (.aload_n 0, 1) := by decide +kernel
theorem dX5_tall_1 : decode cX5_tall 1 = .ok (.getfield 16, 3) := by decide +kernel
theorem dX5_tall_4 : decode cX5_tall 4 = .ok (.aload_n 0, 1) := by decide +kernel
theorem dX5_tall_5 : decode cX5_tall 5 = .ok (.getfield 22, 3) := by decide +kernel
theorem dX5_tall_8 : decode cX5_tall 8 = .ok (.iadd, 1) := by decide +kernel
theorem dX5_tall_9 : decode cX5_tall 9 = .ok (.ireturn, 1) := by decide +kernel
theorem dX5_covers_0 : decode cX5_covers 0 = .ok (.aload_n 0, 1) := by decide +kernel
theorem dX5_covers_1 : decode cX5_covers 1 = .ok (.getfield 28, 3) := by decide +kernel
theorem dX5_covers_4 : decode cX5_covers 4 = .ok (.ifCond .eq 39, 3) := by decide +kernel
theorem dX5_covers_7 : decode cX5_covers 7 = .ok (.iload_n 1, 1) := by decide +kernel
theorem dX5_covers_8 : decode cX5_covers 8 = .ok (.aload_n 0, 1) := by decide +kernel
theorem dX5_covers_9 : decode cX5_covers 9 = .ok (.getfield 35, 3) := by decide +kernel
theorem dX5_covers_12 : decode cX5_covers 12 = .ok (.if_icmp .lt 31, 3) := by decide +kernel
theorem dX5_covers_15 : decode cX5_covers 15 = .ok (.iload_n 1, 1) := by decide +kernel
theorem dX5_covers_16 : decode cX5_covers 16 = .ok (.aload_n 0, 1) := by decide +kernel
theorem dX5_covers_17 : decode cX5_covers 17 = .ok (.getfield 41, 3) := by decide +kernel
theorem dX5_covers_20 : decode cX5_covers 20 = .ok (.if_icmp .ge 23, 3) := by decide +kernel
theorem dX5_covers_23 : decode cX5_covers 23 = .ok (.iload_n 2, 1) := by decide +kernel
theorem dX5_covers_24 : decode cX5_covers 24 = .ok (.aload_n 0, 1) := by decide +kernel
theorem dX5_covers_25 : decode cX5_covers 25 = .ok (.getfield 38, 3) := by decide +kernel
theorem dX5_covers_28 : decode cX5_covers 28 = .ok (.if_icmp .lt 15, 3) := by decide +kernel
theorem dX5_covers_31 : decode cX5_covers 31 = .ok (.iload_n 2, 1) := by decide +kernel
theorem dX5_covers_32 : decode cX5_covers 32 = .ok (.aload_n 0, 1) := by decide +kernel
theorem dX5_covers_33 : decode cX5_covers 33 = .ok (.getfield 44, 3) := by decide +kernel
theorem dX5_covers_36 : decode cX5_covers 36 = .ok (.if_icmp .ge 7, 3) := by decide +kernel
theorem dX5_covers_39 : decode cX5_covers 39 = .ok (.iconst 1, 1) := by decide +kernel
theorem dX5_covers_40 : decode cX5_covers 40 = .ok (.goto 4, 3) := by decide +kernel
theorem dX5_covers_43 : decode cX5_covers 43 = .ok (.iconst 0, 1) := by decide +kernel
theorem dX5_covers_44 : decode cX5_covers 44 = .ok (.ireturn, 1) := by decide +kernel
theorem dX5_liesOn_0 : decode cX5_liesOn 0 = .ok (.aload_n 0, 1) := by decide +kernel
theorem dX5_liesOn_1 : decode cX5_liesOn 1 = .ok (.getfield 28, 3) := by decide +kernel
theorem dX5_liesOn_4 : decode cX5_liesOn 4 = .ok (.ifCond .eq 69, 3) := by decide +kernel
theorem dX5_liesOn_7 : decode cX5_liesOn 7 = .ok (.aload_n 1, 1) := by decide +kernel
theorem dX5_liesOn_8 : decode cX5_liesOn 8 = .ok (.getfield 28, 3) := by decide +kernel
theorem dX5_liesOn_11 : decode cX5_liesOn 11 = .ok (.ifCond .eq 62, 3) := by decide +kernel
theorem dX5_liesOn_14 : decode cX5_liesOn 14 = .ok (.aload_n 0, 1) := by decide +kernel
theorem dX5_liesOn_15 : decode cX5_liesOn 15 = .ok (.getfield 47, 3) := by decide +kernel
theorem dX5_liesOn_18 : decode cX5_liesOn 18 = .ok (.aload_n 1, 1) := by decide +kernel
theorem dX5_liesOn_19 : decode cX5_liesOn 19 = .ok (.getfield 50, 3) := by decide +kernel
theorem dX5_liesOn_22 : decode cX5_liesOn 22 = .ok (.if_icmp .lt 51, 3) := by decide +kernel
theorem dX5_liesOn_25 : decode cX5_liesOn 25 = .ok (.aload_n 0, 1) := by decide +kernel
theorem dX5_liesOn_26 : decode cX5_liesOn 26 = .ok (.getfield 35, 3) := by decide +kernel
theorem dX5_liesOn_29 : decode cX5_liesOn 29 = .ok (.aload_n 1, 1) := by decide +kernel
theorem dX5_liesOn_30 : decode cX5_liesOn 30 = .ok (.getfield 41, 3) := by decide +kernel
theorem dX5_liesOn_33 : decode cX5_liesOn 33 = .ok (.if_icmp .ge 40, 3) := by decide +kernel
theorem dX5_liesOn_36 : decode cX5_liesOn 36 = .ok (.aload_n 1, 1) := by decide +kernel
theorem dX5_liesOn_37 : decode cX5_liesOn 37 = .ok (.getfield 35, 3) := by decide +kernel
theorem dX5_liesOn_40 : decode cX5_liesOn 40 = .ok (.aload_n 0, 1) := by decide +kernel
theorem dX5_liesOn_41 : decode cX5_liesOn 41 = .ok (.getfield 41, 3) := by decide +kernel
theorem dX5_liesOn_44 : decode cX5_liesOn 44 = .ok (.if_icmp .ge 29, 3) := by decide +kernel
theorem dX5_liesOn_47 : decode cX5_liesOn 47 = .ok (.aload_n 0, 1) := by decide +kernel
theorem dX5_liesOn_48 : decode cX5_liesOn 48 = .ok (.getfield 38, 3) := by decide +kernel
theorem dX5_liesOn_51 : decode cX5_liesOn 51 = .ok (.aload_n 1, 1) := by decide +kernel
theorem dX5_liesOn_52 : decode cX5_liesOn 52 = .ok (.getfield 44, 3) := by decide +kernel
theorem dX5_liesOn_55 : decode cX5_liesOn 55 = .ok (.if_icmp .ge 18, 3) := by decide +kernel
theorem dX5_liesOn_58 : decode cX5_liesOn 58 = .ok (.aload_n 1, 1) := by decide +kernel
theorem dX5_liesOn_59 : decode cX5_liesOn 59 = .ok (.getfield 38, 3) := by decide +kernel
theorem dX5_liesOn_62 : decode cX5_liesOn 62 = .ok (.aload_n 0, 1) := by decide +kernel
theorem dX5_liesOn_63 : decode cX5_liesOn 63 = .ok (.getfield 44, 3) := by decide +kernel
theorem dX5_liesOn_66 : decode cX5_liesOn 66 = .ok (.if_icmp .ge 7, 3) := by decide +kernel
theorem dX5_liesOn_69 : decode cX5_liesOn 69 = .ok (.iconst 1, 1) := by decide +kernel
theorem dX5_liesOn_70 : decode cX5_liesOn 70 = .ok (.goto 4, 3) := by decide +kernel
theorem dX5_liesOn_73 : decode cX5_liesOn 73 = .ok (.iconst 0, 1) := by decide +kernel
theorem dX5_liesOn_74 : decode cX5_liesOn 74 = .ok (.ireturn, 1) := by decide +kernel
theorem dX5_property_0 : decode cX5_property 0 = .ok (.iload_n 1, 1) := by decide +kernel
theorem dX5_property_1 : decode cX5_property 1 = .ok (.tableswitch 77 0 5 #[39, 44, 49, 54, 59, 64], 39) := by decide +kernel
theorem dX5_property_40 : decode cX5_property 40 = .ok (.aload_n 0, 1) := by decide +kernel
theorem dX5_property_41 : decode cX5_property 41 = .ok (.getfield 7, 3) := by decide +kernel
theorem dX5_property_44 : decode cX5_property 44 = .ok (.ireturn, 1) := by decide +kernel
theorem dX5_property_45 : decode cX5_property 45 = .ok (.aload_n 0, 1) := by decide +kernel
theorem dX5_property_46 : decode cX5_property 46 = .ok (.getfield 13, 3) := by decide +kernel
theorem dX5_property_49 : decode cX5_property 49 = .ok (.ireturn, 1) := by decide +kernel
theorem dX5_property_50 : decode cX5_property 50 = .ok (.aload_n 0, 1) := by decide +kernel
theorem dX5_property_51 : decode cX5_property 51 = .ok (.getfield 16, 3) := by decide +kernel
theorem dX5_property_54 : decode cX5_property 54 = .ok (.ireturn, 1) := by decide +kernel
theorem dX5_property_55 : decode cX5_property 55 = .ok (.aload_n 0, 1) := by decide +kernel
theorem dX5_property_56 : decode cX5_property 56 = .ok (.getfield 19, 3) := by decide +kernel
theorem dX5_property_59 : decode cX5_property 59 = .ok (.ireturn, 1) := by decide +kernel
theorem dX5_property_60 : decode cX5_property 60 = .ok (.aload_n 0, 1) := by decide +kernel
theorem dX5_property_61 : decode cX5_property 61 = .ok (.getfield 22, 3) := by decide +kernel
theorem dX5_property_64 : decode cX5_property 64 = .ok (.ireturn, 1) := by decide +kernel
theorem dX5_property_65 : decode cX5_property 65 = .ok (.aload_n 0, 1) := by decide +kernel
theorem dX5_property_66 : decode cX5_property 66 = .ok (.getfield 28, 3) := by decide +kernel
theorem dX5_property_69 : decode cX5_property 69 = .ok (.ifCond .eq 7, 3) := by decide +kernel
theorem dX5_property_72 : decode cX5_property 72 = .ok (.iconst 1, 1) := by decide +kernel
theorem dX5_property_73 : decode cX5_property 73 = .ok (.goto 4, 3) := by decide +kernel
theorem dX5_property_76 : decode cX5_property 76 = .ok (.iconst 0, 1) := by decide +kernel
theorem dX5_property_77 : decode cX5_property 77 = .ok (.ireturn, 1) := by decide +kernel
theorem dX5_property_78 : decode cX5_property 78 = .ok (.aload_n 0, 1) := by decide +kernel
theorem dX5_property_79 : decode cX5_property 79 = .ok (.getfield 32, 3) := by decide +kernel
theorem dX5_property_82 : decode cX5_property 82 = .ok (.ifCond .eq 7, 3) := by decide +kernel
theorem dX5_property_85 : decode cX5_property 85 = .ok (.iconst 1, 1) := by decide +kernel
theorem dX5_property_86 : decode cX5_property 86 = .ok (.goto 4, 3) := by decide +kernel
theorem dX5_property_89 : decode cX5_property 89 = .ok (.iconst 0, 1) := by decide +kernel
theorem dX5_property_90 : decode cX5_property 90 = .ok (.ireturn, 1) := by decide +kernel
theorem dX6_init_0 : decode cX6_init 0 = .ok (.aload_n 0, 1) := by decide +kernel
theorem dX6_init_1 : decode cX6_init 1 = .ok (.invokespecial 1, 3) := by decide +kernel
theorem dX6_init_4 : decode cX6_init 4 = .ok (.aload_n 0, 1) := by decide +kernel
theorem dX6_init_5 : decode cX6_init 5 = .ok (.new 7, 3) := by decide +kernel
theorem dX6_init_8 : decode cX6_init 8 = .ok (.dup, 1) := by decide +kernel
theorem dX6_init_9 : decode cX6_init 9 = .ok (.invokespecial 9, 3) := by decide +kernel
theorem dX6_init_12 : decode cX6_init 12 = .ok (.putfield 10, 3) := by decide +kernel
theorem dX6_init_15 : decode cX6_init 15 = .ok (.aload_n 0, 1) := by decide +kernel
theorem dX6_init_16 : decode cX6_init 16 = .ok (.new 16, 3) := by decide +kernel
theorem dX6_init_19 : decode cX6_init 19 = .ok (.dup, 1) := by decide +kernel
theorem dX6_init_20 : decode cX6_init 20 = .ok (.invokespecial 18, 3) := by decide +kernel
theorem dX6_init_23 : decode cX6_init 23 = .ok (.putfield 19, 3) := by decide +kernel
theorem dX6_init_26 : decode cX6_init 26 = .ok (.aload_n 0, 1) := by decide +kernel
theorem dX6_init_27 : decode cX6_init 27 = .ok (.new 23, 3) := by decide +kernel
theorem dX6_init_30 : decode cX6_init 30 = .ok (.dup, 1) := by decide +kernel
theorem dX6_init_31 : decode cX6_init 31 = .ok (.invokespecial 25, 3) := by decide +kernel
theorem dX6_init_34 : decode cX6_init 34 = .ok (.putfield 26, 3) := by decide +kernel
theorem dX6_init_37 : decode cX6_init 37 = .ok (.aload_n 0, 1) := by decide +kernel
theorem dX6_init_38 : decode cX6_init 38 = .ok (.new 30, 3) := by decide +kernel
theorem dX6_init_41 : decode cX6_init 41 = .ok (.dup, 1) := by decide +kernel
theorem dX6_init_42 : decode cX6_init 42 = .ok (.invokespecial 32, 3) := by decide +kernel
theorem dX6_init_45 : decode cX6_init 45 = .ok (.putfield 33, 3) := by decide +kernel
theorem dX6_init_48 : decode cX6_init 48 = .ok (.aload_n 0, 1) := by decide +kernel
theorem dX6_init_49 : decode cX6_init 49 = .ok (.new 37, 3) := by decide +kernel
theorem dX6_init_52 : decode cX6_init 52 = .ok (.dup, 1) := by decide +kernel
theorem dX6_init_53 : decode cX6_init 53 = .ok (.invokespecial 39, 3) := by decide +kernel
theorem dX6_init_56 : decode cX6_init 56 = .ok (.putfield 40, 3) := by decide +kernel
theorem dX6_init_59 : decode cX6_init 59 = .ok (.return_, 1) := by decide +kernel
theorem dX6_setBox_0 : decode cX6_setBox 0 = .ok (.iload_n 1, 1) := by decide +kernel
theorem dX6_setBox_1 : decode cX6_setBox 1 = .ok (.iconst 2, 1) := by decide +kernel
theorem dX6_setBox_2 : decode cX6_setBox 2 = .ok (.bipush 10, 2) := by decide +kernel
theorem dX6_setBox_4 : decode cX6_setBox 4 = .ok (.invokestatic 44, 3) := by decide +kernel
theorem dX6_setBox_7 : decode cX6_setBox 7 = .ok (.ifCond .eq 23, 3) := by decide +kernel
theorem dX6_setBox_10 : decode cX6_setBox 10 = .ok (.iload_n 2, 1) := by decide +kernel
theorem dX6_setBox_11 : decode cX6_setBox 11 = .ok (.iconst 2, 1) := by decide +kernel
theorem dX6_setBox_12 : decode cX6_setBox 12 = .ok (.bipush 10, 2) := by decide +kernel
theorem dX6_setBox_14 : decode cX6_setBox 14 = .ok (.invokestatic 44, 3) := by decide +kernel
theorem dX6_setBox_17 : decode cX6_setBox 17 = .ok (.ifCond .eq 13, 3) := by decide +kernel
theorem dX6_setBox_20 : decode cX6_setBox 20 = .ok (.iload_n 3, 1) := by decide +kernel
theorem dX6_setBox_21 : decode cX6_setBox 21 = .ok (.iconst 1, 1) := by decide +kernel
theorem dX6_setBox_22 : decode cX6_setBox 22 = .ok (.bipush 30, 2) := by decide +kernel
theorem dX6_setBox_24 : decode cX6_setBox 24 = .ok (.invokestatic 44, 3) := by decide +kernel
theorem dX6_setBox_27 : decode cX6_setBox 27 = .ok (.ifCond .ne 5, 3) := by decide +kernel
theorem dX6_setBox_30 : decode cX6_setBox 30 = .ok (.iconst (-1), 1) := by decide +kernel
theorem dX6_setBox_31 : decode cX6_setBox 31 = .ok (.ireturn, 1) := by decide +kernel
theorem dX6_setBox_32 : decode cX6_setBox 32 = .ok (.aload_n 0, 1) := by decide +kernel
theorem dX6_setBox_33 : decode cX6_setBox 33 = .ok (.getfield 10, 3) := by decide +kernel
theorem dX6_setBox_36 : decode cX6_setBox 36 = .ok (.invokevirtual 48, 3) := by decide +kernel
theorem dX6_setBox_39 : decode cX6_setBox 39 = .ok (.invokestatic 52, 3) := by decide +kernel
theorem dX6_setBox_42 : decode cX6_setBox 42 = .ok (.istore 4, 2) := by decide +kernel
theorem dX6_setBox_44 : decode cX6_setBox 44 = .ok (.aload_n 0, 1) := by decide +kernel
theorem dX6_setBox_45 : decode cX6_setBox 45 = .ok (.getfield 19, 3) := by decide +kernel
theorem dX6_setBox_48 : decode cX6_setBox 48 = .ok (.aload_n 0, 1) := by decide +kernel
theorem dX6_setBox_49 : decode cX6_setBox 49 = .ok (.getfield 10, 3) := by decide +kernel
theorem dX6_setBox_52 : decode cX6_setBox 52 = .ok (.invokevirtual 58, 3) := by decide +kernel
theorem dX6_setBox_55 : decode cX6_setBox 55 = .ok (.aload_n 0, 1) := by decide +kernel
theorem dX6_setBox_56 : decode cX6_setBox 56 = .ok (.getfield 10, 3) := by decide +kernel
theorem dX6_setBox_59 : decode cX6_setBox 59 = .ok (.invokevirtual 62, 3) := by decide +kernel
theorem dX6_setBox_62 : decode cX6_setBox 62 = .ok (.aload_n 0, 1) := by decide +kernel
theorem dX6_setBox_63 : decode cX6_setBox 63 = .ok (.getfield 10, 3) := by decide +kernel
theorem dX6_setBox_66 : decode cX6_setBox 66 = .ok (.iload_n 1, 1) := by decide +kernel
theorem dX6_setBox_67 : decode cX6_setBox 67 = .ok (.putfield 65, 3) := by decide +kernel
theorem dX6_setBox_70 : decode cX6_setBox 70 = .ok (.aload_n 0, 1) := by decide +kernel
theorem dX6_setBox_71 : decode cX6_setBox 71 = .ok (.getfield 10, 3) := by decide +kernel
theorem dX6_setBox_74 : decode cX6_setBox 74 = .ok (.iload_n 2, 1) := by decide +kernel
theorem dX6_setBox_75 : decode cX6_setBox 75 = .ok (.putfield 69, 3) := by decide +kernel
theorem dX6_setBox_78 : decode cX6_setBox 78 = .ok (.aload_n 0, 1) := by decide +kernel
theorem dX6_setBox_79 : decode cX6_setBox 79 = .ok (.getfield 10, 3) := by decide +kernel
theorem dX6_setBox_82 : decode cX6_setBox 82 = .ok (.iload_n 3, 1) := by decide +kernel
theorem dX6_setBox_83 : decode cX6_setBox 83 = .ok (.putfield 72, 3) := by decide +kernel
theorem dX6_setBox_86 : decode cX6_setBox 86 = .ok (.iload 4, 2) := by decide +kernel
theorem dX6_setBox_88 : decode cX6_setBox 88 = .ok (.ireturn, 1) := by decide +kernel
theorem dX6_setShare_0 : decode cX6_setShare 0 = .ok (.iload_n 1, 1) := by decide +kernel
theorem dX6_setShare_1 : decode cX6_setShare 1 = .ok (.iconst 0, 1) := by decide +kernel
theorem dX6_setShare_2 : decode cX6_setShare 2 = .ok (.bipush 100, 2) := by decide +kernel
theorem dX6_setShare_4 : decode cX6_setShare 4 = .ok (.invokestatic 44, 3) := by decide +kernel
theorem dX6_setShare_7 : decode cX6_setShare 7 = .ok (.ifCond .ne 5, 3) := by decide +kernel
theorem dX6_setShare_10 : decode cX6_setShare 10 = .ok (.iconst (-1), 1) := by decide +kernel
theorem dX6_setShare_11 : decode cX6_setShare 11 = .ok (.ireturn, 1) := by decide +kernel
theorem dX6_setShare_12 : decode cX6_setShare 12 = .ok (.aload_n 0, 1) := by decide +kernel
theorem dX6_setShare_13 : decode cX6_setShare 13 = .ok (.getfield 10, 3) := by decide +kernel
theorem dX6_setShare_16 : decode cX6_setShare 16 = .ok (.getfield 75, 3) := by decide +kernel
theorem dX6_setShare_19 : decode cX6_setShare 19 = .ok (.istore_n 2, 1) := by decide +kernel
theorem dX6_setShare_20 : decode cX6_setShare 20 = .ok (.aload_n 0, 1) := by decide +kernel
theorem dX6_setShare_21 : decode cX6_setShare 21 = .ok (.getfield 19, 3) := by decide +kernel
theorem dX6_setShare_24 : decode cX6_setShare 24 = .ok (.aload_n 0, 1) := by decide +kernel
theorem dX6_setShare_25 : decode cX6_setShare 25 = .ok (.getfield 10, 3) := by decide +kernel
theorem dX6_setShare_28 : decode cX6_setShare 28 = .ok (.invokevirtual 58, 3) := by decide +kernel
theorem dX6_setShare_31 : decode cX6_setShare 31 = .ok (.aload_n 0, 1) := by decide +kernel
theorem dX6_setShare_32 : decode cX6_setShare 32 = .ok (.getfield 10, 3) := by decide +kernel
theorem dX6_setShare_35 : decode cX6_setShare 35 = .ok (.iload_n 1, 1) := by decide +kernel
theorem dX6_setShare_36 : decode cX6_setShare 36 = .ok (.putfield 75, 3) := by decide +kernel
theorem dX6_setShare_39 : decode cX6_setShare 39 = .ok (.iload_n 2, 1) := by decide +kernel
theorem dX6_setShare_40 : decode cX6_setShare 40 = .ok (.ireturn, 1) := by decide +kernel
theorem dX6_type_0 : decode cX6_type 0 = .ok (.iload_n 1, 1) := by decide +kernel
theorem dX6_type_1 : decode cX6_type 1 = .ok (.bipush 32, 2) := by decide +kernel
theorem dX6_type_3 : decode cX6_type 3 = .ok (.bipush 126, 2) := by decide +kernel
theorem dX6_type_5 : decode cX6_type 5 = .ok (.invokestatic 44, 3) := by decide +kernel
theorem dX6_type_8 : decode cX6_type 8 = .ok (.ifCond .ne 5, 3) := by decide +kernel
theorem dX6_type_11 : decode cX6_type 11 = .ok (.iconst (-1), 1) := by decide +kernel
theorem dX6_type_12 : decode cX6_type 12 = .ok (.ireturn, 1) := by decide +kernel
theorem dX6_type_13 : decode cX6_type 13 = .ok (.aload_n 0, 1) := by decide +kernel
theorem dX6_type_14 : decode cX6_type 14 = .ok (.getfield 26, 3) := by decide +kernel
theorem dX6_type_17 : decode cX6_type 17 = .ok (.getfield 78, 3) := by decide +kernel
theorem dX6_type_20 : decode cX6_type 20 = .ok (.bipush 100, 2) := by decide +kernel
theorem dX6_type_22 : decode cX6_type 22 = .ok (.if_icmp .lt 6, 3) := by decide +kernel
theorem dX6_type_25 : decode cX6_type 25 = .ok (.bipush (-3), 2) := by decide +kernel
theorem dX6_type_27 : decode cX6_type 27 = .ok (.ireturn, 1) := by decide +kernel
theorem dX6_type_28 : decode cX6_type 28 = .ok (.aload_n 0, 1) := by decide +kernel
theorem dX6_type_29 : decode cX6_type 29 = .ok (.getfield 26, 3) := by decide +kernel
theorem dX6_type_32 : decode cX6_type 32 = .ok (.iload_n 1, 1) := by decide +kernel
theorem dX6_type_33 : decode cX6_type 33 = .ok (.i2c, 1) := by decide +kernel
theorem dX6_type_34 : decode cX6_type 34 = .ok (.invokevirtual 79, 3) := by decide +kernel
theorem dX6_type_37 : decode cX6_type 37 = .ok (.aload_n 0, 1) := by decide +kernel
theorem dX6_type_38 : decode cX6_type 38 = .ok (.getfield 26, 3) := by decide +kernel
theorem dX6_type_41 : decode cX6_type 41 = .ok (.getfield 78, 3) := by decide +kernel
theorem dX6_type_44 : decode cX6_type 44 = .ok (.ireturn, 1) := by decide +kernel
theorem dX6_clearText_0 : decode cX6_clearText 0 = .ok (.aload_n 0, 1) := by decide +kernel
theorem dX6_clearText_1 : decode cX6_clearText 1 = .ok (.getfield 26, 3) := by decide +kernel
theorem dX6_clearText_4 : decode cX6_clearText 4 = .ok (.getfield 78, 3) := by decide +kernel
theorem dX6_clearText_7 : decode cX6_clearText 7 = .ok (.istore_n 1, 1) := by decide +kernel
theorem dX6_clearText_8 : decode cX6_clearText 8 = .ok (.aload_n 0, 1) := by decide +kernel
theorem dX6_clearText_9 : decode cX6_clearText 9 = .ok (.getfield 26, 3) := by decide +kernel
theorem dX6_clearText_12 : decode cX6_clearText 12 = .ok (.iconst 0, 1) := by decide +kernel
theorem dX6_clearText_13 : decode cX6_clearText 13 = .ok (.putfield 78, 3) := by decide +kernel
theorem dX6_clearText_16 : decode cX6_clearText 16 = .ok (.iload_n 1, 1) := by decide +kernel
theorem dX6_clearText_17 : decode cX6_clearText 17 = .ok (.ireturn, 1) := by decide +kernel
theorem dX6_load_0 : decode cX6_load 0 = .ok (.aload_n 0, 1) := by decide +kernel
theorem dX6_load_1 : decode cX6_load 1 = .ok (.getfield 26, 3) := by decide +kernel
theorem dX6_load_4 : decode cX6_load 4 = .ok (.invokevirtual 83, 3) := by decide +kernel
theorem dX6_load_7 : decode cX6_load 7 = .ok (.istore_n 1, 1) := by decide +kernel
theorem dX6_load_8 : decode cX6_load 8 = .ok (.iload_n 1, 1) := by decide +kernel
theorem dX6_load_9 : decode cX6_load 9 = .ok (.ifCond .lt 28, 3) := by decide +kernel
theorem dX6_load_12 : decode cX6_load 12 = .ok (.aload_n 0, 1) := by decide +kernel
theorem dX6_load_13 : decode cX6_load 13 = .ok (.getfield 19, 3) := by decide +kernel
theorem dX6_load_16 : decode cX6_load 16 = .ok (.aload_n 0, 1) := by decide +kernel
theorem dX6_load_17 : decode cX6_load 17 = .ok (.getfield 10, 3) := by decide +kernel
theorem dX6_load_20 : decode cX6_load 20 = .ok (.invokevirtual 58, 3) := by decide +kernel
theorem dX6_load_23 : decode cX6_load 23 = .ok (.aload_n 0, 1) := by decide +kernel
theorem dX6_load_24 : decode cX6_load 24 = .ok (.getfield 10, 3) := by decide +kernel
theorem dX6_load_27 : decode cX6_load 27 = .ok (.aload_n 0, 1) := by decide +kernel
theorem dX6_load_28 : decode cX6_load 28 = .ok (.getfield 26, 3) := by decide +kernel
theorem dX6_load_31 : decode cX6_load 31 = .ok (.getfield 86, 3) := by decide +kernel
theorem dX6_load_34 : decode cX6_load 34 = .ok (.invokevirtual 89, 3) := by decide +kernel
theorem dX6_load_37 : decode cX6_load 37 = .ok (.iload_n 1, 1) := by decide +kernel
theorem dX6_load_38 : decode cX6_load 38 = .ok (.ireturn, 1) := by decide +kernel
theorem dX6_faultKind_0 : decode cX6_faultKind 0 = .ok (.aload_n 0, 1) := by decide +kernel
theorem dX6_faultKind_1 : decode cX6_faultKind 1 = .ok (.getfield 26, 3) := by decide +kernel
theorem dX6_faultKind_4 : decode cX6_faultKind 4 = .ok (.getfield 92, 3) := by decide +kernel
theorem dX6_faultKind_7 : decode cX6_faultKind 7 = .ok (.ireturn, 1) := by decide +kernel
theorem dX6_add_0 : decode cX6_add 0 = .ok (.iload_n 1, 1) := by decide +kernel
theorem dX6_add_1 : decode cX6_add 1 = .ok (.iconst 1, 1) := by decide +kernel
theorem dX6_add_2 : decode cX6_add 2 = .ok (.bipush 10, 2) := by decide +kernel
theorem dX6_add_4 : decode cX6_add 4 = .ok (.invokestatic 44, 3) := by decide +kernel
theorem dX6_add_7 : decode cX6_add 7 = .ok (.ifCond .eq 34, 3) := by decide +kernel
theorem dX6_add_10 : decode cX6_add 10 = .ok (.iload_n 2, 1) := by decide +kernel
theorem dX6_add_11 : decode cX6_add 11 = .ok (.iconst 1, 1) := by decide +kernel
theorem dX6_add_12 : decode cX6_add 12 = .ok (.bipush 10, 2) := by decide +kernel
theorem dX6_add_14 : decode cX6_add 14 = .ok (.invokestatic 44, 3) := by decide +kernel
theorem dX6_add_17 : decode cX6_add 17 = .ok (.ifCond .eq 24, 3) := by decide +kernel
theorem dX6_add_20 : decode cX6_add 20 = .ok (.iload_n 3, 1) := by decide +kernel
theorem dX6_add_21 : decode cX6_add 21 = .ok (.iconst 1, 1) := by decide +kernel
theorem dX6_add_22 : decode cX6_add 22 = .ok (.bipush 9, 2) := by decide +kernel
theorem dX6_add_24 : decode cX6_add 24 = .ok (.invokestatic 44, 3) := by decide +kernel
theorem dX6_add_27 : decode cX6_add 27 = .ok (.ifCond .eq 14, 3) := by decide +kernel
theorem dX6_add_30 : decode cX6_add 30 = .ok (.iload 4, 2) := by decide +kernel
theorem dX6_add_32 : decode cX6_add 32 = .ok (.iconst 0, 1) := by decide +kernel
theorem dX6_add_33 : decode cX6_add 33 = .ok (.bipush 9, 2) := by decide +kernel
theorem dX6_add_35 : decode cX6_add 35 = .ok (.invokestatic 44, 3) := by decide +kernel
theorem dX6_add_38 : decode cX6_add 38 = .ok (.ifCond .ne 5, 3) := by decide +kernel
theorem dX6_add_41 : decode cX6_add 41 = .ok (.iconst (-1), 1) := by decide +kernel
theorem dX6_add_42 : decode cX6_add 42 = .ok (.ireturn, 1) := by decide +kernel
theorem dX6_add_43 : decode cX6_add 43 = .ok (.aload_n 0, 1) := by decide +kernel
theorem dX6_add_44 : decode cX6_add 44 = .ok (.getfield 10, 3) := by decide +kernel
theorem dX6_add_47 : decode cX6_add 47 = .ok (.getfield 95, 3) := by decide +kernel
theorem dX6_add_50 : decode cX6_add 50 = .ok (.bipush 12, 2) := by decide +kernel
theorem dX6_add_52 : decode cX6_add 52 = .ok (.if_icmp .lt 6, 3) := by decide +kernel
theorem dX6_add_55 : decode cX6_add 55 = .ok (.bipush (-3), 2) := by decide +kernel
theorem dX6_add_57 : decode cX6_add 57 = .ok (.ireturn, 1) := by decide +kernel
theorem dX6_add_58 : decode cX6_add 58 = .ok (.aload_n 0, 1) := by decide +kernel
theorem dX6_add_59 : decode cX6_add 59 = .ok (.getfield 19, 3) := by decide +kernel
theorem dX6_add_62 : decode cX6_add 62 = .ok (.aload_n 0, 1) := by decide +kernel
theorem dX6_add_63 : decode cX6_add 63 = .ok (.getfield 10, 3) := by decide +kernel
theorem dX6_add_66 : decode cX6_add 66 = .ok (.invokevirtual 58, 3) := by decide +kernel
theorem dX6_add_69 : decode cX6_add 69 = .ok (.aload_n 0, 1) := by decide +kernel
theorem dX6_add_70 : decode cX6_add 70 = .ok (.getfield 10, 3) := by decide +kernel
theorem dX6_add_73 : decode cX6_add 73 = .ok (.getfield 98, 3) := by decide +kernel
theorem dX6_add_76 : decode cX6_add 76 = .ok (.aload_n 0, 1) := by decide +kernel
theorem dX6_add_77 : decode cX6_add 77 = .ok (.getfield 10, 3) := by decide +kernel
theorem dX6_add_80 : decode cX6_add 80 = .ok (.getfield 95, 3) := by decide +kernel
theorem dX6_add_83 : decode cX6_add 83 = .ok (.aaload, 1) := by decide +kernel
theorem dX6_add_84 : decode cX6_add 84 = .ok (.iload_n 1, 1) := by decide +kernel
theorem dX6_add_85 : decode cX6_add 85 = .ok (.iload_n 2, 1) := by decide +kernel
theorem dX6_add_86 : decode cX6_add 86 = .ok (.iload_n 3, 1) := by decide +kernel
theorem dX6_add_87 : decode cX6_add 87 = .ok (.iload 4, 2) := by decide +kernel
theorem dX6_add_89 : decode cX6_add 89 = .ok (.invokevirtual 102, 3) := by decide +kernel
theorem dX6_add_92 : decode cX6_add 92 = .ok (.aload_n 0, 1) := by decide +kernel
theorem dX6_add_93 : decode cX6_add 93 = .ok (.getfield 10, 3) := by decide +kernel
theorem dX6_add_96 : decode cX6_add 96 = .ok (.dup, 1) := by decide +kernel
theorem dX6_add_97 : decode cX6_add 97 = .ok (.getfield 95, 3) := by decide +kernel
theorem dX6_add_100 : decode cX6_add 100 = .ok (.iconst 1, 1) := by decide +kernel
theorem dX6_add_101 : decode cX6_add 101 = .ok (.iadd, 1) := by decide +kernel
theorem dX6_add_102 : decode cX6_add 102 = .ok (.putfield 95, 3) := by decide +kernel
theorem dX6_add_105 : decode cX6_add 105 = .ok (.aload_n 0, 1) := by decide +kernel
theorem dX6_add_106 : decode cX6_add 106 = .ok (.getfield 10, 3) := by decide +kernel
theorem dX6_add_109 : decode cX6_add 109 = .ok (.getfield 95, 3) := by decide +kernel
theorem dX6_add_112 : decode cX6_add 112 = .ok (.iconst 1, 1) := by decide +kernel
theorem dX6_add_113 : decode cX6_add 113 = .ok (.isub, 1) := by decide +kernel
theorem dX6_add_114 : decode cX6_add 114 = .ok (.ireturn, 1) := by decide +kernel
theorem dX6_drop_0 : decode cX6_drop 0 = .ok (.aload_n 0, 1) := by decide +kernel
theorem dX6_drop_1 : decode cX6_drop 1 = .ok (.getfield 10, 3) := by decide +kernel
theorem dX6_drop_4 : decode cX6_drop 4 = .ok (.iload_n 1, 1) := by decide +kernel
theorem dX6_drop_5 : decode cX6_drop 5 = .ok (.invokevirtual 108, 3) := by decide +kernel
theorem dX6_drop_8 : decode cX6_drop 8 = .ok (.ifCond .ne 5, 3) := by decide +kernel
theorem dX6_drop_11 : decode cX6_drop 11 = .ok (.iconst (-1), 1) := by decide +kernel
theorem dX6_drop_12 : decode cX6_drop 12 = .ok (.ireturn, 1) := by decide +kernel
theorem dX6_drop_13 : decode cX6_drop 13 = .ok (.aload_n 0, 1) := by decide +kernel
theorem dX6_drop_14 : decode cX6_drop 14 = .ok (.getfield 10, 3) := by decide +kernel
theorem dX6_drop_17 : decode cX6_drop 17 = .ok (.getfield 98, 3) := by decide +kernel
theorem dX6_drop_20 : decode cX6_drop 20 = .ok (.iload_n 1, 1) := by decide +kernel
theorem dX6_drop_21 : decode cX6_drop 21 = .ok (.aaload, 1) := by decide +kernel
theorem dX6_drop_22 : decode cX6_drop 22 = .ok (.getfield 112, 3) := by decide +kernel
theorem dX6_drop_25 : decode cX6_drop 25 = .ok (.ifCond .eq 6, 3) := by decide +kernel
theorem dX6_drop_28 : decode cX6_drop 28 = .ok (.bipush (-2), 2) := by decide +kernel
theorem dX6_drop_30 : decode cX6_drop 30 = .ok (.ireturn, 1) := by decide +kernel
theorem dX6_drop_31 : decode cX6_drop 31 = .ok (.aload_n 0, 1) := by decide +kernel
theorem dX6_drop_32 : decode cX6_drop 32 = .ok (.getfield 19, 3) := by decide +kernel
theorem dX6_drop_35 : decode cX6_drop 35 = .ok (.aload_n 0, 1) := by decide +kernel
theorem dX6_drop_36 : decode cX6_drop 36 = .ok (.getfield 10, 3) := by decide +kernel
theorem dX6_drop_39 : decode cX6_drop 39 = .ok (.invokevirtual 58, 3) := by decide +kernel
theorem dX6_drop_42 : decode cX6_drop 42 = .ok (.aload_n 0, 1) := by decide +kernel
theorem dX6_drop_43 : decode cX6_drop 43 = .ok (.getfield 10, 3) := by decide +kernel
theorem dX6_drop_46 : decode cX6_drop 46 = .ok (.iload_n 1, 1) := by decide +kernel
theorem dX6_drop_47 : decode cX6_drop 47 = .ok (.invokevirtual 115, 3) := by decide +kernel
theorem dX6_drop_50 : decode cX6_drop 50 = .ok (.aload_n 0, 1) := by decide +kernel
theorem dX6_drop_51 : decode cX6_drop 51 = .ok (.getfield 10, 3) := by decide +kernel
theorem dX6_drop_54 : decode cX6_drop 54 = .ok (.getfield 95, 3) := by decide +kernel
theorem dX6_drop_57 : decode cX6_drop 57 = .ok (.ireturn, 1) := by decide +kernel
theorem dX6_setTray_0 : decode cX6_setTray 0 = .ok (.aload_n 0, 1) := by decide +kernel
theorem dX6_setTray_1 : decode cX6_setTray 1 = .ok (.getfield 10, 3) := by decide +kernel
theorem dX6_setTray_4 : decode cX6_setTray 4 = .ok (.iload_n 1, 1) := by decide +kernel
theorem dX6_setTray_5 : decode cX6_setTray 5 = .ok (.invokevirtual 108, 3) := by decide +kernel
theorem dX6_setTray_8 : decode cX6_setTray 8 = .ok (.ifCond .eq 30, 3) := by decide +kernel
theorem dX6_setTray_11 : decode cX6_setTray 11 = .ok (.iload_n 2, 1) := by decide +kernel
theorem dX6_setTray_12 : decode cX6_setTray 12 = .ok (.iconst 0, 1) := by decide +kernel
theorem dX6_setTray_13 : decode cX6_setTray 13 = .ok (.iconst 1, 1) := by decide +kernel
theorem dX6_setTray_14 : decode cX6_setTray 14 = .ok (.invokestatic 44, 3) := by decide +kernel
theorem dX6_setTray_17 : decode cX6_setTray 17 = .ok (.ifCond .eq 21, 3) := by decide +kernel
theorem dX6_setTray_20 : decode cX6_setTray 20 = .ok (.iload_n 3, 1) := by decide +kernel
theorem dX6_setTray_21 : decode cX6_setTray 21 = .ok (.iconst 0, 1) := by decide +kernel
theorem dX6_setTray_22 : decode cX6_setTray 22 = .ok (.iload_n 2, 1) := by decide +kernel
theorem dX6_setTray_23 : decode cX6_setTray 23 = .ok (.ifCond .ne 8, 3) := by decide +kernel
theorem dX6_setTray_26 : decode cX6_setTray 26 = .ok (.bipush 9, 2) := by decide +kernel
theorem dX6_setTray_28 : decode cX6_setTray 28 = .ok (.goto 4, 3) := by decide +kernel
theorem dX6_setTray_31 : decode cX6_setTray 31 = .ok (.iconst 1, 1) := by decide +kernel
theorem dX6_setTray_32 : decode cX6_setTray 32 = .ok (.invokestatic 44, 3) := by decide +kernel
theorem dX6_setTray_35 : decode cX6_setTray 35 = .ok (.ifCond .ne 5, 3) := by decide +kernel
theorem dX6_setTray_38 : decode cX6_setTray 38 = .ok (.iconst (-1), 1) := by decide +kernel
theorem dX6_setTray_39 : decode cX6_setTray 39 = .ok (.ireturn, 1) := by decide +kernel
theorem dX6_setTray_40 : decode cX6_setTray 40 = .ok (.aload_n 0, 1) := by decide +kernel
theorem dX6_setTray_41 : decode cX6_setTray 41 = .ok (.getfield 10, 3) := by decide +kernel
theorem dX6_setTray_44 : decode cX6_setTray 44 = .ok (.getfield 98, 3) := by decide +kernel
theorem dX6_setTray_47 : decode cX6_setTray 47 = .ok (.iload_n 1, 1) := by decide +kernel
theorem dX6_setTray_48 : decode cX6_setTray 48 = .ok (.aaload, 1) := by decide +kernel
theorem dX6_setTray_49 : decode cX6_setTray 49 = .ok (.astore 4, 2) := by decide +kernel
theorem dX6_setTray_51 : decode cX6_setTray 51 = .ok (.iload_n 2, 1) := by decide +kernel
theorem dX6_setTray_52 : decode cX6_setTray 52 = .ok (.iconst 1, 1) := by decide +kernel
theorem dX6_setTray_53 : decode cX6_setTray 53 = .ok (.if_icmp .ne 14, 3) := by decide +kernel
theorem dX6_setTray_56 : decode cX6_setTray 56 = .ok (.aload 4, 2) := by decide +kernel
theorem dX6_setTray_58 : decode cX6_setTray 58 = .ok (.getfield 112, 3) := by decide +kernel
theorem dX6_setTray_61 : decode cX6_setTray 61 = .ok (.ifCond .eq 6, 3) := by decide +kernel
theorem dX6_setTray_64 : decode cX6_setTray 64 = .ok (.bipush (-2), 2) := by decide +kernel
theorem dX6_setTray_66 : decode cX6_setTray 66 = .ok (.ireturn, 1) := by decide +kernel
theorem dX6_setTray_67 : decode cX6_setTray 67 = .ok (.iload_n 2, 1) := by decide +kernel
theorem dX6_setTray_68 : decode cX6_setTray 68 = .ok (.ifCond .ne 11, 3) := by decide +kernel
theorem dX6_setTray_71 : decode cX6_setTray 71 = .ok (.aload 4, 2) := by decide +kernel
theorem dX6_setTray_73 : decode cX6_setTray 73 = .ok (.getfield 119, 3) := by decide +kernel
theorem dX6_setTray_76 : decode cX6_setTray 76 = .ok (.goto 8, 3) := by decide +kernel
theorem dX6_setTray_79 : decode cX6_setTray 79 = .ok (.aload 4, 2) := by decide +kernel
theorem dX6_setTray_81 : decode cX6_setTray 81 = .ok (.getfield 122, 3) := by decide +kernel
theorem dX6_setTray_84 : decode cX6_setTray 84 = .ok (.istore 5, 2) := by decide +kernel
theorem dX6_setTray_86 : decode cX6_setTray 86 = .ok (.aload_n 0, 1) := by decide +kernel
theorem dX6_setTray_87 : decode cX6_setTray 87 = .ok (.getfield 19, 3) := by decide +kernel
theorem dX6_setTray_90 : decode cX6_setTray 90 = .ok (.aload_n 0, 1) := by decide +kernel
theorem dX6_setTray_91 : decode cX6_setTray 91 = .ok (.getfield 10, 3) := by decide +kernel
theorem dX6_setTray_94 : decode cX6_setTray 94 = .ok (.invokevirtual 58, 3) := by decide +kernel
theorem dX6_setTray_97 : decode cX6_setTray 97 = .ok (.iload_n 2, 1) := by decide +kernel
theorem dX6_setTray_98 : decode cX6_setTray 98 = .ok (.ifCond .ne 12, 3) := by decide +kernel
theorem dX6_setTray_101 : decode cX6_setTray 101 = .ok (.aload 4, 2) := by decide +kernel
theorem dX6_setTray_103 : decode cX6_setTray 103 = .ok (.iload_n 3, 1) := by decide +kernel
theorem dX6_setTray_104 : decode cX6_setTray 104 = .ok (.putfield 119, 3) := by decide +kernel
theorem dX6_setTray_107 : decode cX6_setTray 107 = .ok (.goto 9, 3) := by decide +kernel
theorem dX6_setTray_110 : decode cX6_setTray 110 = .ok (.aload 4, 2) := by decide +kernel
theorem dX6_setTray_112 : decode cX6_setTray 112 = .ok (.iload_n 3, 1) := by decide +kernel
theorem dX6_setTray_113 : decode cX6_setTray 113 = .ok (.putfield 122, 3) := by decide +kernel
theorem dX6_setTray_116 : decode cX6_setTray 116 = .ok (.iload 5, 2) := by decide +kernel
theorem dX6_setTray_118 : decode cX6_setTray 118 = .ok (.ireturn, 1) := by decide +kernel
theorem dX6_letDown_0 : decode cX6_letDown 0 = .ok (.aload_n 0, 1) := by decide +kernel
theorem dX6_letDown_1 : decode cX6_letDown 1 = .ok (.getfield 10, 3) := by decide +kernel
theorem dX6_letDown_4 : decode cX6_letDown 4 = .ok (.iload_n 1, 1) := by decide +kernel
theorem dX6_letDown_5 : decode cX6_letDown 5 = .ok (.invokevirtual 108, 3) := by decide +kernel
theorem dX6_letDown_8 : decode cX6_letDown 8 = .ok (.ifCond .eq 26, 3) := by decide +kernel
theorem dX6_letDown_11 : decode cX6_letDown 11 = .ok (.aload_n 0, 1) := by decide +kernel
theorem dX6_letDown_12 : decode cX6_letDown 12 = .ok (.getfield 10, 3) := by decide +kernel
theorem dX6_letDown_15 : decode cX6_letDown 15 = .ok (.aload_n 0, 1) := by decide +kernel
theorem dX6_letDown_16 : decode cX6_letDown 16 = .ok (.getfield 10, 3) := by decide +kernel
theorem dX6_letDown_19 : decode cX6_letDown 19 = .ok (.getfield 98, 3) := by decide +kernel
theorem dX6_letDown_22 : decode cX6_letDown 22 = .ok (.iload_n 1, 1) := by decide +kernel
theorem dX6_letDown_23 : decode cX6_letDown 23 = .ok (.aaload, 1) := by decide +kernel
theorem dX6_letDown_24 : decode cX6_letDown 24 = .ok (.iload_n 2, 1) := by decide +kernel
theorem dX6_letDown_25 : decode cX6_letDown 25 = .ok (.iload_n 3, 1) := by decide +kernel
theorem dX6_letDown_26 : decode cX6_letDown 26 = .ok (.iload 4, 2) := by decide +kernel
theorem dX6_letDown_28 : decode cX6_letDown 28 = .ok (.invokevirtual 125, 3) := by decide +kernel
theorem dX6_letDown_31 : decode cX6_letDown 31 = .ok (.ifCond .ne 5, 3) := by decide +kernel
theorem dX6_letDown_34 : decode cX6_letDown 34 = .ok (.iconst (-1), 1) := by decide +kernel
theorem dX6_letDown_35 : decode cX6_letDown 35 = .ok (.ireturn, 1) := by decide +kernel
theorem dX6_letDown_36 : decode cX6_letDown 36 = .ok (.aload_n 0, 1) := by decide +kernel
theorem dX6_letDown_37 : decode cX6_letDown 37 = .ok (.getfield 10, 3) := by decide +kernel
theorem dX6_letDown_40 : decode cX6_letDown 40 = .ok (.getfield 98, 3) := by decide +kernel
theorem dX6_letDown_43 : decode cX6_letDown 43 = .ok (.iload_n 1, 1) := by decide +kernel
theorem dX6_letDown_44 : decode cX6_letDown 44 = .ok (.aaload, 1) := by decide +kernel
theorem dX6_letDown_45 : decode cX6_letDown 45 = .ok (.astore 5, 2) := by decide +kernel
theorem dX6_letDown_47 : decode cX6_letDown 47 = .ok (.aload 5, 2) := by decide +kernel
theorem dX6_letDown_49 : decode cX6_letDown 49 = .ok (.getfield 112, 3) := by decide +kernel
theorem dX6_letDown_52 : decode cX6_letDown 52 = .ok (.ifCond .eq 6, 3) := by decide +kernel
theorem dX6_letDown_55 : decode cX6_letDown 55 = .ok (.bipush (-2), 2) := by decide +kernel
theorem dX6_letDown_57 : decode cX6_letDown 57 = .ok (.ireturn, 1) := by decide +kernel
theorem dX6_letDown_58 : decode cX6_letDown 58 = .ok (.aload_n 0, 1) := by decide +kernel
theorem dX6_letDown_59 : decode cX6_letDown 59 = .ok (.getfield 33, 3) := by decide +kernel
theorem dX6_letDown_62 : decode cX6_letDown 62 = .ok (.aload_n 0, 1) := by decide +kernel
theorem dX6_letDown_63 : decode cX6_letDown 63 = .ok (.getfield 10, 3) := by decide +kernel
theorem dX6_letDown_66 : decode cX6_letDown 66 = .ok (.invokevirtual 129, 3) := by decide +kernel
theorem dX6_letDown_69 : decode cX6_letDown 69 = .ok (.aload_n 0, 1) := by decide +kernel
theorem dX6_letDown_70 : decode cX6_letDown 70 = .ok (.getfield 33, 3) := by decide +kernel
theorem dX6_letDown_73 : decode cX6_letDown 73 = .ok (.aload_n 0, 1) := by decide +kernel
theorem dX6_letDown_74 : decode cX6_letDown 74 = .ok (.getfield 10, 3) := by decide +kernel
theorem dX6_letDown_77 : decode cX6_letDown 77 = .ok (.aload 5, 2) := by decide +kernel
theorem dX6_letDown_79 : decode cX6_letDown 79 = .ok (.iload_n 2, 1) := by decide +kernel
theorem dX6_letDown_80 : decode cX6_letDown 80 = .ok (.iload_n 3, 1) := by decide +kernel
theorem dX6_letDown_81 : decode cX6_letDown 81 = .ok (.iload 4, 2) := by decide +kernel
theorem dX6_letDown_83 : decode cX6_letDown 83 = .ok (.aload_n 0, 1) := by decide +kernel
theorem dX6_letDown_84 : decode cX6_letDown 84 = .ok (.getfield 10, 3) := by decide +kernel
theorem dX6_letDown_87 : decode cX6_letDown 87 = .ok (.aload 5, 2) := by decide +kernel
theorem dX6_letDown_89 : decode cX6_letDown 89 = .ok (.invokevirtual 132, 3) := by decide +kernel
theorem dX6_letDown_92 : decode cX6_letDown 92 = .ok (.invokevirtual 136, 3) := by decide +kernel
theorem dX6_letDown_95 : decode cX6_letDown 95 = .ok (.ifCond .ne 6, 3) := by decide +kernel
theorem dX6_letDown_98 : decode cX6_letDown 98 = .ok (.bipush (-3), 2) := by decide +kernel
theorem dX6_letDown_100 : decode cX6_letDown 100 = .ok (.ireturn, 1) := by decide +kernel
theorem dX6_letDown_101 : decode cX6_letDown 101 = .ok (.aload_n 0, 1) := by decide +kernel
theorem dX6_letDown_102 : decode cX6_letDown 102 = .ok (.getfield 19, 3) := by decide +kernel
theorem dX6_letDown_105 : decode cX6_letDown 105 = .ok (.aload_n 0, 1) := by decide +kernel
theorem dX6_letDown_106 : decode cX6_letDown 106 = .ok (.getfield 10, 3) := by decide +kernel
theorem dX6_letDown_109 : decode cX6_letDown 109 = .ok (.invokevirtual 58, 3) := by decide +kernel
theorem dX6_letDown_112 : decode cX6_letDown 112 = .ok (.aload 5, 2) := by decide +kernel
theorem dX6_letDown_114 : decode cX6_letDown 114 = .ok (.iload_n 2, 1) := by decide +kernel
theorem dX6_letDown_115 : decode cX6_letDown 115 = .ok (.iload_n 3, 1) := by decide +kernel
theorem dX6_letDown_116 : decode cX6_letDown 116 = .ok (.iload 4, 2) := by decide +kernel
theorem dX6_letDown_118 : decode cX6_letDown 118 = .ok (.aload_n 0, 1) := by decide +kernel
theorem dX6_letDown_119 : decode cX6_letDown 119 = .ok (.getfield 33, 3) := by decide +kernel
theorem dX6_letDown_122 : decode cX6_letDown 122 = .ok (.getfield 140, 3) := by decide +kernel
theorem dX6_letDown_125 : decode cX6_letDown 125 = .ok (.aload_n 0, 1) := by decide +kernel
theorem dX6_letDown_126 : decode cX6_letDown 126 = .ok (.getfield 33, 3) := by decide +kernel
theorem dX6_letDown_129 : decode cX6_letDown 129 = .ok (.getfield 143, 3) := by decide +kernel
theorem dX6_letDown_132 : decode cX6_letDown 132 = .ok (.invokevirtual 146, 3) := by decide +kernel
theorem dX6_letDown_135 : decode cX6_letDown 135 = .ok (.aload 5, 2) := by decide +kernel
theorem dX6_letDown_137 : decode cX6_letDown 137 = .ok (.getfield 150, 3) := by decide +kernel
theorem dX6_letDown_140 : decode cX6_letDown 140 = .ok (.ireturn, 1) := by decide +kernel
theorem dX6_takeOut_0 : decode cX6_takeOut 0 = .ok (.aload_n 0, 1) := by decide +kernel
theorem dX6_takeOut_1 : decode cX6_takeOut 1 = .ok (.getfield 10, 3) := by decide +kernel
theorem dX6_takeOut_4 : decode cX6_takeOut 4 = .ok (.iload_n 1, 1) := by decide +kernel
theorem dX6_takeOut_5 : decode cX6_takeOut 5 = .ok (.invokevirtual 108, 3) := by decide +kernel
theorem dX6_takeOut_8 : decode cX6_takeOut 8 = .ok (.ifCond .ne 5, 3) := by decide +kernel
theorem dX6_takeOut_11 : decode cX6_takeOut 11 = .ok (.iconst (-1), 1) := by decide +kernel
theorem dX6_takeOut_12 : decode cX6_takeOut 12 = .ok (.ireturn, 1) := by decide +kernel
theorem dX6_takeOut_13 : decode cX6_takeOut 13 = .ok (.aload_n 0, 1) := by decide +kernel
theorem dX6_takeOut_14 : decode cX6_takeOut 14 = .ok (.getfield 10, 3) := by decide +kernel
theorem dX6_takeOut_17 : decode cX6_takeOut 17 = .ok (.getfield 98, 3) := by decide +kernel
theorem dX6_takeOut_20 : decode cX6_takeOut 20 = .ok (.iload_n 1, 1) := by decide +kernel
theorem dX6_takeOut_21 : decode cX6_takeOut 21 = .ok (.aaload, 1) := by decide +kernel
theorem dX6_takeOut_22 : decode cX6_takeOut 22 = .ok (.astore_n 2, 1) := by decide +kernel
theorem dX6_takeOut_23 : decode cX6_takeOut 23 = .ok (.aload_n 2, 1) := by decide +kernel
theorem dX6_takeOut_24 : decode cX6_takeOut 24 = .ok (.getfield 112, 3) := by decide +kernel
theorem dX6_takeOut_27 : decode cX6_takeOut 27 = .ok (.ifCond .eq 14, 3) := by decide +kernel
theorem dX6_takeOut_30 : decode cX6_takeOut 30 = .ok (.aload_n 0, 1) := by decide +kernel
theorem dX6_takeOut_31 : decode cX6_takeOut 31 = .ok (.getfield 10, 3) := by decide +kernel
theorem dX6_takeOut_34 : decode cX6_takeOut 34 = .ok (.iload_n 1, 1) := by decide +kernel
theorem dX6_takeOut_35 : decode cX6_takeOut 35 = .ok (.invokevirtual 151, 3) := by decide +kernel
theorem dX6_takeOut_38 : decode cX6_takeOut 38 = .ok (.ifCond .ne 6, 3) := by decide +kernel
theorem dX6_takeOut_41 : decode cX6_takeOut 41 = .ok (.bipush (-2), 2) := by decide +kernel
theorem dX6_takeOut_43 : decode cX6_takeOut 43 = .ok (.ireturn, 1) := by decide +kernel
theorem dX6_takeOut_44 : decode cX6_takeOut 44 = .ok (.aload_n 0, 1) := by decide +kernel
theorem dX6_takeOut_45 : decode cX6_takeOut 45 = .ok (.getfield 19, 3) := by decide +kernel
theorem dX6_takeOut_48 : decode cX6_takeOut 48 = .ok (.aload_n 0, 1) := by decide +kernel
theorem dX6_takeOut_49 : decode cX6_takeOut 49 = .ok (.getfield 10, 3) := by decide +kernel
theorem dX6_takeOut_52 : decode cX6_takeOut 52 = .ok (.invokevirtual 58, 3) := by decide +kernel
theorem dX6_takeOut_55 : decode cX6_takeOut 55 = .ok (.aload_n 2, 1) := by decide +kernel
theorem dX6_takeOut_56 : decode cX6_takeOut 56 = .ok (.invokevirtual 154, 3) := by decide +kernel
theorem dX6_takeOut_59 : decode cX6_takeOut 59 = .ok (.aload_n 2, 1) := by decide +kernel
theorem dX6_takeOut_60 : decode cX6_takeOut 60 = .ok (.getfield 150, 3) := by decide +kernel
theorem dX6_takeOut_63 : decode cX6_takeOut 63 = .ok (.ireturn, 1) := by decide +kernel
theorem dX6_empty_0 : decode cX6_empty 0 = .ok (.aload_n 0, 1) := by decide +kernel
theorem dX6_empty_1 : decode cX6_empty 1 = .ok (.getfield 10, 3) := by decide +kernel
theorem dX6_empty_4 : decode cX6_empty 4 = .ok (.invokevirtual 48, 3) := by decide +kernel
theorem dX6_empty_7 : decode cX6_empty 7 = .ok (.invokestatic 52, 3) := by decide +kernel
theorem dX6_empty_10 : decode cX6_empty 10 = .ok (.istore_n 1, 1) := by decide +kernel
theorem dX6_empty_11 : decode cX6_empty 11 = .ok (.aload_n 0, 1) := by decide +kernel
theorem dX6_empty_12 : decode cX6_empty 12 = .ok (.getfield 19, 3) := by decide +kernel
theorem dX6_empty_15 : decode cX6_empty 15 = .ok (.aload_n 0, 1) := by decide +kernel
theorem dX6_empty_16 : decode cX6_empty 16 = .ok (.getfield 10, 3) := by decide +kernel
theorem dX6_empty_19 : decode cX6_empty 19 = .ok (.invokevirtual 58, 3) := by decide +kernel
theorem dX6_empty_22 : decode cX6_empty 22 = .ok (.aload_n 0, 1) := by decide +kernel
theorem dX6_empty_23 : decode cX6_empty 23 = .ok (.getfield 10, 3) := by decide +kernel
theorem dX6_empty_26 : decode cX6_empty 26 = .ok (.invokevirtual 62, 3) := by decide +kernel
theorem dX6_empty_29 : decode cX6_empty 29 = .ok (.iload_n 1, 1) := by decide +kernel
theorem dX6_empty_30 : decode cX6_empty 30 = .ok (.ireturn, 1) := by decide +kernel
theorem dX6_tray_0 : decode cX6_tray 0 = .ok (.aload_n 0, 1) := by decide +kernel
theorem dX6_tray_1 : decode cX6_tray 1 = .ok (.getfield 10, 3) := by decide +kernel
theorem dX6_tray_4 : decode cX6_tray 4 = .ok (.iload_n 1, 1) := by decide +kernel
theorem dX6_tray_5 : decode cX6_tray 5 = .ok (.invokevirtual 108, 3) := by decide +kernel
theorem dX6_tray_8 : decode cX6_tray 8 = .ok (.ifCond .eq 13, 3) := by decide +kernel
theorem dX6_tray_11 : decode cX6_tray 11 = .ok (.iload_n 2, 1) := by decide +kernel
theorem dX6_tray_12 : decode cX6_tray 12 = .ok (.iconst 0, 1) := by decide +kernel
theorem dX6_tray_13 : decode cX6_tray 13 = .ok (.bipush 15, 2) := by decide +kernel
theorem dX6_tray_15 : decode cX6_tray 15 = .ok (.invokestatic 44, 3) := by decide +kernel
theorem dX6_tray_18 : decode cX6_tray 18 = .ok (.ifCond .ne 5, 3) := by decide +kernel
theorem dX6_tray_21 : decode cX6_tray 21 = .ok (.iconst (-1), 1) := by decide +kernel
theorem dX6_tray_22 : decode cX6_tray 22 = .ok (.ireturn, 1) := by decide +kernel
theorem dX6_tray_23 : decode cX6_tray 23 = .ok (.iload_n 2, 1) := by decide +kernel
theorem dX6_tray_24 : decode cX6_tray 24 = .ok (.bipush 7, 2) := by decide +kernel
theorem dX6_tray_26 : decode cX6_tray 26 = .ok (.if_icmp .ge 17, 3) := by decide +kernel
theorem dX6_tray_29 : decode cX6_tray 29 = .ok (.aload_n 0, 1) := by decide +kernel
theorem dX6_tray_30 : decode cX6_tray 30 = .ok (.getfield 10, 3) := by decide +kernel
theorem dX6_tray_33 : decode cX6_tray 33 = .ok (.getfield 98, 3) := by decide +kernel
theorem dX6_tray_36 : decode cX6_tray 36 = .ok (.iload_n 1, 1) := by decide +kernel
theorem dX6_tray_37 : decode cX6_tray 37 = .ok (.aaload, 1) := by decide +kernel
theorem dX6_tray_38 : decode cX6_tray 38 = .ok (.iload_n 2, 1) := by decide +kernel
theorem dX6_tray_39 : decode cX6_tray 39 = .ok (.invokevirtual 157, 3) := by decide +kernel
theorem dX6_tray_42 : decode cX6_tray 42 = .ok (.ireturn, 1) := by decide +kernel
theorem dX6_tray_43 : decode cX6_tray 43 = .ok (.aload_n 0, 1) := by decide +kernel
theorem dX6_tray_44 : decode cX6_tray 44 = .ok (.getfield 10, 3) := by decide +kernel
theorem dX6_tray_47 : decode cX6_tray 47 = .ok (.getfield 98, 3) := by decide +kernel
theorem dX6_tray_50 : decode cX6_tray 50 = .ok (.iload_n 1, 1) := by decide +kernel
theorem dX6_tray_51 : decode cX6_tray 51 = .ok (.aaload, 1) := by decide +kernel
theorem dX6_tray_52 : decode cX6_tray 52 = .ok (.getfield 112, 3) := by decide +kernel
theorem dX6_tray_55 : decode cX6_tray 55 = .ok (.ifCond .eq 12, 3) := by decide +kernel
theorem dX6_tray_58 : decode cX6_tray 58 = .ok (.aload_n 0, 1) := by decide +kernel
theorem dX6_tray_59 : decode cX6_tray 59 = .ok (.iload_n 1, 1) := by decide +kernel
theorem dX6_tray_60 : decode cX6_tray 60 = .ok (.iload_n 2, 1) := by decide +kernel
theorem dX6_tray_61 : decode cX6_tray 61 = .ok (.invokevirtual 160, 3) := by decide +kernel
theorem dX6_tray_64 : decode cX6_tray 64 = .ok (.goto 5, 3) := by decide +kernel
theorem dX6_tray_67 : decode cX6_tray 67 = .ok (.bipush (-9), 2) := by decide +kernel
theorem dX6_tray_69 : decode cX6_tray 69 = .ok (.ireturn, 1) := by decide +kernel
theorem dX6_seen_0 : decode cX6_seen 0 = .ok (.iload_n 1, 1) := by decide +kernel
theorem dX6_seen_1 : decode cX6_seen 1 = .ok (.iconst 0, 1) := by decide +kernel
theorem dX6_seen_2 : decode cX6_seen 2 = .ok (.aload_n 0, 1) := by decide +kernel
theorem dX6_seen_3 : decode cX6_seen 3 = .ok (.getfield 10, 3) := by decide +kernel
theorem dX6_seen_6 : decode cX6_seen 6 = .ok (.getfield 65, 3) := by decide +kernel
theorem dX6_seen_9 : decode cX6_seen 9 = .ok (.iconst 1, 1) := by decide +kernel
theorem dX6_seen_10 : decode cX6_seen 10 = .ok (.isub, 1) := by decide +kernel
theorem dX6_seen_11 : decode cX6_seen 11 = .ok (.invokestatic 44, 3) := by decide +kernel
theorem dX6_seen_14 : decode cX6_seen 14 = .ok (.ifCond .eq 20, 3) := by decide +kernel
theorem dX6_seen_17 : decode cX6_seen 17 = .ok (.iload_n 2, 1) := by decide +kernel
theorem dX6_seen_18 : decode cX6_seen 18 = .ok (.iconst 0, 1) := by decide +kernel
theorem dX6_seen_19 : decode cX6_seen 19 = .ok (.aload_n 0, 1) := by decide +kernel
theorem dX6_seen_20 : decode cX6_seen 20 = .ok (.getfield 10, 3) := by decide +kernel
theorem dX6_seen_23 : decode cX6_seen 23 = .ok (.getfield 69, 3) := by decide +kernel
theorem dX6_seen_26 : decode cX6_seen 26 = .ok (.iconst 1, 1) := by decide +kernel
theorem dX6_seen_27 : decode cX6_seen 27 = .ok (.isub, 1) := by decide +kernel
theorem dX6_seen_28 : decode cX6_seen 28 = .ok (.invokestatic 44, 3) := by decide +kernel
theorem dX6_seen_31 : decode cX6_seen 31 = .ok (.ifCond .ne 5, 3) := by decide +kernel
theorem dX6_seen_34 : decode cX6_seen 34 = .ok (.iconst (-1), 1) := by decide +kernel
theorem dX6_seen_35 : decode cX6_seen 35 = .ok (.ireturn, 1) := by decide +kernel
theorem dX6_seen_36 : decode cX6_seen 36 = .ok (.aload_n 0, 1) := by decide +kernel
theorem dX6_seen_37 : decode cX6_seen 37 = .ok (.getfield 10, 3) := by decide +kernel
theorem dX6_seen_40 : decode cX6_seen 40 = .ok (.iload_n 1, 1) := by decide +kernel
theorem dX6_seen_41 : decode cX6_seen 41 = .ok (.iload_n 2, 1) := by decide +kernel
theorem dX6_seen_42 : decode cX6_seen 42 = .ok (.invokevirtual 164, 3) := by decide +kernel
theorem dX6_seen_45 : decode cX6_seen 45 = .ok (.istore 4, 2) := by decide +kernel
theorem dX6_seen_47 : decode cX6_seen 47 = .ok (.aload_n 0, 1) := by decide +kernel
theorem dX6_seen_48 : decode cX6_seen 48 = .ok (.getfield 10, 3) := by decide +kernel
theorem dX6_seen_51 : decode cX6_seen 51 = .ok (.iload 4, 2) := by decide +kernel
theorem dX6_seen_53 : decode cX6_seen 53 = .ok (.invokevirtual 108, 3) := by decide +kernel
theorem dX6_seen_56 : decode cX6_seen 56 = .ok (.ifCond .ne 14, 3) := by decide +kernel
theorem dX6_seen_59 : decode cX6_seen 59 = .ok (.iload_n 3, 1) := by decide +kernel
theorem dX6_seen_60 : decode cX6_seen 60 = .ok (.ifCond .eq 7, 3) := by decide +kernel
theorem dX6_seen_63 : decode cX6_seen 63 = .ok (.iconst 0, 1) := by decide +kernel
theorem dX6_seen_64 : decode cX6_seen 64 = .ok (.goto 5, 3) := by decide +kernel
theorem dX6_seen_67 : decode cX6_seen 67 = .ok (.bipush (-9), 2) := by decide +kernel
theorem dX6_seen_69 : decode cX6_seen 69 = .ok (.ireturn, 1) := by decide +kernel
theorem dX6_seen_70 : decode cX6_seen 70 = .ok (.iload_n 3, 1) := by decide +kernel
theorem dX6_seen_71 : decode cX6_seen 71 = .ok (.ifCond .eq 19, 3) := by decide +kernel
theorem dX6_seen_74 : decode cX6_seen 74 = .ok (.aload_n 0, 1) := by decide +kernel
theorem dX6_seen_75 : decode cX6_seen 75 = .ok (.getfield 10, 3) := by decide +kernel
theorem dX6_seen_78 : decode cX6_seen 78 = .ok (.getfield 98, 3) := by decide +kernel
theorem dX6_seen_81 : decode cX6_seen 81 = .ok (.iload 4, 2) := by decide +kernel
theorem dX6_seen_83 : decode cX6_seen 83 = .ok (.aaload, 1) := by decide +kernel
theorem dX6_seen_84 : decode cX6_seen 84 = .ok (.getfield 167, 3) := by decide +kernel
theorem dX6_seen_87 : decode cX6_seen 87 = .ok (.goto 5, 3) := by decide +kernel
theorem dX6_seen_90 : decode cX6_seen 90 = .ok (.iload 4, 2) := by decide +kernel
theorem dX6_seen_92 : decode cX6_seen 92 = .ok (.ireturn, 1) := by decide +kernel
theorem dX6_place_0 : decode cX6_place 0 = .ok (.aload_n 0, 1) := by decide +kernel
theorem dX6_place_1 : decode cX6_place 1 = .ok (.getfield 10, 3) := by decide +kernel
theorem dX6_place_4 : decode cX6_place 4 = .ok (.iload_n 1, 1) := by decide +kernel
theorem dX6_place_5 : decode cX6_place 5 = .ok (.invokevirtual 108, 3) := by decide +kernel
theorem dX6_place_8 : decode cX6_place 8 = .ok (.ifCond .eq 12, 3) := by decide +kernel
theorem dX6_place_11 : decode cX6_place 11 = .ok (.iload_n 2, 1) := by decide +kernel
theorem dX6_place_12 : decode cX6_place 12 = .ok (.iconst 0, 1) := by decide +kernel
theorem dX6_place_13 : decode cX6_place 13 = .ok (.iconst 3, 1) := by decide +kernel
theorem dX6_place_14 : decode cX6_place 14 = .ok (.invokestatic 44, 3) := by decide +kernel
theorem dX6_place_17 : decode cX6_place 17 = .ok (.ifCond .ne 5, 3) := by decide +kernel
theorem dX6_place_20 : decode cX6_place 20 = .ok (.iconst (-1), 1) := by decide +kernel
theorem dX6_place_21 : decode cX6_place 21 = .ok (.ireturn, 1) := by decide +kernel
theorem dX6_place_22 : decode cX6_place 22 = .ok (.aload_n 0, 1) := by decide +kernel
theorem dX6_place_23 : decode cX6_place 23 = .ok (.getfield 10, 3) := by decide +kernel
theorem dX6_place_26 : decode cX6_place 26 = .ok (.getfield 98, 3) := by decide +kernel
theorem dX6_place_29 : decode cX6_place 29 = .ok (.iload_n 1, 1) := by decide +kernel
theorem dX6_place_30 : decode cX6_place 30 = .ok (.aaload, 1) := by decide +kernel
theorem dX6_place_31 : decode cX6_place 31 = .ok (.getfield 112, 3) := by decide +kernel
theorem dX6_place_34 : decode cX6_place 34 = .ok (.ifCond .eq 6, 3) := by decide +kernel
theorem dX6_place_37 : decode cX6_place 37 = .ok (.bipush (-2), 2) := by decide +kernel
theorem dX6_place_39 : decode cX6_place 39 = .ok (.ireturn, 1) := by decide +kernel
theorem dX6_place_40 : decode cX6_place 40 = .ok (.aload_n 0, 1) := by decide +kernel
theorem dX6_place_41 : decode cX6_place 41 = .ok (.getfield 33, 3) := by decide +kernel
theorem dX6_place_44 : decode cX6_place 44 = .ok (.aload_n 0, 1) := by decide +kernel
theorem dX6_place_45 : decode cX6_place 45 = .ok (.getfield 10, 3) := by decide +kernel
theorem dX6_place_48 : decode cX6_place 48 = .ok (.invokevirtual 129, 3) := by decide +kernel
theorem dX6_place_51 : decode cX6_place 51 = .ok (.aload_n 0, 1) := by decide +kernel
theorem dX6_place_52 : decode cX6_place 52 = .ok (.getfield 33, 3) := by decide +kernel
theorem dX6_place_55 : decode cX6_place 55 = .ok (.aload_n 0, 1) := by decide +kernel
theorem dX6_place_56 : decode cX6_place 56 = .ok (.getfield 10, 3) := by decide +kernel
theorem dX6_place_59 : decode cX6_place 59 = .ok (.aload_n 0, 1) := by decide +kernel
theorem dX6_place_60 : decode cX6_place 60 = .ok (.getfield 10, 3) := by decide +kernel
theorem dX6_place_63 : decode cX6_place 63 = .ok (.getfield 98, 3) := by decide +kernel
theorem dX6_place_66 : decode cX6_place 66 = .ok (.iload_n 1, 1) := by decide +kernel
theorem dX6_place_67 : decode cX6_place 67 = .ok (.aaload, 1) := by decide +kernel
theorem dX6_place_68 : decode cX6_place 68 = .ok (.iconst 1, 1) := by decide +kernel
theorem dX6_place_69 : decode cX6_place 69 = .ok (.invokevirtual 170, 3) := by decide +kernel
theorem dX6_place_72 : decode cX6_place 72 = .ok (.aload_n 0, 1) := by decide +kernel
theorem dX6_place_73 : decode cX6_place 73 = .ok (.getfield 33, 3) := by decide +kernel
theorem dX6_place_76 : decode cX6_place 76 = .ok (.getfield 174, 3) := by decide +kernel
theorem dX6_place_79 : decode cX6_place 79 = .ok (.ifCond .ne 6, 3) := by decide +kernel
theorem dX6_place_82 : decode cX6_place 82 = .ok (.bipush (-9), 2) := by decide +kernel
theorem dX6_place_84 : decode cX6_place 84 = .ok (.ireturn, 1) := by decide +kernel
theorem dX6_place_85 : decode cX6_place 85 = .ok (.iload_n 2, 1) := by decide +kernel
theorem dX6_place_86 : decode cX6_place 86 = .ok (.tableswitch 58 0 2 #[26, 34, 42], 26) := by decide +kernel
theorem dX6_place_112 : decode cX6_place 112 = .ok (.aload_n 0, 1) := by decide +kernel
theorem dX6_place_113 : decode cX6_place 113 = .ok (.getfield 33, 3) := by decide +kernel
theorem dX6_place_116 : decode cX6_place 116 = .ok (.getfield 177, 3) := by decide +kernel
theorem dX6_place_119 : decode cX6_place 119 = .ok (.ireturn, 1) := by decide +kernel
theorem dX6_place_120 : decode cX6_place 120 = .ok (.aload_n 0, 1) := by decide +kernel
theorem dX6_place_121 : decode cX6_place 121 = .ok (.getfield 33, 3) := by decide +kernel
theorem dX6_place_124 : decode cX6_place 124 = .ok (.getfield 180, 3) := by decide +kernel
theorem dX6_place_127 : decode cX6_place 127 = .ok (.ireturn, 1) := by decide +kernel
theorem dX6_place_128 : decode cX6_place 128 = .ok (.aload_n 0, 1) := by decide +kernel
theorem dX6_place_129 : decode cX6_place 129 = .ok (.getfield 33, 3) := by decide +kernel
theorem dX6_place_132 : decode cX6_place 132 = .ok (.getfield 183, 3) := by decide +kernel
theorem dX6_place_135 : decode cX6_place 135 = .ok (.ifCond .eq 7, 3) := by decide +kernel
theorem dX6_place_138 : decode cX6_place 138 = .ok (.iconst 1, 1) := by decide +kernel
theorem dX6_place_139 : decode cX6_place 139 = .ok (.goto 4, 3) := by decide +kernel
theorem dX6_place_142 : decode cX6_place 142 = .ok (.iconst 0, 1) := by decide +kernel
theorem dX6_place_143 : decode cX6_place 143 = .ok (.ireturn, 1) := by decide +kernel
theorem dX6_place_144 : decode cX6_place 144 = .ok (.aload_n 0, 1) := by decide +kernel
theorem dX6_place_145 : decode cX6_place 145 = .ok (.getfield 33, 3) := by decide +kernel
theorem dX6_place_148 : decode cX6_place 148 = .ok (.getfield 186, 3) := by decide +kernel
theorem dX6_place_151 : decode cX6_place 151 = .ok (.aload_n 0, 1) := by decide +kernel
theorem dX6_place_152 : decode cX6_place 152 = .ok (.getfield 10, 3) := by decide +kernel
theorem dX6_place_155 : decode cX6_place 155 = .ok (.getfield 98, 3) := by decide +kernel
theorem dX6_place_158 : decode cX6_place 158 = .ok (.iload_n 1, 1) := by decide +kernel
theorem dX6_place_159 : decode cX6_place 159 = .ok (.aaload, 1) := by decide +kernel
theorem dX6_place_160 : decode cX6_place 160 = .ok (.invokevirtual 189, 3) := by decide +kernel
theorem dX6_place_163 : decode cX6_place 163 = .ok (.iadd, 1) := by decide +kernel
theorem dX6_place_164 : decode cX6_place 164 = .ok (.ireturn, 1) := by decide +kernel
theorem dX6_places_0 : decode cX6_places 0 = .ok (.aload_n 0, 1) := by decide +kernel
theorem dX6_places_1 : decode cX6_places 1 = .ok (.getfield 10, 3) := by decide +kernel
theorem dX6_places_4 : decode cX6_places 4 = .ok (.iload_n 1, 1) := by decide +kernel
theorem dX6_places_5 : decode cX6_places 5 = .ok (.invokevirtual 108, 3) := by decide +kernel
theorem dX6_places_8 : decode cX6_places 8 = .ok (.ifCond .ne 5, 3) := by decide +kernel
theorem dX6_places_11 : decode cX6_places 11 = .ok (.iconst (-1), 1) := by decide +kernel
theorem dX6_places_12 : decode cX6_places 12 = .ok (.ireturn, 1) := by decide +kernel
theorem dX6_places_13 : decode cX6_places 13 = .ok (.aload_n 0, 1) := by decide +kernel
theorem dX6_places_14 : decode cX6_places 14 = .ok (.getfield 10, 3) := by decide +kernel
theorem dX6_places_17 : decode cX6_places 17 = .ok (.getfield 98, 3) := by decide +kernel
theorem dX6_places_20 : decode cX6_places 20 = .ok (.iload_n 1, 1) := by decide +kernel
theorem dX6_places_21 : decode cX6_places 21 = .ok (.aaload, 1) := by decide +kernel
theorem dX6_places_22 : decode cX6_places 22 = .ok (.getfield 112, 3) := by decide +kernel
theorem dX6_places_25 : decode cX6_places 25 = .ok (.ifCond .eq 6, 3) := by decide +kernel
theorem dX6_places_28 : decode cX6_places 28 = .ok (.bipush (-2), 2) := by decide +kernel
theorem dX6_places_30 : decode cX6_places 30 = .ok (.ireturn, 1) := by decide +kernel
theorem dX6_places_31 : decode cX6_places 31 = .ok (.aload_n 0, 1) := by decide +kernel
theorem dX6_places_32 : decode cX6_places 32 = .ok (.getfield 33, 3) := by decide +kernel
theorem dX6_places_35 : decode cX6_places 35 = .ok (.aload_n 0, 1) := by decide +kernel
theorem dX6_places_36 : decode cX6_places 36 = .ok (.getfield 10, 3) := by decide +kernel
theorem dX6_places_39 : decode cX6_places 39 = .ok (.invokevirtual 129, 3) := by decide +kernel
theorem dX6_places_42 : decode cX6_places 42 = .ok (.aload_n 0, 1) := by decide +kernel
theorem dX6_places_43 : decode cX6_places 43 = .ok (.getfield 33, 3) := by decide +kernel
theorem dX6_places_46 : decode cX6_places 46 = .ok (.aload_n 0, 1) := by decide +kernel
theorem dX6_places_47 : decode cX6_places 47 = .ok (.getfield 10, 3) := by decide +kernel
theorem dX6_places_50 : decode cX6_places 50 = .ok (.aload_n 0, 1) := by decide +kernel
theorem dX6_places_51 : decode cX6_places 51 = .ok (.getfield 10, 3) := by decide +kernel
theorem dX6_places_54 : decode cX6_places 54 = .ok (.getfield 98, 3) := by decide +kernel
theorem dX6_places_57 : decode cX6_places 57 = .ok (.iload_n 1, 1) := by decide +kernel
theorem dX6_places_58 : decode cX6_places 58 = .ok (.aaload, 1) := by decide +kernel
theorem dX6_places_59 : decode cX6_places 59 = .ok (.iconst 0, 1) := by decide +kernel
theorem dX6_places_60 : decode cX6_places 60 = .ok (.invokevirtual 170, 3) := by decide +kernel
theorem dX6_places_63 : decode cX6_places 63 = .ok (.aload_n 0, 1) := by decide +kernel
theorem dX6_places_64 : decode cX6_places 64 = .ok (.getfield 33, 3) := by decide +kernel
theorem dX6_places_67 : decode cX6_places 67 = .ok (.getfield 174, 3) := by decide +kernel
theorem dX6_places_70 : decode cX6_places 70 = .ok (.ireturn, 1) := by decide +kernel
theorem dX6_pack_0 : decode cX6_pack 0 = .ok (.aload_n 0, 1) := by decide +kernel
theorem dX6_pack_1 : decode cX6_pack 1 = .ok (.getfield 40, 3) := by decide +kernel
theorem dX6_pack_4 : decode cX6_pack 4 = .ok (.aload_n 0, 1) := by decide +kernel
theorem dX6_pack_5 : decode cX6_pack 5 = .ok (.getfield 10, 3) := by decide +kernel
theorem dX6_pack_8 : decode cX6_pack 8 = .ok (.invokevirtual 192, 3) := by decide +kernel
theorem dX6_pack_11 : decode cX6_pack 11 = .ok (.aload_n 0, 1) := by decide +kernel
theorem dX6_pack_12 : decode cX6_pack 12 = .ok (.invokevirtual 195, 3) := by decide +kernel
theorem dX6_pack_15 : decode cX6_pack 15 = .ok (.ireturn, 1) := by decide +kernel
theorem dX6_packBest_0 : decode cX6_packBest 0 = .ok (.aload_n 0, 1) := by decide +kernel
theorem dX6_packBest_1 : decode cX6_packBest 1 = .ok (.getfield 10, 3) := by decide +kernel
theorem dX6_packBest_4 : decode cX6_packBest 4 = .ok (.getfield 95, 3) := by decide +kernel
theorem dX6_packBest_7 : decode cX6_packBest 7 = .ok (.iconst 5, 1) := by decide +kernel
theorem dX6_packBest_8 : decode cX6_packBest 8 = .ok (.if_icmp .le 6, 3) := by decide +kernel
theorem dX6_packBest_11 : decode cX6_packBest 11 = .ok (.bipush (-2), 2) := by decide +kernel
theorem dX6_packBest_13 : decode cX6_packBest 13 = .ok (.ireturn, 1) := by decide +kernel
theorem dX6_packBest_14 : decode cX6_packBest 14 = .ok (.aload_n 0, 1) := by decide +kernel
theorem dX6_packBest_15 : decode cX6_packBest 15 = .ok (.getfield 40, 3) := by decide +kernel
theorem dX6_packBest_18 : decode cX6_packBest 18 = .ok (.aload_n 0, 1) := by decide +kernel
theorem dX6_packBest_19 : decode cX6_packBest 19 = .ok (.getfield 10, 3) := by decide +kernel
theorem dX6_packBest_22 : decode cX6_packBest 22 = .ok (.invokevirtual 198, 3) := by decide +kernel
theorem dX6_packBest_25 : decode cX6_packBest 25 = .ok (.aload_n 0, 1) := by decide +kernel
theorem dX6_packBest_26 : decode cX6_packBest 26 = .ok (.invokevirtual 195, 3) := by decide +kernel
theorem dX6_packBest_29 : decode cX6_packBest 29 = .ok (.ireturn, 1) := by decide +kernel
theorem dX6_ifPacked_0 : decode cX6_ifPacked 0 = .ok (.iload_n 2, 1) := by decide +kernel
theorem dX6_ifPacked_1 : decode cX6_ifPacked 1 = .ok (.iconst 0, 1) := by decide +kernel
theorem dX6_ifPacked_2 : decode cX6_ifPacked 2 = .ok (.iconst 3, 1) := by decide +kernel
theorem dX6_ifPacked_3 : decode cX6_ifPacked 3 = .ok (.invokestatic 44, 3) := by decide +kernel
theorem dX6_ifPacked_6 : decode cX6_ifPacked 6 = .ok (.ifCond .ne 11, 3) := by decide +kernel
theorem dX6_ifPacked_9 : decode cX6_ifPacked 9 = .ok (.iload_n 2, 1) := by decide +kernel
theorem dX6_ifPacked_10 : decode cX6_ifPacked 10 = .ok (.bipush 10, 2) := by decide +kernel
theorem dX6_ifPacked_12 : decode cX6_ifPacked 12 = .ok (.if_icmp .ge 5, 3) := by decide +kernel
theorem dX6_ifPacked_15 : decode cX6_ifPacked 15 = .ok (.iconst (-1), 1) := by decide +kernel
theorem dX6_ifPacked_16 : decode cX6_ifPacked 16 = .ok (.ireturn, 1) := by decide +kernel
theorem dX6_ifPacked_17 : decode cX6_ifPacked 17 = .ok (.iload_n 1, 1) := by decide +kernel
theorem dX6_ifPacked_18 : decode cX6_ifPacked 18 = .ok (.ifCond .eq 17, 3) := by decide +kernel
theorem dX6_ifPacked_21 : decode cX6_ifPacked 21 = .ok (.aload_n 0, 1) := by decide +kernel
theorem dX6_ifPacked_22 : decode cX6_ifPacked 22 = .ok (.getfield 10, 3) := by decide +kernel
theorem dX6_ifPacked_25 : decode cX6_ifPacked 25 = .ok (.getfield 95, 3) := by decide +kernel
theorem dX6_ifPacked_28 : decode cX6_ifPacked 28 = .ok (.iconst 5, 1) := by decide +kernel
theorem dX6_ifPacked_29 : decode cX6_ifPacked 29 = .ok (.if_icmp .le 6, 3) := by decide +kernel
theorem dX6_ifPacked_32 : decode cX6_ifPacked 32 = .ok (.bipush (-2), 2) := by decide +kernel
theorem dX6_ifPacked_34 : decode cX6_ifPacked 34 = .ok (.ireturn, 1) := by decide +kernel
theorem dX6_ifPacked_35 : decode cX6_ifPacked 35 = .ok (.iload_n 1, 1) := by decide +kernel
theorem dX6_ifPacked_36 : decode cX6_ifPacked 36 = .ok (.ifCond .eq 17, 3) := by decide +kernel
theorem dX6_ifPacked_39 : decode cX6_ifPacked 39 = .ok (.aload_n 0, 1) := by decide +kernel
theorem dX6_ifPacked_40 : decode cX6_ifPacked 40 = .ok (.getfield 40, 3) := by decide +kernel
theorem dX6_ifPacked_43 : decode cX6_ifPacked 43 = .ok (.aload_n 0, 1) := by decide +kernel
theorem dX6_ifPacked_44 : decode cX6_ifPacked 44 = .ok (.getfield 10, 3) := by decide +kernel
theorem dX6_ifPacked_47 : decode cX6_ifPacked 47 = .ok (.invokevirtual 198, 3) := by decide +kernel
theorem dX6_ifPacked_50 : decode cX6_ifPacked 50 = .ok (.goto 14, 3) := by decide +kernel
theorem dX6_ifPacked_53 : decode cX6_ifPacked 53 = .ok (.aload_n 0, 1) := by decide +kernel
theorem dX6_ifPacked_54 : decode cX6_ifPacked 54 = .ok (.getfield 40, 3) := by decide +kernel
theorem dX6_ifPacked_57 : decode cX6_ifPacked 57 = .ok (.aload_n 0, 1) := by decide +kernel
theorem dX6_ifPacked_58 : decode cX6_ifPacked 58 = .ok (.getfield 10, 3) := by decide +kernel
theorem dX6_ifPacked_61 : decode cX6_ifPacked 61 = .ok (.invokevirtual 192, 3) := by decide +kernel
theorem dX6_ifPacked_64 : decode cX6_ifPacked 64 = .ok (.iload_n 2, 1) := by decide +kernel
theorem dX6_ifPacked_65 : decode cX6_ifPacked 65 = .ok (.iconst 4, 1) := by decide +kernel
theorem dX6_ifPacked_66 : decode cX6_ifPacked 66 = .ok (.if_icmp .ge 13, 3) := by decide +kernel
theorem dX6_ifPacked_69 : decode cX6_ifPacked 69 = .ok (.aload_n 0, 1) := by decide +kernel
theorem dX6_ifPacked_70 : decode cX6_ifPacked 70 = .ok (.getfield 40, 3) := by decide +kernel
theorem dX6_ifPacked_73 : decode cX6_ifPacked 73 = .ok (.getfield 201, 3) := by decide +kernel
theorem dX6_ifPacked_76 : decode cX6_ifPacked 76 = .ok (.iload_n 2, 1) := by decide +kernel
theorem dX6_ifPacked_77 : decode cX6_ifPacked 77 = .ok (.iaload, 1) := by decide +kernel
theorem dX6_ifPacked_78 : decode cX6_ifPacked 78 = .ok (.ireturn, 1) := by decide +kernel
theorem dX6_ifPacked_79 : decode cX6_ifPacked 79 = .ok (.iload_n 2, 1) := by decide +kernel
theorem dX6_ifPacked_80 : decode cX6_ifPacked 80 = .ok (.bipush 10, 2) := by decide +kernel
theorem dX6_ifPacked_82 : decode cX6_ifPacked 82 = .ok (.isub, 1) := by decide +kernel
theorem dX6_ifPacked_83 : decode cX6_ifPacked 83 = .ok (.istore_n 3, 1) := by decide +kernel
theorem dX6_ifPacked_84 : decode cX6_ifPacked 84 = .ok (.aload_n 0, 1) := by decide +kernel
theorem dX6_ifPacked_85 : decode cX6_ifPacked 85 = .ok (.getfield 10, 3) := by decide +kernel
theorem dX6_ifPacked_88 : decode cX6_ifPacked 88 = .ok (.iload_n 3, 1) := by decide +kernel
theorem dX6_ifPacked_89 : decode cX6_ifPacked 89 = .ok (.invokevirtual 108, 3) := by decide +kernel
theorem dX6_ifPacked_92 : decode cX6_ifPacked 92 = .ok (.ifCond .eq 15, 3) := by decide +kernel
theorem dX6_ifPacked_95 : decode cX6_ifPacked 95 = .ok (.aload_n 0, 1) := by decide +kernel
theorem dX6_ifPacked_96 : decode cX6_ifPacked 96 = .ok (.getfield 40, 3) := by decide +kernel
theorem dX6_ifPacked_99 : decode cX6_ifPacked 99 = .ok (.getfield 205, 3) := by decide +kernel
theorem dX6_ifPacked_102 : decode cX6_ifPacked 102 = .ok (.iload_n 3, 1) := by decide +kernel
theorem dX6_ifPacked_103 : decode cX6_ifPacked 103 = .ok (.iaload, 1) := by decide +kernel
theorem dX6_ifPacked_104 : decode cX6_ifPacked 104 = .ok (.goto 5, 3) := by decide +kernel
theorem dX6_ifPacked_107 : decode cX6_ifPacked 107 = .ok (.bipush (-9), 2) := by decide +kernel
theorem dX6_ifPacked_109 : decode cX6_ifPacked 109 = .ok (.ireturn, 1) := by decide +kernel
theorem dX6_play_0 : decode cX6_play 0 = .ok (.aload_n 0, 1) := by decide +kernel
theorem dX6_play_1 : decode cX6_play 1 = .ok (.getfield 10, 3) := by decide +kernel
theorem dX6_play_4 : decode cX6_play 4 = .ok (.bipush (-9), 2) := by decide +kernel
theorem dX6_play_6 : decode cX6_play 6 = .ok (.invokevirtual 208, 3) := by decide +kernel
theorem dX6_play_9 : decode cX6_play 9 = .ok (.istore_n 1, 1) := by decide +kernel
theorem dX6_play_10 : decode cX6_play 10 = .ok (.aload_n 0, 1) := by decide +kernel
theorem dX6_play_11 : decode cX6_play 11 = .ok (.getfield 19, 3) := by decide +kernel
theorem dX6_play_14 : decode cX6_play 14 = .ok (.aload_n 0, 1) := by decide +kernel
theorem dX6_play_15 : decode cX6_play 15 = .ok (.getfield 10, 3) := by decide +kernel
theorem dX6_play_18 : decode cX6_play 18 = .ok (.invokevirtual 58, 3) := by decide +kernel
theorem dX6_play_21 : decode cX6_play 21 = .ok (.aload_n 0, 1) := by decide +kernel
theorem dX6_play_22 : decode cX6_play 22 = .ok (.getfield 10, 3) := by decide +kernel
theorem dX6_play_25 : decode cX6_play 25 = .ok (.invokevirtual 62, 3) := by decide +kernel
theorem dX6_play_28 : decode cX6_play 28 = .ok (.iload_n 1, 1) := by decide +kernel
theorem dX6_play_29 : decode cX6_play 29 = .ok (.ireturn, 1) := by decide +kernel
theorem dX6_liftsTo_0 : decode cX6_liftsTo 0 = .ok (.aload_n 0, 1) := by decide +kernel
theorem dX6_liftsTo_1 : decode cX6_liftsTo 1 = .ok (.getfield 10, 3) := by decide +kernel
theorem dX6_liftsTo_4 : decode cX6_liftsTo 4 = .ok (.iload_n 1, 1) := by decide +kernel
theorem dX6_liftsTo_5 : decode cX6_liftsTo 5 = .ok (.invokevirtual 108, 3) := by decide +kernel
theorem dX6_liftsTo_8 : decode cX6_liftsTo 8 = .ok (.ifCond .ne 5, 3) := by decide +kernel
theorem dX6_liftsTo_11 : decode cX6_liftsTo 11 = .ok (.iconst (-1), 1) := by decide +kernel
theorem dX6_liftsTo_12 : decode cX6_liftsTo 12 = .ok (.ireturn, 1) := by decide +kernel
theorem dX6_liftsTo_13 : decode cX6_liftsTo 13 = .ok (.aload_n 0, 1) := by decide +kernel
theorem dX6_liftsTo_14 : decode cX6_liftsTo 14 = .ok (.getfield 10, 3) := by decide +kernel
theorem dX6_liftsTo_17 : decode cX6_liftsTo 17 = .ok (.getfield 98, 3) := by decide +kernel
theorem dX6_liftsTo_20 : decode cX6_liftsTo 20 = .ok (.iload_n 1, 1) := by decide +kernel
theorem dX6_liftsTo_21 : decode cX6_liftsTo 21 = .ok (.aaload, 1) := by decide +kernel
theorem dX6_liftsTo_22 : decode cX6_liftsTo 22 = .ok (.getfield 112, 3) := by decide +kernel
theorem dX6_liftsTo_25 : decode cX6_liftsTo 25 = .ok (.ifCond .ne 6, 3) := by decide +kernel
theorem dX6_liftsTo_28 : decode cX6_liftsTo 28 = .ok (.bipush (-2), 2) := by decide +kernel
theorem dX6_liftsTo_30 : decode cX6_liftsTo 30 = .ok (.ireturn, 1) := by decide +kernel
theorem dX6_liftsTo_31 : decode cX6_liftsTo 31 = .ok (.aload_n 0, 1) := by decide +kernel
theorem dX6_liftsTo_32 : decode cX6_liftsTo 32 = .ok (.getfield 10, 3) := by decide +kernel
theorem dX6_liftsTo_35 : decode cX6_liftsTo 35 = .ok (.iload_n 1, 1) := by decide +kernel
theorem dX6_liftsTo_36 : decode cX6_liftsTo 36 = .ok (.invokevirtual 208, 3) := by decide +kernel
theorem dX6_liftsTo_39 : decode cX6_liftsTo 39 = .ok (.ireturn, 1) := by decide +kernel
theorem dX6_undo_0 : decode cX6_undo 0 = .ok (.aload_n 0, 1) := by decide +kernel
theorem dX6_undo_1 : decode cX6_undo 1 = .ok (.getfield 19, 3) := by decide +kernel
theorem dX6_undo_4 : decode cX6_undo 4 = .ok (.getfield 211, 3) := by decide +kernel
theorem dX6_undo_7 : decode cX6_undo 7 = .ok (.ifCond .ne 6, 3) := by decide +kernel
theorem dX6_undo_10 : decode cX6_undo 10 = .ok (.bipush (-2), 2) := by decide +kernel
theorem dX6_undo_12 : decode cX6_undo 12 = .ok (.ireturn, 1) := by decide +kernel
theorem dX6_undo_13 : decode cX6_undo 13 = .ok (.aload_n 0, 1) := by decide +kernel
theorem dX6_undo_14 : decode cX6_undo 14 = .ok (.getfield 19, 3) := by decide +kernel
theorem dX6_undo_17 : decode cX6_undo 17 = .ok (.aload_n 0, 1) := by decide +kernel
theorem dX6_undo_18 : decode cX6_undo 18 = .ok (.getfield 10, 3) := by decide +kernel
theorem dX6_undo_21 : decode cX6_undo 21 = .ok (.invokevirtual 214, 3) := by decide +kernel
theorem dX6_undo_24 : decode cX6_undo 24 = .ok (.aload_n 0, 1) := by decide +kernel
theorem dX6_undo_25 : decode cX6_undo 25 = .ok (.getfield 19, 3) := by decide +kernel
theorem dX6_undo_28 : decode cX6_undo 28 = .ok (.getfield 211, 3) := by decide +kernel
theorem dX6_undo_31 : decode cX6_undo 31 = .ok (.ireturn, 1) := by decide +kernel
theorem dX6_count_0 : decode cX6_count 0 = .ok (.iload_n 1, 1) := by decide +kernel
theorem dX6_count_1 : decode cX6_count 1 = .ok (.tableswitch 174 0 12 #[67, 75, 83, 91, 99, 107, 118, 126, 134, 142, 150, 158, 166], 67) := by decide +kernel
theorem dX6_count_68 : decode cX6_count 68 = .ok (.aload_n 0, 1) := by decide +kernel
theorem dX6_count_69 : decode cX6_count 69 = .ok (.getfield 10, 3) := by decide +kernel
theorem dX6_count_72 : decode cX6_count 72 = .ok (.getfield 65, 3) := by decide +kernel
theorem dX6_count_75 : decode cX6_count 75 = .ok (.ireturn, 1) := by decide +kernel
theorem dX6_count_76 : decode cX6_count 76 = .ok (.aload_n 0, 1) := by decide +kernel
theorem dX6_count_77 : decode cX6_count 77 = .ok (.getfield 10, 3) := by decide +kernel
theorem dX6_count_80 : decode cX6_count 80 = .ok (.getfield 69, 3) := by decide +kernel
theorem dX6_count_83 : decode cX6_count 83 = .ok (.ireturn, 1) := by decide +kernel
theorem dX6_count_84 : decode cX6_count 84 = .ok (.aload_n 0, 1) := by decide +kernel
theorem dX6_count_85 : decode cX6_count 85 = .ok (.getfield 10, 3) := by decide +kernel
theorem dX6_count_88 : decode cX6_count 88 = .ok (.getfield 72, 3) := by decide +kernel
theorem dX6_count_91 : decode cX6_count 91 = .ok (.ireturn, 1) := by decide +kernel
theorem dX6_count_92 : decode cX6_count 92 = .ok (.aload_n 0, 1) := by decide +kernel
theorem dX6_count_93 : decode cX6_count 93 = .ok (.getfield 10, 3) := by decide +kernel
theorem dX6_count_96 : decode cX6_count 96 = .ok (.getfield 75, 3) := by decide +kernel
theorem dX6_count_99 : decode cX6_count 99 = .ok (.ireturn, 1) := by decide +kernel
theorem dX6_count_100 : decode cX6_count 100 = .ok (.aload_n 0, 1) := by decide +kernel
theorem dX6_count_101 : decode cX6_count 101 = .ok (.getfield 10, 3) := by decide +kernel
theorem dX6_count_104 : decode cX6_count 104 = .ok (.getfield 95, 3) := by decide +kernel
theorem dX6_count_107 : decode cX6_count 107 = .ok (.ireturn, 1) := by decide +kernel
theorem dX6_count_108 : decode cX6_count 108 = .ok (.aload_n 0, 1) := by decide +kernel
theorem dX6_count_109 : decode cX6_count 109 = .ok (.getfield 10, 3) := by decide +kernel
theorem dX6_count_112 : decode cX6_count 112 = .ok (.invokevirtual 48, 3) := by decide +kernel
theorem dX6_count_115 : decode cX6_count 115 = .ok (.invokestatic 52, 3) := by decide +kernel
theorem dX6_count_118 : decode cX6_count 118 = .ok (.ireturn, 1) := by decide +kernel
theorem dX6_count_119 : decode cX6_count 119 = .ok (.aload_n 0, 1) := by decide +kernel
theorem dX6_count_120 : decode cX6_count 120 = .ok (.getfield 10, 3) := by decide +kernel
theorem dX6_count_123 : decode cX6_count 123 = .ok (.invokevirtual 217, 3) := by decide +kernel
theorem dX6_count_126 : decode cX6_count 126 = .ok (.ireturn, 1) := by decide +kernel
theorem dX6_count_127 : decode cX6_count 127 = .ok (.aload_n 0, 1) := by decide +kernel
theorem dX6_count_128 : decode cX6_count 128 = .ok (.getfield 10, 3) := by decide +kernel
theorem dX6_count_131 : decode cX6_count 131 = .ok (.invokevirtual 220, 3) := by decide +kernel
theorem dX6_count_134 : decode cX6_count 134 = .ok (.ireturn, 1) := by decide +kernel
theorem dX6_count_135 : decode cX6_count 135 = .ok (.aload_n 0, 1) := by decide +kernel
theorem dX6_count_136 : decode cX6_count 136 = .ok (.getfield 10, 3) := by decide +kernel
theorem dX6_count_139 : decode cX6_count 139 = .ok (.invokevirtual 223, 3) := by decide +kernel
theorem dX6_count_142 : decode cX6_count 142 = .ok (.ireturn, 1) := by decide +kernel
theorem dX6_count_143 : decode cX6_count 143 = .ok (.aload_n 0, 1) := by decide +kernel
theorem dX6_count_144 : decode cX6_count 144 = .ok (.getfield 10, 3) := by decide +kernel
theorem dX6_count_147 : decode cX6_count 147 = .ok (.invokevirtual 226, 3) := by decide +kernel
theorem dX6_count_150 : decode cX6_count 150 = .ok (.ireturn, 1) := by decide +kernel
theorem dX6_count_151 : decode cX6_count 151 = .ok (.aload_n 0, 1) := by decide +kernel
theorem dX6_count_152 : decode cX6_count 152 = .ok (.getfield 10, 3) := by decide +kernel
theorem dX6_count_155 : decode cX6_count 155 = .ok (.invokevirtual 229, 3) := by decide +kernel
theorem dX6_count_158 : decode cX6_count 158 = .ok (.ireturn, 1) := by decide +kernel
theorem dX6_count_159 : decode cX6_count 159 = .ok (.aload_n 0, 1) := by decide +kernel
theorem dX6_count_160 : decode cX6_count 160 = .ok (.getfield 26, 3) := by decide +kernel
theorem dX6_count_163 : decode cX6_count 163 = .ok (.getfield 78, 3) := by decide +kernel
theorem dX6_count_166 : decode cX6_count 166 = .ok (.ireturn, 1) := by decide +kernel
theorem dX6_count_167 : decode cX6_count 167 = .ok (.aload_n 0, 1) := by decide +kernel
theorem dX6_count_168 : decode cX6_count 168 = .ok (.getfield 19, 3) := by decide +kernel
theorem dX6_count_171 : decode cX6_count 171 = .ok (.getfield 211, 3) := by decide +kernel
theorem dX6_count_174 : decode cX6_count 174 = .ok (.ireturn, 1) := by decide +kernel
theorem dX6_count_175 : decode cX6_count 175 = .ok (.iconst (-1), 1) := by decide +kernel
theorem dX6_count_176 : decode cX6_count 176 = .ok (.ireturn, 1) := by decide +kernel
theorem dX6_digest_0 : decode cX6_digest 0 = .ok (.ldc2_w 232, 3) := by decide +kernel
theorem dX6_digest_3 : decode cX6_digest 3 = .ok (.lstore_n 1, 1) := by decide +kernel
theorem dX6_digest_4 : decode cX6_digest 4 = .ok (.iconst 0, 1) := by decide +kernel
theorem dX6_digest_5 : decode cX6_digest 5 = .ok (.istore_n 3, 1) := by decide +kernel
theorem dX6_digest_6 : decode cX6_digest 6 = .ok (.iload_n 3, 1) := by decide +kernel
theorem dX6_digest_7 : decode cX6_digest 7 = .ok (.bipush 12, 2) := by decide +kernel
theorem dX6_digest_9 : decode cX6_digest 9 = .ok (.if_icmp .gt 22, 3) := by decide +kernel
theorem dX6_digest_12 : decode cX6_digest 12 = .ok (.ldc2_w 234, 3) := by decide +kernel
theorem dX6_digest_15 : decode cX6_digest 15 = .ok (.lload_n 1, 1) := by decide +kernel
theorem dX6_digest_16 : decode cX6_digest 16 = .ok (.lmul, 1) := by decide +kernel
theorem dX6_digest_17 : decode cX6_digest 17 = .ok (.aload_n 0, 1) := by decide +kernel
theorem dX6_digest_18 : decode cX6_digest 18 = .ok (.iload_n 3, 1) := by decide +kernel
theorem dX6_digest_19 : decode cX6_digest 19 = .ok (.invokevirtual 236, 3) := by decide +kernel
theorem dX6_digest_22 : decode cX6_digest 22 = .ok (.i2l, 1) := by decide +kernel
theorem dX6_digest_23 : decode cX6_digest 23 = .ok (.ladd, 1) := by decide +kernel
theorem dX6_digest_24 : decode cX6_digest 24 = .ok (.lstore_n 1, 1) := by decide +kernel
theorem dX6_digest_25 : decode cX6_digest 25 = .ok (.iinc 3 1, 3) := by decide +kernel
theorem dX6_digest_28 : decode cX6_digest 28 = .ok (.goto (-22), 3) := by decide +kernel
theorem dX6_digest_31 : decode cX6_digest 31 = .ok (.iconst 0, 1) := by decide +kernel
theorem dX6_digest_32 : decode cX6_digest 32 = .ok (.istore_n 3, 1) := by decide +kernel
theorem dX6_digest_33 : decode cX6_digest 33 = .ok (.iload_n 3, 1) := by decide +kernel
theorem dX6_digest_34 : decode cX6_digest 34 = .ok (.aload_n 0, 1) := by decide +kernel
theorem dX6_digest_35 : decode cX6_digest 35 = .ok (.getfield 10, 3) := by decide +kernel
theorem dX6_digest_38 : decode cX6_digest 38 = .ok (.getfield 95, 3) := by decide +kernel
theorem dX6_digest_41 : decode cX6_digest 41 = .ok (.if_icmp .ge 68, 3) := by decide +kernel
theorem dX6_digest_44 : decode cX6_digest 44 = .ok (.iconst 0, 1) := by decide +kernel
theorem dX6_digest_45 : decode cX6_digest 45 = .ok (.istore 4, 2) := by decide +kernel
theorem dX6_digest_47 : decode cX6_digest 47 = .ok (.iload 4, 2) := by decide +kernel
theorem dX6_digest_49 : decode cX6_digest 49 = .ok (.bipush 15, 2) := by decide +kernel
theorem dX6_digest_51 : decode cX6_digest 51 = .ok (.if_icmp .gt 24, 3) := by decide +kernel
theorem dX6_digest_54 : decode cX6_digest 54 = .ok (.ldc2_w 234, 3) := by decide +kernel
theorem dX6_digest_57 : decode cX6_digest 57 = .ok (.lload_n 1, 1) := by decide +kernel
theorem dX6_digest_58 : decode cX6_digest 58 = .ok (.lmul, 1) := by decide +kernel
theorem dX6_digest_59 : decode cX6_digest 59 = .ok (.aload_n 0, 1) := by decide +kernel
theorem dX6_digest_60 : decode cX6_digest 60 = .ok (.iload_n 3, 1) := by decide +kernel
theorem dX6_digest_61 : decode cX6_digest 61 = .ok (.iload 4, 2) := by decide +kernel
theorem dX6_digest_63 : decode cX6_digest 63 = .ok (.invokevirtual 239, 3) := by decide +kernel
theorem dX6_digest_66 : decode cX6_digest 66 = .ok (.i2l, 1) := by decide +kernel
theorem dX6_digest_67 : decode cX6_digest 67 = .ok (.ladd, 1) := by decide +kernel
theorem dX6_digest_68 : decode cX6_digest 68 = .ok (.lstore_n 1, 1) := by decide +kernel
theorem dX6_digest_69 : decode cX6_digest 69 = .ok (.iinc 4 1, 3) := by decide +kernel
theorem dX6_digest_72 : decode cX6_digest 72 = .ok (.goto (-25), 3) := by decide +kernel
theorem dX6_digest_75 : decode cX6_digest 75 = .ok (.ldc2_w 234, 3) := by decide +kernel
theorem dX6_digest_78 : decode cX6_digest 78 = .ok (.lload_n 1, 1) := by decide +kernel
theorem dX6_digest_79 : decode cX6_digest 79 = .ok (.lmul, 1) := by decide +kernel
theorem dX6_digest_80 : decode cX6_digest 80 = .ok (.aload_n 0, 1) := by decide +kernel
theorem dX6_digest_81 : decode cX6_digest 81 = .ok (.iload_n 3, 1) := by decide +kernel
theorem dX6_digest_82 : decode cX6_digest 82 = .ok (.iconst 0, 1) := by decide +kernel
theorem dX6_digest_83 : decode cX6_digest 83 = .ok (.invokevirtual 242, 3) := by decide +kernel
theorem dX6_digest_86 : decode cX6_digest 86 = .ok (.i2l, 1) := by decide +kernel
theorem dX6_digest_87 : decode cX6_digest 87 = .ok (.ladd, 1) := by decide +kernel
theorem dX6_digest_88 : decode cX6_digest 88 = .ok (.lstore_n 1, 1) := by decide +kernel
theorem dX6_digest_89 : decode cX6_digest 89 = .ok (.ldc2_w 234, 3) := by decide +kernel
theorem dX6_digest_92 : decode cX6_digest 92 = .ok (.lload_n 1, 1) := by decide +kernel
theorem dX6_digest_93 : decode cX6_digest 93 = .ok (.lmul, 1) := by decide +kernel
theorem dX6_digest_94 : decode cX6_digest 94 = .ok (.aload_n 0, 1) := by decide +kernel
theorem dX6_digest_95 : decode cX6_digest 95 = .ok (.iload_n 3, 1) := by decide +kernel
theorem dX6_digest_96 : decode cX6_digest 96 = .ok (.iconst 3, 1) := by decide +kernel
theorem dX6_digest_97 : decode cX6_digest 97 = .ok (.invokevirtual 242, 3) := by decide +kernel
theorem dX6_digest_100 : decode cX6_digest 100 = .ok (.i2l, 1) := by decide +kernel
theorem dX6_digest_101 : decode cX6_digest 101 = .ok (.ladd, 1) := by decide +kernel
theorem dX6_digest_102 : decode cX6_digest 102 = .ok (.lstore_n 1, 1) := by decide +kernel
theorem dX6_digest_103 : decode cX6_digest 103 = .ok (.iinc 3 1, 3) := by decide +kernel
theorem dX6_digest_106 : decode cX6_digest 106 = .ok (.goto (-73), 3) := by decide +kernel
theorem dX6_digest_109 : decode cX6_digest 109 = .ok (.iconst 0, 1) := by decide +kernel
theorem dX6_digest_110 : decode cX6_digest 110 = .ok (.istore_n 3, 1) := by decide +kernel
theorem dX6_digest_111 : decode cX6_digest 111 = .ok (.iload_n 3, 1) := by decide +kernel
theorem dX6_digest_112 : decode cX6_digest 112 = .ok (.aload_n 0, 1) := by decide +kernel
theorem dX6_digest_113 : decode cX6_digest 113 = .ok (.getfield 10, 3) := by decide +kernel
theorem dX6_digest_116 : decode cX6_digest 116 = .ok (.getfield 65, 3) := by decide +kernel
theorem dX6_digest_119 : decode cX6_digest 119 = .ok (.if_icmp .ge 62, 3) := by decide +kernel
theorem dX6_digest_122 : decode cX6_digest 122 = .ok (.iconst 0, 1) := by decide +kernel
theorem dX6_digest_123 : decode cX6_digest 123 = .ok (.istore 4, 2) := by decide +kernel
theorem dX6_digest_125 : decode cX6_digest 125 = .ok (.iload 4, 2) := by decide +kernel
theorem dX6_digest_127 : decode cX6_digest 127 = .ok (.aload_n 0, 1) := by decide +kernel
theorem dX6_digest_128 : decode cX6_digest 128 = .ok (.getfield 10, 3) := by decide +kernel
theorem dX6_digest_131 : decode cX6_digest 131 = .ok (.getfield 69, 3) := by decide +kernel
theorem dX6_digest_134 : decode cX6_digest 134 = .ok (.if_icmp .ge 41, 3) := by decide +kernel
theorem dX6_digest_137 : decode cX6_digest 137 = .ok (.ldc2_w 234, 3) := by decide +kernel
theorem dX6_digest_140 : decode cX6_digest 140 = .ok (.lload_n 1, 1) := by decide +kernel
theorem dX6_digest_141 : decode cX6_digest 141 = .ok (.lmul, 1) := by decide +kernel
theorem dX6_digest_142 : decode cX6_digest 142 = .ok (.aload_n 0, 1) := by decide +kernel
theorem dX6_digest_143 : decode cX6_digest 143 = .ok (.iload_n 3, 1) := by decide +kernel
theorem dX6_digest_144 : decode cX6_digest 144 = .ok (.iload 4, 2) := by decide +kernel
theorem dX6_digest_146 : decode cX6_digest 146 = .ok (.iconst 0, 1) := by decide +kernel
theorem dX6_digest_147 : decode cX6_digest 147 = .ok (.invokevirtual 245, 3) := by decide +kernel
theorem dX6_digest_150 : decode cX6_digest 150 = .ok (.i2l, 1) := by decide +kernel
theorem dX6_digest_151 : decode cX6_digest 151 = .ok (.ladd, 1) := by decide +kernel
theorem dX6_digest_152 : decode cX6_digest 152 = .ok (.lstore_n 1, 1) := by decide +kernel
theorem dX6_digest_153 : decode cX6_digest 153 = .ok (.ldc2_w 234, 3) := by decide +kernel
theorem dX6_digest_156 : decode cX6_digest 156 = .ok (.lload_n 1, 1) := by decide +kernel
theorem dX6_digest_157 : decode cX6_digest 157 = .ok (.lmul, 1) := by decide +kernel
theorem dX6_digest_158 : decode cX6_digest 158 = .ok (.aload_n 0, 1) := by decide +kernel
theorem dX6_digest_159 : decode cX6_digest 159 = .ok (.iload_n 3, 1) := by decide +kernel
theorem dX6_digest_160 : decode cX6_digest 160 = .ok (.iload 4, 2) := by decide +kernel
theorem dX6_digest_162 : decode cX6_digest 162 = .ok (.iconst 1, 1) := by decide +kernel
theorem dX6_digest_163 : decode cX6_digest 163 = .ok (.invokevirtual 245, 3) := by decide +kernel
theorem dX6_digest_166 : decode cX6_digest 166 = .ok (.i2l, 1) := by decide +kernel
theorem dX6_digest_167 : decode cX6_digest 167 = .ok (.ladd, 1) := by decide +kernel
theorem dX6_digest_168 : decode cX6_digest 168 = .ok (.lstore_n 1, 1) := by decide +kernel
theorem dX6_digest_169 : decode cX6_digest 169 = .ok (.iinc 4 1, 3) := by decide +kernel
theorem dX6_digest_172 : decode cX6_digest 172 = .ok (.goto (-47), 3) := by decide +kernel
theorem dX6_digest_175 : decode cX6_digest 175 = .ok (.iinc 3 1, 3) := by decide +kernel
theorem dX6_digest_178 : decode cX6_digest 178 = .ok (.goto (-67), 3) := by decide +kernel
theorem dX6_digest_181 : decode cX6_digest 181 = .ok (.aload_n 0, 1) := by decide +kernel
theorem dX6_digest_182 : decode cX6_digest 182 = .ok (.getfield 40, 3) := by decide +kernel
theorem dX6_digest_185 : decode cX6_digest 185 = .ok (.aload_n 0, 1) := by decide +kernel
theorem dX6_digest_186 : decode cX6_digest 186 = .ok (.getfield 10, 3) := by decide +kernel
theorem dX6_digest_189 : decode cX6_digest 189 = .ok (.invokevirtual 192, 3) := by decide +kernel
theorem dX6_digest_192 : decode cX6_digest 192 = .ok (.iconst 0, 1) := by decide +kernel
theorem dX6_digest_193 : decode cX6_digest 193 = .ok (.istore_n 3, 1) := by decide +kernel
theorem dX6_digest_194 : decode cX6_digest 194 = .ok (.iload_n 3, 1) := by decide +kernel
theorem dX6_digest_195 : decode cX6_digest 195 = .ok (.iconst 4, 1) := by decide +kernel
theorem dX6_digest_196 : decode cX6_digest 196 = .ok (.if_icmp .ge 26, 3) := by decide +kernel
theorem dX6_digest_199 : decode cX6_digest 199 = .ok (.ldc2_w 234, 3) := by decide +kernel
theorem dX6_digest_202 : decode cX6_digest 202 = .ok (.lload_n 1, 1) := by decide +kernel
theorem dX6_digest_203 : decode cX6_digest 203 = .ok (.lmul, 1) := by decide +kernel
theorem dX6_digest_204 : decode cX6_digest 204 = .ok (.aload_n 0, 1) := by decide +kernel
theorem dX6_digest_205 : decode cX6_digest 205 = .ok (.getfield 40, 3) := by decide +kernel
theorem dX6_digest_208 : decode cX6_digest 208 = .ok (.getfield 201, 3) := by decide +kernel
theorem dX6_digest_211 : decode cX6_digest 211 = .ok (.iload_n 3, 1) := by decide +kernel
theorem dX6_digest_212 : decode cX6_digest 212 = .ok (.iaload, 1) := by decide +kernel
theorem dX6_digest_213 : decode cX6_digest 213 = .ok (.i2l, 1) := by decide +kernel
theorem dX6_digest_214 : decode cX6_digest 214 = .ok (.ladd, 1) := by decide +kernel
theorem dX6_digest_215 : decode cX6_digest 215 = .ok (.lstore_n 1, 1) := by decide +kernel
theorem dX6_digest_216 : decode cX6_digest 216 = .ok (.iinc 3 1, 3) := by decide +kernel
theorem dX6_digest_219 : decode cX6_digest 219 = .ok (.goto (-25), 3) := by decide +kernel
theorem dX6_digest_222 : decode cX6_digest 222 = .ok (.iconst 0, 1) := by decide +kernel
theorem dX6_digest_223 : decode cX6_digest 223 = .ok (.istore_n 3, 1) := by decide +kernel
theorem dX6_digest_224 : decode cX6_digest 224 = .ok (.iload_n 3, 1) := by decide +kernel
theorem dX6_digest_225 : decode cX6_digest 225 = .ok (.aload_n 0, 1) := by decide +kernel
theorem dX6_digest_226 : decode cX6_digest 226 = .ok (.getfield 10, 3) := by decide +kernel
theorem dX6_digest_229 : decode cX6_digest 229 = .ok (.getfield 95, 3) := by decide +kernel
theorem dX6_digest_232 : decode cX6_digest 232 = .ok (.if_icmp .ge 37, 3) := by decide +kernel
theorem dX6_digest_235 : decode cX6_digest 235 = .ok (.aload_n 0, 1) := by decide +kernel
theorem dX6_digest_236 : decode cX6_digest 236 = .ok (.getfield 10, 3) := by decide +kernel
theorem dX6_digest_239 : decode cX6_digest 239 = .ok (.getfield 98, 3) := by decide +kernel
theorem dX6_digest_242 : decode cX6_digest 242 = .ok (.iload_n 3, 1) := by decide +kernel
theorem dX6_digest_243 : decode cX6_digest 243 = .ok (.aaload, 1) := by decide +kernel
theorem dX6_digest_244 : decode cX6_digest 244 = .ok (.getfield 112, 3) := by decide +kernel
theorem dX6_digest_247 : decode cX6_digest 247 = .ok (.ifCond .eq 16, 3) := by decide +kernel
theorem dX6_digest_250 : decode cX6_digest 250 = .ok (.ldc2_w 234, 3) := by decide +kernel
theorem dX6_digest_253 : decode cX6_digest 253 = .ok (.lload_n 1, 1) := by decide +kernel
theorem dX6_digest_254 : decode cX6_digest 254 = .ok (.lmul, 1) := by decide +kernel
theorem dX6_digest_255 : decode cX6_digest 255 = .ok (.aload_n 0, 1) := by decide +kernel
theorem dX6_digest_256 : decode cX6_digest 256 = .ok (.iload_n 3, 1) := by decide +kernel
theorem dX6_digest_257 : decode cX6_digest 257 = .ok (.invokevirtual 249, 3) := by decide +kernel
theorem dX6_digest_260 : decode cX6_digest 260 = .ok (.i2l, 1) := by decide +kernel
theorem dX6_digest_261 : decode cX6_digest 261 = .ok (.ladd, 1) := by decide +kernel
theorem dX6_digest_262 : decode cX6_digest 262 = .ok (.lstore_n 1, 1) := by decide +kernel
theorem dX6_digest_263 : decode cX6_digest 263 = .ok (.iinc 3 1, 3) := by decide +kernel
theorem dX6_digest_266 : decode cX6_digest 266 = .ok (.goto (-42), 3) := by decide +kernel
theorem dX6_digest_269 : decode cX6_digest 269 = .ok (.lload_n 1, 1) := by decide +kernel
theorem dX6_digest_270 : decode cX6_digest 270 = .ok (.lreturn, 1) := by decide +kernel
theorem dX6_isWithin_0 : decode cX6_isWithin 0 = .ok (.iload_n 0, 1) := by decide +kernel
theorem dX6_isWithin_1 : decode cX6_isWithin 1 = .ok (.iload_n 1, 1) := by decide +kernel
theorem dX6_isWithin_2 : decode cX6_isWithin 2 = .ok (.if_icmp .lt 12, 3) := by decide +kernel
theorem dX6_isWithin_5 : decode cX6_isWithin 5 = .ok (.iload_n 0, 1) := by decide +kernel
theorem dX6_isWithin_6 : decode cX6_isWithin 6 = .ok (.iload_n 2, 1) := by decide +kernel
theorem dX6_isWithin_7 : decode cX6_isWithin 7 = .ok (.if_icmp .gt 7, 3) := by decide +kernel
theorem dX6_isWithin_10 : decode cX6_isWithin 10 = .ok (.iconst 1, 1) := by decide +kernel
theorem dX6_isWithin_11 : decode cX6_isWithin 11 = .ok (.goto 4, 3) := by decide +kernel
theorem dX6_isWithin_14 : decode cX6_isWithin 14 = .ok (.iconst 0, 1) := by decide +kernel
theorem dX6_isWithin_15 : decode cX6_isWithin 15 = .ok (.ireturn, 1) := by decide +kernel
theorem dX6_placedProperty_0 : decode cX6_placedProperty 0 = .ok (.aload_n 0, 1) := by decide +kernel
theorem dX6_placedProperty_1 : decode cX6_placedProperty 1 = .ok (.getfield 10, 3) := by decide +kernel
theorem dX6_placedProperty_4 : decode cX6_placedProperty 4 = .ok (.getfield 98, 3) := by decide +kernel
theorem dX6_placedProperty_7 : decode cX6_placedProperty 7 = .ok (.iload_n 1, 1) := by decide +kernel
theorem dX6_placedProperty_8 : decode cX6_placedProperty 8 = .ok (.aaload, 1) := by decide +kernel
theorem dX6_placedProperty_9 : decode cX6_placedProperty 9 = .ok (.astore_n 3, 1) := by decide +kernel
theorem dX6_placedProperty_10 : decode cX6_placedProperty 10 = .ok (.iload_n 2, 1) := by decide +kernel
theorem dX6_placedProperty_11 : decode cX6_placedProperty 11 = .ok (.tableswitch 126 7 14 #[45, 50, 55, 60, 65, 84, 93, 110], 45) := by decide +kernel
theorem dX6_placedProperty_56 : decode cX6_placedProperty 56 = .ok (.aload_n 3, 1) := by decide +kernel
theorem dX6_placedProperty_57 : decode cX6_placedProperty 57 = .ok (.getfield 252, 3) := by decide +kernel
theorem dX6_placedProperty_60 : decode cX6_placedProperty 60 = .ok (.ireturn, 1) := by decide +kernel
theorem dX6_placedProperty_61 : decode cX6_placedProperty 61 = .ok (.aload_n 3, 1) := by decide +kernel
theorem dX6_placedProperty_62 : decode cX6_placedProperty 62 = .ok (.getfield 255, 3) := by decide +kernel
theorem dX6_placedProperty_65 : decode cX6_placedProperty 65 = .ok (.ireturn, 1) := by decide +kernel
theorem dX6_placedProperty_66 : decode cX6_placedProperty 66 = .ok (.aload_n 3, 1) := by decide +kernel
theorem dX6_placedProperty_67 : decode cX6_placedProperty 67 = .ok (.getfield 150, 3) := by decide +kernel
theorem dX6_placedProperty_70 : decode cX6_placedProperty 70 = .ok (.ireturn, 1) := by decide +kernel
theorem dX6_placedProperty_71 : decode cX6_placedProperty 71 = .ok (.aload_n 3, 1) := by decide +kernel
theorem dX6_placedProperty_72 : decode cX6_placedProperty 72 = .ok (.getfield 167, 3) := by decide +kernel
theorem dX6_placedProperty_75 : decode cX6_placedProperty 75 = .ok (.ireturn, 1) := by decide +kernel
theorem dX6_placedProperty_76 : decode cX6_placedProperty 76 = .ok (.aload_n 0, 1) := by decide +kernel
theorem dX6_placedProperty_77 : decode cX6_placedProperty 77 = .ok (.getfield 10, 3) := by decide +kernel
theorem dX6_placedProperty_80 : decode cX6_placedProperty 80 = .ok (.iload_n 1, 1) := by decide +kernel
theorem dX6_placedProperty_81 : decode cX6_placedProperty 81 = .ok (.aload_n 0, 1) := by decide +kernel
theorem dX6_placedProperty_82 : decode cX6_placedProperty 82 = .ok (.getfield 10, 3) := by decide +kernel
theorem dX6_placedProperty_85 : decode cX6_placedProperty 85 = .ok (.invokevirtual 48, 3) := by decide +kernel
theorem dX6_placedProperty_88 : decode cX6_placedProperty 88 = .ok (.invokevirtual 258, 3) := by decide +kernel
theorem dX6_placedProperty_91 : decode cX6_placedProperty 91 = .ok (.invokestatic 52, 3) := by decide +kernel
theorem dX6_placedProperty_94 : decode cX6_placedProperty 94 = .ok (.ireturn, 1) := by decide +kernel
theorem dX6_placedProperty_95 : decode cX6_placedProperty 95 = .ok (.aload_n 0, 1) := by decide +kernel
theorem dX6_placedProperty_96 : decode cX6_placedProperty 96 = .ok (.getfield 10, 3) := by decide +kernel
theorem dX6_placedProperty_99 : decode cX6_placedProperty 99 = .ok (.iload_n 1, 1) := by decide +kernel
theorem dX6_placedProperty_100 : decode cX6_placedProperty 100 = .ok (.invokevirtual 261, 3) := by decide +kernel
theorem dX6_placedProperty_103 : decode cX6_placedProperty 103 = .ok (.ireturn, 1) := by decide +kernel
theorem dX6_placedProperty_104 : decode cX6_placedProperty 104 = .ok (.aload_n 0, 1) := by decide +kernel
theorem dX6_placedProperty_105 : decode cX6_placedProperty 105 = .ok (.getfield 10, 3) := by decide +kernel
theorem dX6_placedProperty_108 : decode cX6_placedProperty 108 = .ok (.iload_n 1, 1) := by decide +kernel
theorem dX6_placedProperty_109 : decode cX6_placedProperty 109 = .ok (.invokevirtual 151, 3) := by decide +kernel
theorem dX6_placedProperty_112 : decode cX6_placedProperty 112 = .ok (.ifCond .eq 7, 3) := by decide +kernel
theorem dX6_placedProperty_115 : decode cX6_placedProperty 115 = .ok (.iconst 1, 1) := by decide +kernel
theorem dX6_placedProperty_116 : decode cX6_placedProperty 116 = .ok (.goto 4, 3) := by decide +kernel
theorem dX6_placedProperty_119 : decode cX6_placedProperty 119 = .ok (.iconst 0, 1) := by decide +kernel
theorem dX6_placedProperty_120 : decode cX6_placedProperty 120 = .ok (.ireturn, 1) := by decide +kernel
theorem dX6_placedProperty_121 : decode cX6_placedProperty 121 = .ok (.aload_n 0, 1) := by decide +kernel
theorem dX6_placedProperty_122 : decode cX6_placedProperty 122 = .ok (.getfield 10, 3) := by decide +kernel
theorem dX6_placedProperty_125 : decode cX6_placedProperty 125 = .ok (.iload_n 1, 1) := by decide +kernel
theorem dX6_placedProperty_126 : decode cX6_placedProperty 126 = .ok (.aload_n 0, 1) := by decide +kernel
theorem dX6_placedProperty_127 : decode cX6_placedProperty 127 = .ok (.getfield 10, 3) := by decide +kernel
theorem dX6_placedProperty_130 : decode cX6_placedProperty 130 = .ok (.invokevirtual 48, 3) := by decide +kernel
theorem dX6_placedProperty_133 : decode cX6_placedProperty 133 = .ok (.invokevirtual 258, 3) := by decide +kernel
theorem dX6_placedProperty_136 : decode cX6_placedProperty 136 = .ok (.ireturn, 1) := by decide +kernel
theorem dX6_placedProperty_137 : decode cX6_placedProperty 137 = .ok (.aload_n 3, 1) := by decide +kernel
theorem dX6_placedProperty_138 : decode cX6_placedProperty 138 = .ok (.getfield 264, 3) := by decide +kernel
theorem dX6_placedProperty_141 : decode cX6_placedProperty 141 = .ok (.ireturn, 1) := by decide +kernel
theorem dX6_takeOverPacked_0 : decode cX6_takeOverPacked 0 = .ok (.aload_n 0, 1) := by decide +kernel
theorem dX6_takeOverPacked_1 : decode cX6_takeOverPacked 1 = .ok (.getfield 19, 3) := by decide +kernel
theorem dX6_takeOverPacked_4 : decode cX6_takeOverPacked 4 = .ok (.aload_n 0, 1) := by decide +kernel
theorem dX6_takeOverPacked_5 : decode cX6_takeOverPacked 5 = .ok (.getfield 10, 3) := by decide +kernel
theorem dX6_takeOverPacked_8 : decode cX6_takeOverPacked 8 = .ok (.invokevirtual 58, 3) := by decide +kernel
theorem dX6_takeOverPacked_11 : decode cX6_takeOverPacked 11 = .ok (.aload_n 0, 1) := by decide +kernel
theorem dX6_takeOverPacked_12 : decode cX6_takeOverPacked 12 = .ok (.getfield 10, 3) := by decide +kernel
theorem dX6_takeOverPacked_15 : decode cX6_takeOverPacked 15 = .ok (.aload_n 0, 1) := by decide +kernel
theorem dX6_takeOverPacked_16 : decode cX6_takeOverPacked 16 = .ok (.getfield 40, 3) := by decide +kernel
theorem dX6_takeOverPacked_19 : decode cX6_takeOverPacked 19 = .ok (.getfield 265, 3) := by decide +kernel
theorem dX6_takeOverPacked_22 : decode cX6_takeOverPacked 22 = .ok (.invokevirtual 89, 3) := by decide +kernel
theorem dX6_takeOverPacked_25 : decode cX6_takeOverPacked 25 = .ok (.aload_n 0, 1) := by decide +kernel
theorem dX6_takeOverPacked_26 : decode cX6_takeOverPacked 26 = .ok (.getfield 40, 3) := by decide +kernel
theorem dX6_takeOverPacked_29 : decode cX6_takeOverPacked 29 = .ok (.getfield 201, 3) := by decide +kernel
theorem dX6_takeOverPacked_32 : decode cX6_takeOverPacked 32 = .ok (.iconst 0, 1) := by decide +kernel
theorem dX6_takeOverPacked_33 : decode cX6_takeOverPacked 33 = .ok (.iaload, 1) := by decide +kernel
theorem dX6_takeOverPacked_34 : decode cX6_takeOverPacked 34 = .ok (.ireturn, 1) := by decide +kernel
theorem dX7_init_0 : decode cX7_init 0 = .ok (.aload_n 0, 1) := by decide +kernel
theorem dX7_init_1 : decode cX7_init 1 = .ok (.invokespecial 1, 3) := by decide +kernel
theorem dX7_init_4 : decode cX7_init 4 = .ok (.aload_n 0, 1) := by decide +kernel
theorem dX7_init_5 : decode cX7_init 5 = .ok (.sipush 1375, 3) := by decide +kernel
theorem dX7_init_8 : decode cX7_init 8 = .ok (.newarray .int, 2) := by decide +kernel
theorem dX7_init_10 : decode cX7_init 10 = .ok (.putfield 7, 3) := by decide +kernel
theorem dX7_init_13 : decode cX7_init 13 = .ok (.aload_n 0, 1) := by decide +kernel
theorem dX7_init_14 : decode cX7_init 14 = .ok (.bipush 100, 2) := by decide +kernel
theorem dX7_init_16 : decode cX7_init 16 = .ok (.newarray .int, 2) := by decide +kernel
theorem dX7_init_18 : decode cX7_init 18 = .ok (.putfield 13, 3) := by decide +kernel
theorem dX7_init_21 : decode cX7_init 21 = .ok (.aload_n 0, 1) := by decide +kernel
theorem dX7_init_22 : decode cX7_init 22 = .ok (.bipush 100, 2) := by decide +kernel
theorem dX7_init_24 : decode cX7_init 24 = .ok (.newarray .int, 2) := by decide +kernel
theorem dX7_init_26 : decode cX7_init 26 = .ok (.putfield 16, 3) := by decide +kernel
theorem dX7_init_29 : decode cX7_init 29 = .ok (.aload_n 0, 1) := by decide +kernel
theorem dX7_init_30 : decode cX7_init 30 = .ok (.bipush 12, 2) := by decide +kernel
theorem dX7_init_32 : decode cX7_init 32 = .ok (.newarray .int, 2) := by decide +kernel
theorem dX7_init_34 : decode cX7_init 34 = .ok (.putfield 19, 3) := by decide +kernel
theorem dX7_init_37 : decode cX7_init 37 = .ok (.aload_n 0, 1) := by decide +kernel
theorem dX7_init_38 : decode cX7_init 38 = .ok (.bipush 12, 2) := by decide +kernel
theorem dX7_init_40 : decode cX7_init 40 = .ok (.newarray .int, 2) := by decide +kernel
theorem dX7_init_42 : decode cX7_init 42 = .ok (.putfield 22, 3) := by decide +kernel
theorem dX7_init_45 : decode cX7_init 45 = .ok (.aload_n 0, 1) := by decide +kernel
theorem dX7_init_46 : decode cX7_init 46 = .ok (.iconst 4, 1) := by decide +kernel
theorem dX7_init_47 : decode cX7_init 47 = .ok (.newarray .int, 2) := by decide +kernel
theorem dX7_init_49 : decode cX7_init 49 = .ok (.putfield 25, 3) := by decide +kernel
theorem dX7_init_52 : decode cX7_init 52 = .ok (.aload_n 0, 1) := by decide +kernel
theorem dX7_init_53 : decode cX7_init 53 = .ok (.bipush 12, 2) := by decide +kernel
theorem dX7_init_55 : decode cX7_init 55 = .ok (.newarray .int, 2) := by decide +kernel
theorem dX7_init_57 : decode cX7_init 57 = .ok (.putfield 28, 3) := by decide +kernel
theorem dX7_init_60 : decode cX7_init 60 = .ok (.aload_n 0, 1) := by decide +kernel
theorem dX7_init_61 : decode cX7_init 61 = .ok (.getfield 7, 3) := by decide +kernel
theorem dX7_init_64 : decode cX7_init 64 = .ok (.iconst 0, 1) := by decide +kernel
theorem dX7_init_65 : decode cX7_init 65 = .ok (.bipush 6, 2) := by decide +kernel
theorem dX7_init_67 : decode cX7_init 67 = .ok (.iastore, 1) := by decide +kernel
theorem dX7_init_68 : decode cX7_init 68 = .ok (.aload_n 0, 1) := by decide +kernel
theorem dX7_init_69 : decode cX7_init 69 = .ok (.getfield 7, 3) := by decide +kernel
theorem dX7_init_72 : decode cX7_init 72 = .ok (.iconst 1, 1) := by decide +kernel
theorem dX7_init_73 : decode cX7_init 73 = .ok (.bipush 6, 2) := by decide +kernel
theorem dX7_init_75 : decode cX7_init 75 = .ok (.iastore, 1) := by decide +kernel
theorem dX7_init_76 : decode cX7_init 76 = .ok (.aload_n 0, 1) := by decide +kernel
theorem dX7_init_77 : decode cX7_init 77 = .ok (.getfield 7, 3) := by decide +kernel
theorem dX7_init_80 : decode cX7_init 80 = .ok (.iconst 2, 1) := by decide +kernel
theorem dX7_init_81 : decode cX7_init 81 = .ok (.bipush 12, 2) := by decide +kernel
theorem dX7_init_83 : decode cX7_init 83 = .ok (.iastore, 1) := by decide +kernel
theorem dX7_init_84 : decode cX7_init 84 = .ok (.aload_n 0, 1) := by decide +kernel
theorem dX7_init_85 : decode cX7_init 85 = .ok (.getfield 7, 3) := by decide +kernel
theorem dX7_init_88 : decode cX7_init 88 = .ok (.iconst 3, 1) := by decide +kernel
theorem dX7_init_89 : decode cX7_init 89 = .ok (.bipush 50, 2) := by decide +kernel
theorem dX7_init_91 : decode cX7_init 91 = .ok (.iastore, 1) := by decide +kernel
theorem dX7_init_92 : decode cX7_init 92 = .ok (.return_, 1) := by decide +kernel
theorem dX7_in_0 : decode cX7_in 0 = .ok (.iload_n 0, 1) := by decide +kernel
theorem dX7_in_1 : decode cX7_in 1 = .ok (.iload_n 1, 1) := by decide +kernel
theorem dX7_in_2 : decode cX7_in 2 = .ok (.if_icmp .lt 12, 3) := by decide +kernel
theorem dX7_in_5 : decode cX7_in 5 = .ok (.iload_n 0, 1) := by decide +kernel
theorem dX7_in_6 : decode cX7_in 6 = .ok (.iload_n 2, 1) := by decide +kernel
theorem dX7_in_7 : decode cX7_in 7 = .ok (.if_icmp .gt 7, 3) := by decide +kernel
theorem dX7_in_10 : decode cX7_in 10 = .ok (.iconst 1, 1) := by decide +kernel
theorem dX7_in_11 : decode cX7_in 11 = .ok (.goto 4, 3) := by decide +kernel
theorem dX7_in_14 : decode cX7_in 14 = .ok (.iconst 0, 1) := by decide +kernel
theorem dX7_in_15 : decode cX7_in 15 = .ok (.ireturn, 1) := by decide +kernel
theorem dX7_copies_0 : decode cX7_copies 0 = .ok (.iconst 0, 1) := by decide +kernel
theorem dX7_copies_1 : decode cX7_copies 1 = .ok (.istore_n 3, 1) := by decide +kernel
theorem dX7_copies_2 : decode cX7_copies 2 = .ok (.iload_n 3, 1) := by decide +kernel
theorem dX7_copies_3 : decode cX7_copies 3 = .ok (.bipush 125, 2) := by decide +kernel
theorem dX7_copies_5 : decode cX7_copies 5 = .ok (.if_icmp .ge 31, 3) := by decide +kernel
theorem dX7_copies_8 : decode cX7_copies 8 = .ok (.aload_n 0, 1) := by decide +kernel
theorem dX7_copies_9 : decode cX7_copies 9 = .ok (.getfield 7, 3) := by decide +kernel
theorem dX7_copies_12 : decode cX7_copies 12 = .ok (.bipush 125, 2) := by decide +kernel
theorem dX7_copies_14 : decode cX7_copies 14 = .ok (.iload_n 2, 1) := by decide +kernel
theorem dX7_copies_15 : decode cX7_copies 15 = .ok (.imul, 1) := by decide +kernel
theorem dX7_copies_16 : decode cX7_copies 16 = .ok (.iload_n 3, 1) := by decide +kernel
theorem dX7_copies_17 : decode cX7_copies 17 = .ok (.iadd, 1) := by decide +kernel
theorem dX7_copies_18 : decode cX7_copies 18 = .ok (.aload_n 0, 1) := by decide +kernel
theorem dX7_copies_19 : decode cX7_copies 19 = .ok (.getfield 7, 3) := by decide +kernel
theorem dX7_copies_22 : decode cX7_copies 22 = .ok (.bipush 125, 2) := by decide +kernel
theorem dX7_copies_24 : decode cX7_copies 24 = .ok (.iload_n 1, 1) := by decide +kernel
theorem dX7_copies_25 : decode cX7_copies 25 = .ok (.imul, 1) := by decide +kernel
theorem dX7_copies_26 : decode cX7_copies 26 = .ok (.iload_n 3, 1) := by decide +kernel
theorem dX7_copies_27 : decode cX7_copies 27 = .ok (.iadd, 1) := by decide +kernel
theorem dX7_copies_28 : decode cX7_copies 28 = .ok (.iaload, 1) := by decide +kernel
theorem dX7_copies_29 : decode cX7_copies 29 = .ok (.iastore, 1) := by decide +kernel
theorem dX7_copies_30 : decode cX7_copies 30 = .ok (.iinc 3 1, 3) := by decide +kernel
theorem dX7_copies_33 : decode cX7_copies 33 = .ok (.goto (-31), 3) := by decide +kernel
theorem dX7_copies_36 : decode cX7_copies 36 = .ok (.return_, 1) := by decide +kernel
theorem dX7_records_0 : decode cX7_records 0 = .ok (.aload_n 0, 1) := by decide +kernel
theorem dX7_records_1 : decode cX7_records 1 = .ok (.getfield 31, 3) := by decide +kernel
theorem dX7_records_4 : decode cX7_records 4 = .ok (.bipush 8, 2) := by decide +kernel
theorem dX7_records_6 : decode cX7_records 6 = .ok (.if_icmp .ne 35, 3) := by decide +kernel
theorem dX7_records_9 : decode cX7_records 9 = .ok (.iconst 1, 1) := by decide +kernel
theorem dX7_records_10 : decode cX7_records 10 = .ok (.istore_n 1, 1) := by decide +kernel
theorem dX7_records_11 : decode cX7_records 11 = .ok (.iload_n 1, 1) := by decide +kernel
theorem dX7_records_12 : decode cX7_records 12 = .ok (.bipush 8, 2) := by decide +kernel
theorem dX7_records_14 : decode cX7_records 14 = .ok (.if_icmp .ge 17, 3) := by decide +kernel
theorem dX7_records_17 : decode cX7_records 17 = .ok (.aload_n 0, 1) := by decide +kernel
theorem dX7_records_18 : decode cX7_records 18 = .ok (.iload_n 1, 1) := by decide +kernel
theorem dX7_records_19 : decode cX7_records 19 = .ok (.iconst 1, 1) := by decide +kernel
theorem dX7_records_20 : decode cX7_records 20 = .ok (.iadd, 1) := by decide +kernel
theorem dX7_records_21 : decode cX7_records 21 = .ok (.iload_n 1, 1) := by decide +kernel
theorem dX7_records_22 : decode cX7_records 22 = .ok (.invokevirtual 35, 3) := by decide +kernel
theorem dX7_records_25 : decode cX7_records 25 = .ok (.iinc 1 1, 3) := by decide +kernel
theorem dX7_records_28 : decode cX7_records 28 = .ok (.goto (-17), 3) := by decide +kernel
theorem dX7_records_31 : decode cX7_records 31 = .ok (.aload_n 0, 1) := by decide +kernel
theorem dX7_records_32 : decode cX7_records 32 = .ok (.dup, 1) := by decide +kernel
theorem dX7_records_33 : decode cX7_records 33 = .ok (.getfield 31, 3) := by decide +kernel
theorem dX7_records_36 : decode cX7_records 36 = .ok (.iconst 1, 1) := by decide +kernel
theorem dX7_records_37 : decode cX7_records 37 = .ok (.isub, 1) := by decide +kernel
theorem dX7_records_38 : decode cX7_records 38 = .ok (.putfield 31, 3) := by decide +kernel
theorem dX7_records_41 : decode cX7_records 41 = .ok (.aload_n 0, 1) := by decide +kernel
theorem dX7_records_42 : decode cX7_records 42 = .ok (.dup, 1) := by decide +kernel
theorem dX7_records_43 : decode cX7_records 43 = .ok (.getfield 31, 3) := by decide +kernel
theorem dX7_records_46 : decode cX7_records 46 = .ok (.iconst 1, 1) := by decide +kernel
theorem dX7_records_47 : decode cX7_records 47 = .ok (.iadd, 1) := by decide +kernel
theorem dX7_records_48 : decode cX7_records 48 = .ok (.putfield 31, 3) := by decide +kernel
theorem dX7_records_51 : decode cX7_records 51 = .ok (.aload_n 0, 1) := by decide +kernel
theorem dX7_records_52 : decode cX7_records 52 = .ok (.iconst 0, 1) := by decide +kernel
theorem dX7_records_53 : decode cX7_records 53 = .ok (.aload_n 0, 1) := by decide +kernel
theorem dX7_records_54 : decode cX7_records 54 = .ok (.getfield 31, 3) := by decide +kernel
theorem dX7_records_57 : decode cX7_records 57 = .ok (.invokevirtual 35, 3) := by decide +kernel
theorem dX7_records_60 : decode cX7_records 60 = .ok (.return_, 1) := by decide +kernel
theorem dX7_undo_0 : decode cX7_undo 0 = .ok (.aload_n 0, 1) := by decide +kernel
theorem dX7_undo_1 : decode cX7_undo 1 = .ok (.getfield 31, 3) := by decide +kernel
theorem dX7_undo_4 : decode cX7_undo 4 = .ok (.ifCond .ne 6, 3) := by decide +kernel
theorem dX7_undo_7 : decode cX7_undo 7 = .ok (.bipush (-2), 2) := by decide +kernel
theorem dX7_undo_9 : decode cX7_undo 9 = .ok (.ireturn, 1) := by decide +kernel
theorem dX7_undo_10 : decode cX7_undo 10 = .ok (.aload_n 0, 1) := by decide +kernel
theorem dX7_undo_11 : decode cX7_undo 11 = .ok (.aload_n 0, 1) := by decide +kernel
theorem dX7_undo_12 : decode cX7_undo 12 = .ok (.getfield 31, 3) := by decide +kernel
theorem dX7_undo_15 : decode cX7_undo 15 = .ok (.iconst 0, 1) := by decide +kernel
theorem dX7_undo_16 : decode cX7_undo 16 = .ok (.invokevirtual 35, 3) := by decide +kernel
theorem dX7_undo_19 : decode cX7_undo 19 = .ok (.aload_n 0, 1) := by decide +kernel
theorem dX7_undo_20 : decode cX7_undo 20 = .ok (.dup, 1) := by decide +kernel
theorem dX7_undo_21 : decode cX7_undo 21 = .ok (.getfield 31, 3) := by decide +kernel
theorem dX7_undo_24 : decode cX7_undo 24 = .ok (.iconst 1, 1) := by decide +kernel
theorem dX7_undo_25 : decode cX7_undo 25 = .ok (.isub, 1) := by decide +kernel
theorem dX7_undo_26 : decode cX7_undo 26 = .ok (.putfield 31, 3) := by decide +kernel
theorem dX7_undo_29 : decode cX7_undo 29 = .ok (.aload_n 0, 1) := by decide +kernel
theorem dX7_undo_30 : decode cX7_undo 30 = .ok (.getfield 31, 3) := by decide +kernel
theorem dX7_undo_33 : decode cX7_undo 33 = .ok (.ireturn, 1) := by decide +kernel
theorem dX7_of_0 : decode cX7_of 0 = .ok (.aload_n 0, 1) := by decide +kernel
theorem dX7_of_1 : decode cX7_of 1 = .ok (.getfield 7, 3) := by decide +kernel
theorem dX7_of_4 : decode cX7_of 4 = .ok (.iconst 5, 1) := by decide +kernel
theorem dX7_of_5 : decode cX7_of 5 = .ok (.bipush 10, 2) := by decide +kernel
theorem dX7_of_7 : decode cX7_of 7 = .ok (.iload_n 1, 1) := by decide +kernel
theorem dX7_of_8 : decode cX7_of 8 = .ok (.imul, 1) := by decide +kernel
theorem dX7_of_9 : decode cX7_of 9 = .ok (.iadd, 1) := by decide +kernel
theorem dX7_of_10 : decode cX7_of 10 = .ok (.iload_n 2, 1) := by decide +kernel
theorem dX7_of_11 : decode cX7_of 11 = .ok (.iadd, 1) := by decide +kernel
theorem dX7_of_12 : decode cX7_of 12 = .ok (.iaload, 1) := by decide +kernel
theorem dX7_of_13 : decode cX7_of 13 = .ok (.ireturn, 1) := by decide +kernel
theorem dX7_sets_0 : decode cX7_sets 0 = .ok (.aload_n 0, 1) := by decide +kernel
theorem dX7_sets_1 : decode cX7_sets 1 = .ok (.getfield 7, 3) := by decide +kernel
theorem dX7_sets_4 : decode cX7_sets 4 = .ok (.iconst 5, 1) := by decide +kernel
theorem dX7_sets_5 : decode cX7_sets 5 = .ok (.bipush 10, 2) := by decide +kernel
theorem dX7_sets_7 : decode cX7_sets 7 = .ok (.iload_n 1, 1) := by decide +kernel
theorem dX7_sets_8 : decode cX7_sets 8 = .ok (.imul, 1) := by decide +kernel
theorem dX7_sets_9 : decode cX7_sets 9 = .ok (.iadd, 1) := by decide +kernel
theorem dX7_sets_10 : decode cX7_sets 10 = .ok (.iload_n 2, 1) := by decide +kernel
theorem dX7_sets_11 : decode cX7_sets 11 = .ok (.iadd, 1) := by decide +kernel
theorem dX7_sets_12 : decode cX7_sets 12 = .ok (.iload_n 3, 1) := by decide +kernel
theorem dX7_sets_13 : decode cX7_sets 13 = .ok (.iastore, 1) := by decide +kernel
theorem dX7_sets_14 : decode cX7_sets 14 = .ok (.return_, 1) := by decide +kernel
theorem dX7_trays_0 : decode cX7_trays 0 = .ok (.aload_n 0, 1) := by decide +kernel
theorem dX7_trays_1 : decode cX7_trays 1 = .ok (.getfield 7, 3) := by decide +kernel
theorem dX7_trays_4 : decode cX7_trays 4 = .ok (.iconst 4, 1) := by decide +kernel
theorem dX7_trays_5 : decode cX7_trays 5 = .ok (.iaload, 1) := by decide +kernel
theorem dX7_trays_6 : decode cX7_trays 6 = .ok (.ireturn, 1) := by decide +kernel
theorem dX7_isTray_0 : decode cX7_isTray 0 = .ok (.iload_n 1, 1) := by decide +kernel
theorem dX7_isTray_1 : decode cX7_isTray 1 = .ok (.iconst 0, 1) := by decide +kernel
theorem dX7_isTray_2 : decode cX7_isTray 2 = .ok (.aload_n 0, 1) := by decide +kernel
theorem dX7_isTray_3 : decode cX7_isTray 3 = .ok (.invokevirtual 39, 3) := by decide +kernel
theorem dX7_isTray_6 : decode cX7_isTray 6 = .ok (.iconst 1, 1) := by decide +kernel
theorem dX7_isTray_7 : decode cX7_isTray 7 = .ok (.isub, 1) := by decide +kernel
theorem dX7_isTray_8 : decode cX7_isTray 8 = .ok (.invokestatic 43, 3) := by decide +kernel
theorem dX7_isTray_11 : decode cX7_isTray 11 = .ok (.ireturn, 1) := by decide +kernel
theorem dX7_isIn_0 : decode cX7_isIn 0 = .ok (.aload_n 0, 1) := by decide +kernel
theorem dX7_isIn_1 : decode cX7_isIn 1 = .ok (.iload_n 1, 1) := by decide +kernel
theorem dX7_isIn_2 : decode cX7_isIn 2 = .ok (.iconst 5, 1) := by decide +kernel
theorem dX7_isIn_3 : decode cX7_isIn 3 = .ok (.invokevirtual 47, 3) := by decide +kernel
theorem dX7_isIn_6 : decode cX7_isIn 6 = .ok (.iconst 1, 1) := by decide +kernel
theorem dX7_isIn_7 : decode cX7_isIn 7 = .ok (.if_icmp .ne 7, 3) := by decide +kernel
theorem dX7_isIn_10 : decode cX7_isIn 10 = .ok (.iconst 1, 1) := by decide +kernel
theorem dX7_isIn_11 : decode cX7_isIn 11 = .ok (.goto 4, 3) := by decide +kernel
theorem dX7_isIn_14 : decode cX7_isIn 14 = .ok (.iconst 0, 1) := by decide +kernel
theorem dX7_isIn_15 : decode cX7_isIn 15 = .ok (.ireturn, 1) := by decide +kernel
theorem dX7_high_0 : decode cX7_high 0 = .ok (.aload_n 0, 1) := by decide +kernel
theorem dX7_high_1 : decode cX7_high 1 = .ok (.iload_n 1, 1) := by decide +kernel
theorem dX7_high_2 : decode cX7_high 2 = .ok (.iconst 2, 1) := by decide +kernel
theorem dX7_high_3 : decode cX7_high 3 = .ok (.invokevirtual 47, 3) := by decide +kernel
theorem dX7_high_6 : decode cX7_high 6 = .ok (.aload_n 0, 1) := by decide +kernel
theorem dX7_high_7 : decode cX7_high 7 = .ok (.iload_n 1, 1) := by decide +kernel
theorem dX7_high_8 : decode cX7_high 8 = .ok (.iconst 4, 1) := by decide +kernel
theorem dX7_high_9 : decode cX7_high 9 = .ok (.invokevirtual 47, 3) := by decide +kernel
theorem dX7_high_12 : decode cX7_high 12 = .ok (.iadd, 1) := by decide +kernel
theorem dX7_high_13 : decode cX7_high 13 = .ok (.ireturn, 1) := by decide +kernel
theorem dX7_top_0 : decode cX7_top 0 = .ok (.aload_n 0, 1) := by decide +kernel
theorem dX7_top_1 : decode cX7_top 1 = .ok (.iload_n 1, 1) := by decide +kernel
theorem dX7_top_2 : decode cX7_top 2 = .ok (.bipush 9, 2) := by decide +kernel
theorem dX7_top_4 : decode cX7_top 4 = .ok (.invokevirtual 47, 3) := by decide +kernel
theorem dX7_top_7 : decode cX7_top 7 = .ok (.aload_n 0, 1) := by decide +kernel
theorem dX7_top_8 : decode cX7_top 8 = .ok (.iload_n 1, 1) := by decide +kernel
theorem dX7_top_9 : decode cX7_top 9 = .ok (.invokevirtual 51, 3) := by decide +kernel
theorem dX7_top_12 : decode cX7_top 12 = .ok (.iadd, 1) := by decide +kernel
theorem dX7_top_13 : decode cX7_top 13 = .ok (.ireturn, 1) := by decide +kernel
theorem dX7_along_0 : decode cX7_along 0 = .ok (.aload_n 0, 1) := by decide +kernel
theorem dX7_along_1 : decode cX7_along 1 = .ok (.iload_n 1, 1) := by decide +kernel
