theorem dX0_init_0 : decode cX0_init 0 = .ok (.aload_n 0, 1) := by decide +kernel
theorem dX0_init_1 : decode cX0_init 1 = .ok (.invokespecial 3, 3) := by decide +kernel
theorem dX0_init_4 : decode cX0_init 4 = .ok (.aload_n 0, 1) := by decide +kernel
theorem dX0_init_5 : decode cX0_init 5 = .ok (.bipush 6, 2) := by decide +kernel
theorem dX0_init_7 : decode cX0_init 7 = .ok (.putfield 9, 3) := by decide +kernel
theorem dX0_init_10 : decode cX0_init 10 = .ok (.aload_n 0, 1) := by decide +kernel
theorem dX0_init_11 : decode cX0_init 11 = .ok (.bipush 6, 2) := by decide +kernel
theorem dX0_init_13 : decode cX0_init 13 = .ok (.putfield 15, 3) := by decide +kernel
theorem dX0_init_16 : decode cX0_init 16 = .ok (.aload_n 0, 1) := by decide +kernel
theorem dX0_init_17 : decode cX0_init 17 = .ok (.bipush 12, 2) := by decide +kernel
theorem dX0_init_19 : decode cX0_init 19 = .ok (.putfield 18, 3) := by decide +kernel
theorem dX0_init_22 : decode cX0_init 22 = .ok (.aload_n 0, 1) := by decide +kernel
theorem dX0_init_23 : decode cX0_init 23 = .ok (.bipush 50, 2) := by decide +kernel
theorem dX0_init_25 : decode cX0_init 25 = .ok (.putfield 21, 3) := by decide +kernel
theorem dX0_init_28 : decode cX0_init 28 = .ok (.aload_n 0, 1) := by decide +kernel
theorem dX0_init_29 : decode cX0_init 29 = .ok (.bipush 12, 2) := by decide +kernel
theorem dX0_init_31 : decode cX0_init 31 = .ok (.anewarray 24, 3) := by decide +kernel
theorem dX0_init_34 : decode cX0_init 34 = .ok (.putfield 26, 3) := by decide +kernel
theorem dX0_init_37 : decode cX0_init 37 = .ok (.iconst 0, 1) := by decide +kernel
theorem dX0_init_38 : decode cX0_init 38 = .ok (.istore_n 1, 1) := by decide +kernel
theorem dX0_init_39 : decode cX0_init 39 = .ok (.iload_n 1, 1) := by decide +kernel
theorem dX0_init_40 : decode cX0_init 40 = .ok (.bipush 12, 2) := by decide +kernel
theorem dX0_init_42 : decode cX0_init 42 = .ok (.if_icmp .ge 22, 3) := by decide +kernel
theorem dX0_init_45 : decode cX0_init 45 = .ok (.aload_n 0, 1) := by decide +kernel
theorem dX0_init_46 : decode cX0_init 46 = .ok (.getfield 26, 3) := by decide +kernel
theorem dX0_init_49 : decode cX0_init 49 = .ok (.iload_n 1, 1) := by decide +kernel
theorem dX0_init_50 : decode cX0_init 50 = .ok (.new 24, 3) := by decide +kernel
theorem dX0_init_53 : decode cX0_init 53 = .ok (.dup, 1) := by decide +kernel
theorem dX0_init_54 : decode cX0_init 54 = .ok (.invokespecial 30, 3) := by decide +kernel
theorem dX0_init_57 : decode cX0_init 57 = .ok (.aastore, 1) := by decide +kernel
theorem dX0_init_58 : decode cX0_init 58 = .ok (.iinc 1 1, 3) := by decide +kernel
theorem dX0_init_61 : decode cX0_init 61 = .ok (.goto (-22), 3) := by decide +kernel
theorem dX0_init_64 : decode cX0_init 64 = .ok (.return_, 1) := by decide +kernel
theorem dX0_copyFrom_0 : decode cX0_copyFrom 0 = .ok (.aload_n 0, 1) := by decide +kernel
theorem dX0_copyFrom_1 : decode cX0_copyFrom 1 = .ok (.aload_n 1, 1) := by decide +kernel
theorem dX0_copyFrom_2 : decode cX0_copyFrom 2 = .ok (.getfield 9, 3) := by decide +kernel
theorem dX0_copyFrom_5 : decode cX0_copyFrom 5 = .ok (.putfield 9, 3) := by decide +kernel
theorem dX0_copyFrom_8 : decode cX0_copyFrom 8 = .ok (.aload_n 0, 1) := by decide +kernel
theorem dX0_copyFrom_9 : decode cX0_copyFrom 9 = .ok (.aload_n 1, 1) := by decide +kernel
theorem dX0_copyFrom_10 : decode cX0_copyFrom 10 = .ok (.getfield 15, 3) := by decide +kernel
theorem dX0_copyFrom_13 : decode cX0_copyFrom 13 = .ok (.putfield 15, 3) := by decide +kernel
theorem dX0_copyFrom_16 : decode cX0_copyFrom 16 = .ok (.aload_n 0, 1) := by decide +kernel
theorem dX0_copyFrom_17 : decode cX0_copyFrom 17 = .ok (.aload_n 1, 1) := by decide +kernel
theorem dX0_copyFrom_18 : decode cX0_copyFrom 18 = .ok (.getfield 18, 3) := by decide +kernel
theorem dX0_copyFrom_21 : decode cX0_copyFrom 21 = .ok (.putfield 18, 3) := by decide +kernel
theorem dX0_copyFrom_24 : decode cX0_copyFrom 24 = .ok (.aload_n 0, 1) := by decide +kernel
theorem dX0_copyFrom_25 : decode cX0_copyFrom 25 = .ok (.aload_n 1, 1) := by decide +kernel
theorem dX0_copyFrom_26 : decode cX0_copyFrom 26 = .ok (.getfield 21, 3) := by decide +kernel
theorem dX0_copyFrom_29 : decode cX0_copyFrom 29 = .ok (.putfield 21, 3) := by decide +kernel
theorem dX0_copyFrom_32 : decode cX0_copyFrom 32 = .ok (.aload_n 0, 1) := by decide +kernel
theorem dX0_copyFrom_33 : decode cX0_copyFrom 33 = .ok (.aload_n 1, 1) := by decide +kernel
theorem dX0_copyFrom_34 : decode cX0_copyFrom 34 = .ok (.invokevirtual 31, 3) := by decide +kernel
theorem dX0_copyFrom_37 : decode cX0_copyFrom 37 = .ok (.return_, 1) := by decide +kernel
theorem dX0_copyTrays_0 : decode cX0_copyTrays 0 = .ok (.aload_n 0, 1) := by decide +kernel
theorem dX0_copyTrays_1 : decode cX0_copyTrays 1 = .ok (.aload_n 1, 1) := by decide +kernel
theorem dX0_copyTrays_2 : decode cX0_copyTrays 2 = .ok (.getfield 35, 3) := by decide +kernel
theorem dX0_copyTrays_5 : decode cX0_copyTrays 5 = .ok (.putfield 35, 3) := by decide +kernel
theorem dX0_copyTrays_8 : decode cX0_copyTrays 8 = .ok (.iconst 0, 1) := by decide +kernel
theorem dX0_copyTrays_9 : decode cX0_copyTrays 9 = .ok (.istore_n 2, 1) := by decide +kernel
theorem dX0_copyTrays_10 : decode cX0_copyTrays 10 = .ok (.iload_n 2, 1) := by decide +kernel
theorem dX0_copyTrays_11 : decode cX0_copyTrays 11 = .ok (.aload_n 0, 1) := by decide +kernel
theorem dX0_copyTrays_12 : decode cX0_copyTrays 12 = .ok (.getfield 35, 3) := by decide +kernel
theorem dX0_copyTrays_15 : decode cX0_copyTrays 15 = .ok (.if_icmp .ge 24, 3) := by decide +kernel
theorem dX0_copyTrays_18 : decode cX0_copyTrays 18 = .ok (.aload_n 0, 1) := by decide +kernel
theorem dX0_copyTrays_19 : decode cX0_copyTrays 19 = .ok (.getfield 26, 3) := by decide +kernel
theorem dX0_copyTrays_22 : decode cX0_copyTrays 22 = .ok (.iload_n 2, 1) := by decide +kernel
theorem dX0_copyTrays_23 : decode cX0_copyTrays 23 = .ok (.aaload, 1) := by decide +kernel
theorem dX0_copyTrays_24 : decode cX0_copyTrays 24 = .ok (.aload_n 1, 1) := by decide +kernel
theorem dX0_copyTrays_25 : decode cX0_copyTrays 25 = .ok (.getfield 26, 3) := by decide +kernel
theorem dX0_copyTrays_28 : decode cX0_copyTrays 28 = .ok (.iload_n 2, 1) := by decide +kernel
theorem dX0_copyTrays_29 : decode cX0_copyTrays 29 = .ok (.aaload, 1) := by decide +kernel
theorem dX0_copyTrays_30 : decode cX0_copyTrays 30 = .ok (.invokevirtual 38, 3) := by decide +kernel
theorem dX0_copyTrays_33 : decode cX0_copyTrays 33 = .ok (.iinc 2 1, 3) := by decide +kernel
theorem dX0_copyTrays_36 : decode cX0_copyTrays 36 = .ok (.goto (-26), 3) := by decide +kernel
theorem dX0_copyTrays_39 : decode cX0_copyTrays 39 = .ok (.return_, 1) := by decide +kernel
theorem dX0_clear_0 : decode cX0_clear 0 = .ok (.iconst 0, 1) := by decide +kernel
theorem dX0_clear_1 : decode cX0_clear 1 = .ok (.istore_n 1, 1) := by decide +kernel
theorem dX0_clear_2 : decode cX0_clear 2 = .ok (.iload_n 1, 1) := by decide +kernel
theorem dX0_clear_3 : decode cX0_clear 3 = .ok (.aload_n 0, 1) := by decide +kernel
theorem dX0_clear_4 : decode cX0_clear 4 = .ok (.getfield 35, 3) := by decide +kernel
theorem dX0_clear_7 : decode cX0_clear 7 = .ok (.if_icmp .ge 18, 3) := by decide +kernel
theorem dX0_clear_10 : decode cX0_clear 10 = .ok (.aload_n 0, 1) := by decide +kernel
theorem dX0_clear_11 : decode cX0_clear 11 = .ok (.getfield 26, 3) := by decide +kernel
theorem dX0_clear_14 : decode cX0_clear 14 = .ok (.iload_n 1, 1) := by decide +kernel
theorem dX0_clear_15 : decode cX0_clear 15 = .ok (.aaload, 1) := by decide +kernel
theorem dX0_clear_16 : decode cX0_clear 16 = .ok (.invokevirtual 42, 3) := by decide +kernel
theorem dX0_clear_19 : decode cX0_clear 19 = .ok (.iinc 1 1, 3) := by decide +kernel
theorem dX0_clear_22 : decode cX0_clear 22 = .ok (.goto (-20), 3) := by decide +kernel
theorem dX0_clear_25 : decode cX0_clear 25 = .ok (.return_, 1) := by decide +kernel
theorem dX0_remove_0 : decode cX0_remove 0 = .ok (.iload_n 1, 1) := by decide +kernel
theorem dX0_remove_1 : decode cX0_remove 1 = .ok (.istore_n 2, 1) := by decide +kernel
theorem dX0_remove_2 : decode cX0_remove 2 = .ok (.iload_n 2, 1) := by decide +kernel
theorem dX0_remove_3 : decode cX0_remove 3 = .ok (.aload_n 0, 1) := by decide +kernel
theorem dX0_remove_4 : decode cX0_remove 4 = .ok (.getfield 35, 3) := by decide +kernel
theorem dX0_remove_7 : decode cX0_remove 7 = .ok (.iconst 1, 1) := by decide +kernel
theorem dX0_remove_8 : decode cX0_remove 8 = .ok (.isub, 1) := by decide +kernel
theorem dX0_remove_9 : decode cX0_remove 9 = .ok (.if_icmp .ge 26, 3) := by decide +kernel
theorem dX0_remove_12 : decode cX0_remove 12 = .ok (.aload_n 0, 1) := by decide +kernel
theorem dX0_remove_13 : decode cX0_remove 13 = .ok (.getfield 26, 3) := by decide +kernel
theorem dX0_remove_16 : decode cX0_remove 16 = .ok (.iload_n 2, 1) := by decide +kernel
theorem dX0_remove_17 : decode cX0_remove 17 = .ok (.aaload, 1) := by decide +kernel
theorem dX0_remove_18 : decode cX0_remove 18 = .ok (.aload_n 0, 1) := by decide +kernel
theorem dX0_remove_19 : decode cX0_remove 19 = .ok (.getfield 26, 3) := by decide +kernel
theorem dX0_remove_22 : decode cX0_remove 22 = .ok (.iload_n 2, 1) := by decide +kernel
theorem dX0_remove_23 : decode cX0_remove 23 = .ok (.iconst 1, 1) := by decide +kernel
theorem dX0_remove_24 : decode cX0_remove 24 = .ok (.iadd, 1) := by decide +kernel
theorem dX0_remove_25 : decode cX0_remove 25 = .ok (.aaload, 1) := by decide +kernel
theorem dX0_remove_26 : decode cX0_remove 26 = .ok (.invokevirtual 38, 3) := by decide +kernel
theorem dX0_remove_29 : decode cX0_remove 29 = .ok (.iinc 2 1, 3) := by decide +kernel
theorem dX0_remove_32 : decode cX0_remove 32 = .ok (.goto (-30), 3) := by decide +kernel
theorem dX0_remove_35 : decode cX0_remove 35 = .ok (.aload_n 0, 1) := by decide +kernel
theorem dX0_remove_36 : decode cX0_remove 36 = .ok (.dup, 1) := by decide +kernel
theorem dX0_remove_37 : decode cX0_remove 37 = .ok (.getfield 35, 3) := by decide +kernel
theorem dX0_remove_40 : decode cX0_remove 40 = .ok (.iconst 1, 1) := by decide +kernel
theorem dX0_remove_41 : decode cX0_remove 41 = .ok (.isub, 1) := by decide +kernel
theorem dX0_remove_42 : decode cX0_remove 42 = .ok (.putfield 35, 3) := by decide +kernel
theorem dX0_remove_45 : decode cX0_remove 45 = .ok (.return_, 1) := by decide +kernel
theorem dX0_has_0 : decode cX0_has 0 = .ok (.iload_n 1, 1) := by decide +kernel
theorem dX0_has_1 : decode cX0_has 1 = .ok (.ifCond .lt 15, 3) := by decide +kernel
theorem dX0_has_4 : decode cX0_has 4 = .ok (.iload_n 1, 1) := by decide +kernel
theorem dX0_has_5 : decode cX0_has 5 = .ok (.aload_n 0, 1) := by decide +kernel
theorem dX0_has_6 : decode cX0_has 6 = .ok (.getfield 35, 3) := by decide +kernel
theorem dX0_has_9 : decode cX0_has 9 = .ok (.if_icmp .ge 7, 3) := by decide +kernel
theorem dX0_has_12 : decode cX0_has 12 = .ok (.iconst 1, 1) := by decide +kernel
theorem dX0_has_13 : decode cX0_has 13 = .ok (.goto 4, 3) := by decide +kernel
theorem dX0_has_16 : decode cX0_has 16 = .ok (.iconst 0, 1) := by decide +kernel
theorem dX0_has_17 : decode cX0_has 17 = .ok (.ireturn, 1) := by decide +kernel
theorem dX0_encloses_0 : decode cX0_encloses 0 = .ok (.iload_n 2, 1) := by decide +kernel
theorem dX0_encloses_1 : decode cX0_encloses 1 = .ok (.ifCond .lt 41, 3) := by decide +kernel
theorem dX0_encloses_4 : decode cX0_encloses 4 = .ok (.iload_n 2, 1) := by decide +kernel
theorem dX0_encloses_5 : decode cX0_encloses 5 = .ok (.aload_n 0, 1) := by decide +kernel
theorem dX0_encloses_6 : decode cX0_encloses 6 = .ok (.getfield 9, 3) := by decide +kernel
theorem dX0_encloses_9 : decode cX0_encloses 9 = .ok (.aload_n 1, 1) := by decide +kernel
theorem dX0_encloses_10 : decode cX0_encloses 10 = .ok (.iload 4, 2) := by decide +kernel
theorem dX0_encloses_12 : decode cX0_encloses 12 = .ok (.invokevirtual 45, 3) := by decide +kernel
theorem dX0_encloses_15 : decode cX0_encloses 15 = .ok (.isub, 1) := by decide +kernel
theorem dX0_encloses_16 : decode cX0_encloses 16 = .ok (.if_icmp .gt 26, 3) := by decide +kernel
theorem dX0_encloses_19 : decode cX0_encloses 19 = .ok (.iload_n 3, 1) := by decide +kernel
theorem dX0_encloses_20 : decode cX0_encloses 20 = .ok (.ifCond .lt 22, 3) := by decide +kernel
theorem dX0_encloses_23 : decode cX0_encloses 23 = .ok (.iload_n 3, 1) := by decide +kernel
theorem dX0_encloses_24 : decode cX0_encloses 24 = .ok (.aload_n 0, 1) := by decide +kernel
theorem dX0_encloses_25 : decode cX0_encloses 25 = .ok (.getfield 15, 3) := by decide +kernel
theorem dX0_encloses_28 : decode cX0_encloses 28 = .ok (.aload_n 1, 1) := by decide +kernel
theorem dX0_encloses_29 : decode cX0_encloses 29 = .ok (.iload 4, 2) := by decide +kernel
theorem dX0_encloses_31 : decode cX0_encloses 31 = .ok (.invokevirtual 49, 3) := by decide +kernel
theorem dX0_encloses_34 : decode cX0_encloses 34 = .ok (.isub, 1) := by decide +kernel
theorem dX0_encloses_35 : decode cX0_encloses 35 = .ok (.if_icmp .gt 7, 3) := by decide +kernel
theorem dX0_encloses_38 : decode cX0_encloses 38 = .ok (.iconst 1, 1) := by decide +kernel
theorem dX0_encloses_39 : decode cX0_encloses 39 = .ok (.goto 4, 3) := by decide +kernel
theorem dX0_encloses_42 : decode cX0_encloses 42 = .ok (.iconst 0, 1) := by decide +kernel
theorem dX0_encloses_43 : decode cX0_encloses 43 = .ok (.ireturn, 1) := by decide +kernel
theorem dX0_highestFloor_0 : decode cX0_highestFloor 0 = .ok (.aload_n 0, 1) := by decide +kernel
theorem dX0_highestFloor_1 : decode cX0_highestFloor 1 = .ok (.getfield 18, 3) := by decide +kernel
theorem dX0_highestFloor_4 : decode cX0_highestFloor 4 = .ok (.aload_n 1, 1) := by decide +kernel
theorem dX0_highestFloor_5 : decode cX0_highestFloor 5 = .ok (.invokevirtual 52, 3) := by decide +kernel
theorem dX0_highestFloor_8 : decode cX0_highestFloor 8 = .ok (.isub, 1) := by decide +kernel
theorem dX0_highestFloor_9 : decode cX0_highestFloor 9 = .ok (.ireturn, 1) := by decide +kernel
theorem dX0_inside_0 : decode cX0_inside 0 = .ok (.iconst 0, 1) := by decide +kernel
theorem dX0_inside_1 : decode cX0_inside 1 = .ok (.istore_n 1, 1) := by decide +kernel
theorem dX0_inside_2 : decode cX0_inside 2 = .ok (.iconst 0, 1) := by decide +kernel
theorem dX0_inside_3 : decode cX0_inside 3 = .ok (.istore_n 2, 1) := by decide +kernel
theorem dX0_inside_4 : decode cX0_inside 4 = .ok (.iload_n 2, 1) := by decide +kernel
theorem dX0_inside_5 : decode cX0_inside 5 = .ok (.aload_n 0, 1) := by decide +kernel
theorem dX0_inside_6 : decode cX0_inside 6 = .ok (.getfield 35, 3) := by decide +kernel
theorem dX0_inside_9 : decode cX0_inside 9 = .ok (.if_icmp .ge 27, 3) := by decide +kernel
theorem dX0_inside_12 : decode cX0_inside 12 = .ok (.aload_n 0, 1) := by decide +kernel
theorem dX0_inside_13 : decode cX0_inside 13 = .ok (.getfield 26, 3) := by decide +kernel
theorem dX0_inside_16 : decode cX0_inside 16 = .ok (.iload_n 2, 1) := by decide +kernel
theorem dX0_inside_17 : decode cX0_inside 17 = .ok (.aaload, 1) := by decide +kernel
theorem dX0_inside_18 : decode cX0_inside 18 = .ok (.getfield 56, 3) := by decide +kernel
theorem dX0_inside_21 : decode cX0_inside 21 = .ok (.ifCond .eq 9, 3) := by decide +kernel
theorem dX0_inside_24 : decode cX0_inside 24 = .ok (.iload_n 1, 1) := by decide +kernel
theorem dX0_inside_25 : decode cX0_inside 25 = .ok (.iconst 1, 1) := by decide +kernel
theorem dX0_inside_26 : decode cX0_inside 26 = .ok (.iload_n 2, 1) := by decide +kernel
theorem dX0_inside_27 : decode cX0_inside 27 = .ok (.ishl, 1) := by decide +kernel
theorem dX0_inside_28 : decode cX0_inside 28 = .ok (.ior, 1) := by decide +kernel
theorem dX0_inside_29 : decode cX0_inside 29 = .ok (.istore_n 1, 1) := by decide +kernel
theorem dX0_inside_30 : decode cX0_inside 30 = .ok (.iinc 2 1, 3) := by decide +kernel
theorem dX0_inside_33 : decode cX0_inside 33 = .ok (.goto (-29), 3) := by decide +kernel
theorem dX0_inside_36 : decode cX0_inside 36 = .ok (.iload_n 1, 1) := by decide +kernel
theorem dX0_inside_37 : decode cX0_inside 37 = .ok (.ireturn, 1) := by decide +kernel
theorem dX0_uppermost_0 : decode cX0_uppermost 0 = .ok (.bipush (-9), 2) := by decide +kernel
theorem dX0_uppermost_2 : decode cX0_uppermost 2 = .ok (.istore_n 3, 1) := by decide +kernel
theorem dX0_uppermost_3 : decode cX0_uppermost 3 = .ok (.iconst 0, 1) := by decide +kernel
theorem dX0_uppermost_4 : decode cX0_uppermost 4 = .ok (.istore 4, 2) := by decide +kernel
theorem dX0_uppermost_6 : decode cX0_uppermost 6 = .ok (.iconst 0, 1) := by decide +kernel
theorem dX0_uppermost_7 : decode cX0_uppermost 7 = .ok (.istore 5, 2) := by decide +kernel
theorem dX0_uppermost_9 : decode cX0_uppermost 9 = .ok (.iload 5, 2) := by decide +kernel
theorem dX0_uppermost_11 : decode cX0_uppermost 11 = .ok (.aload_n 0, 1) := by decide +kernel
theorem dX0_uppermost_12 : decode cX0_uppermost 12 = .ok (.getfield 35, 3) := by decide +kernel
theorem dX0_uppermost_15 : decode cX0_uppermost 15 = .ok (.if_icmp .ge 54, 3) := by decide +kernel
theorem dX0_uppermost_18 : decode cX0_uppermost 18 = .ok (.aload_n 0, 1) := by decide +kernel
theorem dX0_uppermost_19 : decode cX0_uppermost 19 = .ok (.getfield 26, 3) := by decide +kernel
theorem dX0_uppermost_22 : decode cX0_uppermost 22 = .ok (.iload 5, 2) := by decide +kernel
theorem dX0_uppermost_24 : decode cX0_uppermost 24 = .ok (.aaload, 1) := by decide +kernel
theorem dX0_uppermost_25 : decode cX0_uppermost 25 = .ok (.iload_n 1, 1) := by decide +kernel
theorem dX0_uppermost_26 : decode cX0_uppermost 26 = .ok (.iload_n 2, 1) := by decide +kernel
theorem dX0_uppermost_27 : decode cX0_uppermost 27 = .ok (.invokevirtual 60, 3) := by decide +kernel
theorem dX0_uppermost_30 : decode cX0_uppermost 30 = .ok (.ifCond .eq 33, 3) := by decide +kernel
theorem dX0_uppermost_33 : decode cX0_uppermost 33 = .ok (.aload_n 0, 1) := by decide +kernel
theorem dX0_uppermost_34 : decode cX0_uppermost 34 = .ok (.getfield 26, 3) := by decide +kernel
theorem dX0_uppermost_37 : decode cX0_uppermost 37 = .ok (.iload 5, 2) := by decide +kernel
theorem dX0_uppermost_39 : decode cX0_uppermost 39 = .ok (.aaload, 1) := by decide +kernel
theorem dX0_uppermost_40 : decode cX0_uppermost 40 = .ok (.getfield 64, 3) := by decide +kernel
theorem dX0_uppermost_43 : decode cX0_uppermost 43 = .ok (.iload 4, 2) := by decide +kernel
theorem dX0_uppermost_45 : decode cX0_uppermost 45 = .ok (.if_icmp .le 18, 3) := by decide +kernel
theorem dX0_uppermost_48 : decode cX0_uppermost 48 = .ok (.iload 5, 2) := by decide +kernel
theorem dX0_uppermost_50 : decode cX0_uppermost 50 = .ok (.istore_n 3, 1) := by decide +kernel
theorem dX0_uppermost_51 : decode cX0_uppermost 51 = .ok (.aload_n 0, 1) := by decide +kernel
theorem dX0_uppermost_52 : decode cX0_uppermost 52 = .ok (.getfield 26, 3) := by decide +kernel
theorem dX0_uppermost_55 : decode cX0_uppermost 55 = .ok (.iload 5, 2) := by decide +kernel
theorem dX0_uppermost_57 : decode cX0_uppermost 57 = .ok (.aaload, 1) := by decide +kernel
theorem dX0_uppermost_58 : decode cX0_uppermost 58 = .ok (.getfield 64, 3) := by decide +kernel
theorem dX0_uppermost_61 : decode cX0_uppermost 61 = .ok (.istore 4, 2) := by decide +kernel
theorem dX0_uppermost_63 : decode cX0_uppermost 63 = .ok (.iinc 5 1, 3) := by decide +kernel
theorem dX0_uppermost_66 : decode cX0_uppermost 66 = .ok (.goto (-57), 3) := by decide +kernel
theorem dX0_uppermost_69 : decode cX0_uppermost 69 = .ok (.iload_n 3, 1) := by decide +kernel
theorem dX0_uppermost_70 : decode cX0_uppermost 70 = .ok (.ireturn, 1) := by decide +kernel
theorem dX0_isFree_0 : decode cX0_isFree 0 = .ok (.aload_n 0, 1) := by decide +kernel
theorem dX0_isFree_1 : decode cX0_isFree 1 = .ok (.iload_n 1, 1) := by decide +kernel
theorem dX0_isFree_2 : decode cX0_isFree 2 = .ok (.invokevirtual 67, 3) := by decide +kernel
theorem dX0_isFree_5 : decode cX0_isFree 5 = .ok (.ifCond .ne 7, 3) := by decide +kernel
theorem dX0_isFree_8 : decode cX0_isFree 8 = .ok (.iconst 1, 1) := by decide +kernel
theorem dX0_isFree_9 : decode cX0_isFree 9 = .ok (.goto 4, 3) := by decide +kernel
theorem dX0_isFree_12 : decode cX0_isFree 12 = .ok (.iconst 0, 1) := by decide +kernel
theorem dX0_isFree_13 : decode cX0_isFree 13 = .ok (.ireturn, 1) := by decide +kernel
theorem dX0_lyingOn_0 : decode cX0_lyingOn 0 = .ok (.iconst 0, 1) := by decide +kernel
theorem dX0_lyingOn_1 : decode cX0_lyingOn 1 = .ok (.istore_n 2, 1) := by decide +kernel
theorem dX0_lyingOn_2 : decode cX0_lyingOn 2 = .ok (.iconst 0, 1) := by decide +kernel
theorem dX0_lyingOn_3 : decode cX0_lyingOn 3 = .ok (.istore_n 3, 1) := by decide +kernel
theorem dX0_lyingOn_4 : decode cX0_lyingOn 4 = .ok (.iload_n 3, 1) := by decide +kernel
theorem dX0_lyingOn_5 : decode cX0_lyingOn 5 = .ok (.aload_n 0, 1) := by decide +kernel
theorem dX0_lyingOn_6 : decode cX0_lyingOn 6 = .ok (.getfield 35, 3) := by decide +kernel
theorem dX0_lyingOn_9 : decode cX0_lyingOn 9 = .ok (.if_icmp .ge 33, 3) := by decide +kernel
theorem dX0_lyingOn_12 : decode cX0_lyingOn 12 = .ok (.aload_n 0, 1) := by decide +kernel
theorem dX0_lyingOn_13 : decode cX0_lyingOn 13 = .ok (.getfield 26, 3) := by decide +kernel
theorem dX0_lyingOn_16 : decode cX0_lyingOn 16 = .ok (.iload_n 3, 1) := by decide +kernel
theorem dX0_lyingOn_17 : decode cX0_lyingOn 17 = .ok (.aaload, 1) := by decide +kernel
theorem dX0_lyingOn_18 : decode cX0_lyingOn 18 = .ok (.aload_n 0, 1) := by decide +kernel
theorem dX0_lyingOn_19 : decode cX0_lyingOn 19 = .ok (.getfield 26, 3) := by decide +kernel
theorem dX0_lyingOn_22 : decode cX0_lyingOn 22 = .ok (.iload_n 1, 1) := by decide +kernel
theorem dX0_lyingOn_23 : decode cX0_lyingOn 23 = .ok (.aaload, 1) := by decide +kernel
theorem dX0_lyingOn_24 : decode cX0_lyingOn 24 = .ok (.invokevirtual 71, 3) := by decide +kernel
theorem dX0_lyingOn_27 : decode cX0_lyingOn 27 = .ok (.ifCond .eq 9, 3) := by decide +kernel
theorem dX0_lyingOn_30 : decode cX0_lyingOn 30 = .ok (.iload_n 2, 1) := by decide +kernel
theorem dX0_lyingOn_31 : decode cX0_lyingOn 31 = .ok (.iconst 1, 1) := by decide +kernel
theorem dX0_lyingOn_32 : decode cX0_lyingOn 32 = .ok (.iload_n 3, 1) := by decide +kernel
theorem dX0_lyingOn_33 : decode cX0_lyingOn 33 = .ok (.ishl, 1) := by decide +kernel
theorem dX0_lyingOn_34 : decode cX0_lyingOn 34 = .ok (.ior, 1) := by decide +kernel
theorem dX0_lyingOn_35 : decode cX0_lyingOn 35 = .ok (.istore_n 2, 1) := by decide +kernel
theorem dX0_lyingOn_36 : decode cX0_lyingOn 36 = .ok (.iinc 3 1, 3) := by decide +kernel
theorem dX0_lyingOn_39 : decode cX0_lyingOn 39 = .ok (.goto (-35), 3) := by decide +kernel
theorem dX0_lyingOn_42 : decode cX0_lyingOn 42 = .ok (.iload_n 2, 1) := by decide +kernel
theorem dX0_lyingOn_43 : decode cX0_lyingOn 43 = .ok (.ireturn, 1) := by decide +kernel
theorem dX0_above_0 : decode cX0_above 0 = .ok (.iconst 0, 1) := by decide +kernel
theorem dX0_above_1 : decode cX0_above 1 = .ok (.istore_n 3, 1) := by decide +kernel
theorem dX0_above_2 : decode cX0_above 2 = .ok (.aload_n 0, 1) := by decide +kernel
theorem dX0_above_3 : decode cX0_above 3 = .ok (.iload_n 1, 1) := by decide +kernel
theorem dX0_above_4 : decode cX0_above 4 = .ok (.invokevirtual 67, 3) := by decide +kernel
theorem dX0_above_7 : decode cX0_above 7 = .ok (.iload_n 2, 1) := by decide +kernel
theorem dX0_above_8 : decode cX0_above 8 = .ok (.iand, 1) := by decide +kernel
theorem dX0_above_9 : decode cX0_above 9 = .ok (.istore 4, 2) := by decide +kernel
theorem dX0_above_11 : decode cX0_above 11 = .ok (.iconst 0, 1) := by decide +kernel
theorem dX0_above_12 : decode cX0_above 12 = .ok (.istore 5, 2) := by decide +kernel
theorem dX0_above_14 : decode cX0_above 14 = .ok (.iload 5, 2) := by decide +kernel
theorem dX0_above_16 : decode cX0_above 16 = .ok (.bipush 12, 2) := by decide +kernel
theorem dX0_above_18 : decode cX0_above 18 = .ok (.if_icmp .ge 67, 3) := by decide +kernel
theorem dX0_above_21 : decode cX0_above 21 = .ok (.iload 4, 2) := by decide +kernel
theorem dX0_above_23 : decode cX0_above 23 = .ok (.iload_n 3, 1) := by decide +kernel
theorem dX0_above_24 : decode cX0_above 24 = .ok (.if_icmp .eq 61, 3) := by decide +kernel
theorem dX0_above_27 : decode cX0_above 27 = .ok (.iload 4, 2) := by decide +kernel
theorem dX0_above_29 : decode cX0_above 29 = .ok (.iload_n 3, 1) := by decide +kernel
theorem dX0_above_30 : decode cX0_above 30 = .ok (.iconst (-1), 1) := by decide +kernel
theorem dX0_above_31 : decode cX0_above 31 = .ok (.ixor, 1) := by decide +kernel
theorem dX0_above_32 : decode cX0_above 32 = .ok (.iand, 1) := by decide +kernel
theorem dX0_above_33 : decode cX0_above 33 = .ok (.istore 6, 2) := by decide +kernel
theorem dX0_above_35 : decode cX0_above 35 = .ok (.iload 4, 2) := by decide +kernel
theorem dX0_above_37 : decode cX0_above 37 = .ok (.istore_n 3, 1) := by decide +kernel
theorem dX0_above_38 : decode cX0_above 38 = .ok (.iconst 0, 1) := by decide +kernel
theorem dX0_above_39 : decode cX0_above 39 = .ok (.istore 7, 2) := by decide +kernel
theorem dX0_above_41 : decode cX0_above 41 = .ok (.iload 7, 2) := by decide +kernel
theorem dX0_above_43 : decode cX0_above 43 = .ok (.aload_n 0, 1) := by decide +kernel
theorem dX0_above_44 : decode cX0_above 44 = .ok (.getfield 35, 3) := by decide +kernel
theorem dX0_above_47 : decode cX0_above 47 = .ok (.if_icmp .ge 32, 3) := by decide +kernel
theorem dX0_above_50 : decode cX0_above 50 = .ok (.iload 6, 2) := by decide +kernel
theorem dX0_above_52 : decode cX0_above 52 = .ok (.iconst 1, 1) := by decide +kernel
theorem dX0_above_53 : decode cX0_above 53 = .ok (.iload 7, 2) := by decide +kernel
theorem dX0_above_55 : decode cX0_above 55 = .ok (.ishl, 1) := by decide +kernel
theorem dX0_above_56 : decode cX0_above 56 = .ok (.iand, 1) := by decide +kernel
theorem dX0_above_57 : decode cX0_above 57 = .ok (.ifCond .eq 16, 3) := by decide +kernel
theorem dX0_above_60 : decode cX0_above 60 = .ok (.iload 4, 2) := by decide +kernel
theorem dX0_above_62 : decode cX0_above 62 = .ok (.aload_n 0, 1) := by decide +kernel
theorem dX0_above_63 : decode cX0_above 63 = .ok (.iload 7, 2) := by decide +kernel
theorem dX0_above_65 : decode cX0_above 65 = .ok (.invokevirtual 67, 3) := by decide +kernel
theorem dX0_above_68 : decode cX0_above 68 = .ok (.iload_n 2, 1) := by decide +kernel
theorem dX0_above_69 : decode cX0_above 69 = .ok (.iand, 1) := by decide +kernel
theorem dX0_above_70 : decode cX0_above 70 = .ok (.ior, 1) := by decide +kernel
theorem dX0_above_71 : decode cX0_above 71 = .ok (.istore 4, 2) := by decide +kernel
theorem dX0_above_73 : decode cX0_above 73 = .ok (.iinc 7 1, 3) := by decide +kernel
theorem dX0_above_76 : decode cX0_above 76 = .ok (.goto (-35), 3) := by decide +kernel
theorem dX0_above_79 : decode cX0_above 79 = .ok (.iinc 5 1, 3) := by decide +kernel
theorem dX0_above_82 : decode cX0_above 82 = .ok (.goto (-68), 3) := by decide +kernel
theorem dX0_above_85 : decode cX0_above 85 = .ok (.iload 4, 2) := by decide +kernel
theorem dX0_above_87 : decode cX0_above 87 = .ok (.ireturn, 1) := by decide +kernel
theorem dX0_faultOf_0 : decode cX0_faultOf 0 = .ok (.aload_n 0, 1) := by decide +kernel
theorem dX0_faultOf_1 : decode cX0_faultOf 1 = .ok (.aload_n 0, 1) := by decide +kernel
theorem dX0_faultOf_2 : decode cX0_faultOf 2 = .ok (.iload_n 1, 1) := by decide +kernel
theorem dX0_faultOf_3 : decode cX0_faultOf 3 = .ok (.aload_n 0, 1) := by decide +kernel
theorem dX0_faultOf_4 : decode cX0_faultOf 4 = .ok (.invokevirtual 75, 3) := by decide +kernel
theorem dX0_faultOf_7 : decode cX0_faultOf 7 = .ok (.invokevirtual 77, 3) := by decide +kernel
theorem dX0_faultOf_10 : decode cX0_faultOf 10 = .ok (.aload_n 0, 1) := by decide +kernel
theorem dX0_faultOf_11 : decode cX0_faultOf 11 = .ok (.getfield 26, 3) := by decide +kernel
theorem dX0_faultOf_14 : decode cX0_faultOf 14 = .ok (.iload_n 1, 1) := by decide +kernel
theorem dX0_faultOf_15 : decode cX0_faultOf 15 = .ok (.aaload, 1) := by decide +kernel
theorem dX0_faultOf_16 : decode cX0_faultOf 16 = .ok (.getfield 81, 3) := by decide +kernel
theorem dX0_faultOf_19 : decode cX0_faultOf 19 = .ok (.invokevirtual 84, 3) := by decide +kernel
theorem dX0_faultOf_22 : decode cX0_faultOf 22 = .ok (.ireturn, 1) := by decide +kernel
theorem dX0_faults_0 : decode cX0_faults 0 = .ok (.iconst 0, 1) := by decide +kernel
theorem dX0_faults_1 : decode cX0_faults 1 = .ok (.istore_n 1, 1) := by decide +kernel
theorem dX0_faults_2 : decode cX0_faults 2 = .ok (.aload_n 0, 1) := by decide +kernel
theorem dX0_faults_3 : decode cX0_faults 3 = .ok (.invokevirtual 75, 3) := by decide +kernel
theorem dX0_faults_6 : decode cX0_faults 6 = .ok (.istore_n 2, 1) := by decide +kernel
theorem dX0_faults_7 : decode cX0_faults 7 = .ok (.iconst 0, 1) := by decide +kernel
theorem dX0_faults_8 : decode cX0_faults 8 = .ok (.istore_n 3, 1) := by decide +kernel
theorem dX0_faults_9 : decode cX0_faults 9 = .ok (.iload_n 3, 1) := by decide +kernel
theorem dX0_faults_10 : decode cX0_faults 10 = .ok (.aload_n 0, 1) := by decide +kernel
theorem dX0_faults_11 : decode cX0_faults 11 = .ok (.getfield 35, 3) := by decide +kernel
theorem dX0_faults_14 : decode cX0_faults 14 = .ok (.if_icmp .ge 31, 3) := by decide +kernel
theorem dX0_faults_17 : decode cX0_faults 17 = .ok (.iload_n 1, 1) := by decide +kernel
theorem dX0_faults_18 : decode cX0_faults 18 = .ok (.aload_n 0, 1) := by decide +kernel
theorem dX0_faults_19 : decode cX0_faults 19 = .ok (.aload_n 0, 1) := by decide +kernel
theorem dX0_faults_20 : decode cX0_faults 20 = .ok (.iload_n 3, 1) := by decide +kernel
theorem dX0_faults_21 : decode cX0_faults 21 = .ok (.iload_n 2, 1) := by decide +kernel
theorem dX0_faults_22 : decode cX0_faults 22 = .ok (.invokevirtual 77, 3) := by decide +kernel
theorem dX0_faults_25 : decode cX0_faults 25 = .ok (.aload_n 0, 1) := by decide +kernel
theorem dX0_faults_26 : decode cX0_faults 26 = .ok (.getfield 26, 3) := by decide +kernel
theorem dX0_faults_29 : decode cX0_faults 29 = .ok (.iload_n 3, 1) := by decide +kernel
theorem dX0_faults_30 : decode cX0_faults 30 = .ok (.aaload, 1) := by decide +kernel
theorem dX0_faults_31 : decode cX0_faults 31 = .ok (.getfield 81, 3) := by decide +kernel
theorem dX0_faults_34 : decode cX0_faults 34 = .ok (.invokevirtual 84, 3) := by decide +kernel
theorem dX0_faults_37 : decode cX0_faults 37 = .ok (.iadd, 1) := by decide +kernel
theorem dX0_faults_38 : decode cX0_faults 38 = .ok (.istore_n 1, 1) := by decide +kernel
theorem dX0_faults_39 : decode cX0_faults 39 = .ok (.iinc 3 1, 3) := by decide +kernel
theorem dX0_faults_42 : decode cX0_faults 42 = .ok (.goto (-33), 3) := by decide +kernel
theorem dX0_faults_45 : decode cX0_faults 45 = .ok (.iload_n 1, 1) := by decide +kernel
theorem dX0_faults_46 : decode cX0_faults 46 = .ok (.ireturn, 1) := by decide +kernel
theorem dX0_lateOnes_0 : decode cX0_lateOnes 0 = .ok (.iconst 0, 1) := by decide +kernel
theorem dX0_lateOnes_1 : decode cX0_lateOnes 1 = .ok (.istore_n 3, 1) := by decide +kernel
theorem dX0_lateOnes_2 : decode cX0_lateOnes 2 = .ok (.iconst 0, 1) := by decide +kernel
theorem dX0_lateOnes_3 : decode cX0_lateOnes 3 = .ok (.istore 4, 2) := by decide +kernel
theorem dX0_lateOnes_5 : decode cX0_lateOnes 5 = .ok (.iload 4, 2) := by decide +kernel
theorem dX0_lateOnes_7 : decode cX0_lateOnes 7 = .ok (.aload_n 0, 1) := by decide +kernel
theorem dX0_lateOnes_8 : decode cX0_lateOnes 8 = .ok (.getfield 35, 3) := by decide +kernel
theorem dX0_lateOnes_11 : decode cX0_lateOnes 11 = .ok (.if_icmp .ge 35, 3) := by decide +kernel
theorem dX0_lateOnes_14 : decode cX0_lateOnes 14 = .ok (.iload_n 1, 1) := by decide +kernel
theorem dX0_lateOnes_15 : decode cX0_lateOnes 15 = .ok (.iconst 1, 1) := by decide +kernel
theorem dX0_lateOnes_16 : decode cX0_lateOnes 16 = .ok (.iload 4, 2) := by decide +kernel
theorem dX0_lateOnes_18 : decode cX0_lateOnes 18 = .ok (.ishl, 1) := by decide +kernel
theorem dX0_lateOnes_19 : decode cX0_lateOnes 19 = .ok (.iand, 1) := by decide +kernel
theorem dX0_lateOnes_20 : decode cX0_lateOnes 20 = .ok (.ifCond .eq 20, 3) := by decide +kernel
theorem dX0_lateOnes_23 : decode cX0_lateOnes 23 = .ok (.aload_n 0, 1) := by decide +kernel
theorem dX0_lateOnes_24 : decode cX0_lateOnes 24 = .ok (.getfield 26, 3) := by decide +kernel
theorem dX0_lateOnes_27 : decode cX0_lateOnes 27 = .ok (.iload 4, 2) := by decide +kernel
theorem dX0_lateOnes_29 : decode cX0_lateOnes 29 = .ok (.aaload, 1) := by decide +kernel
theorem dX0_lateOnes_30 : decode cX0_lateOnes 30 = .ok (.getfield 81, 3) := by decide +kernel
theorem dX0_lateOnes_33 : decode cX0_lateOnes 33 = .ok (.iload_n 2, 1) := by decide +kernel
theorem dX0_lateOnes_34 : decode cX0_lateOnes 34 = .ok (.if_icmp .le 6, 3) := by decide +kernel
theorem dX0_lateOnes_37 : decode cX0_lateOnes 37 = .ok (.iinc 3 1, 3) := by decide +kernel
theorem dX0_lateOnes_40 : decode cX0_lateOnes 40 = .ok (.iinc 4 1, 3) := by decide +kernel
theorem dX0_lateOnes_43 : decode cX0_lateOnes 43 = .ok (.goto (-38), 3) := by decide +kernel
theorem dX0_lateOnes_46 : decode cX0_lateOnes 46 = .ok (.iload_n 3, 1) := by decide +kernel
theorem dX0_lateOnes_47 : decode cX0_lateOnes 47 = .ok (.ireturn, 1) := by decide +kernel
theorem dX0_lifts_0 : decode cX0_lifts 0 = .ok (.iconst 0, 1) := by decide +kernel
theorem dX0_lifts_1 : decode cX0_lifts 1 = .ok (.istore_n 1, 1) := by decide +kernel
theorem dX0_lifts_2 : decode cX0_lifts 2 = .ok (.aload_n 0, 1) := by decide +kernel
theorem dX0_lifts_3 : decode cX0_lifts 3 = .ok (.invokevirtual 75, 3) := by decide +kernel
theorem dX0_lifts_6 : decode cX0_lifts 6 = .ok (.istore_n 2, 1) := by decide +kernel
theorem dX0_lifts_7 : decode cX0_lifts 7 = .ok (.iconst 0, 1) := by decide +kernel
theorem dX0_lifts_8 : decode cX0_lifts 8 = .ok (.istore_n 3, 1) := by decide +kernel
theorem dX0_lifts_9 : decode cX0_lifts 9 = .ok (.iload_n 3, 1) := by decide +kernel
theorem dX0_lifts_10 : decode cX0_lifts 10 = .ok (.aload_n 0, 1) := by decide +kernel
theorem dX0_lifts_11 : decode cX0_lifts 11 = .ok (.getfield 35, 3) := by decide +kernel
theorem dX0_lifts_14 : decode cX0_lifts 14 = .ok (.if_icmp .ge 21, 3) := by decide +kernel
theorem dX0_lifts_17 : decode cX0_lifts 17 = .ok (.iload_n 1, 1) := by decide +kernel
theorem dX0_lifts_18 : decode cX0_lifts 18 = .ok (.aload_n 0, 1) := by decide +kernel
theorem dX0_lifts_19 : decode cX0_lifts 19 = .ok (.iload_n 3, 1) := by decide +kernel
theorem dX0_lifts_20 : decode cX0_lifts 20 = .ok (.iload_n 2, 1) := by decide +kernel
theorem dX0_lifts_21 : decode cX0_lifts 21 = .ok (.invokevirtual 77, 3) := by decide +kernel
theorem dX0_lifts_24 : decode cX0_lifts 24 = .ok (.invokestatic 87, 3) := by decide +kernel
theorem dX0_lifts_27 : decode cX0_lifts 27 = .ok (.iadd, 1) := by decide +kernel
theorem dX0_lifts_28 : decode cX0_lifts 28 = .ok (.istore_n 1, 1) := by decide +kernel
theorem dX0_lifts_29 : decode cX0_lifts 29 = .ok (.iinc 3 1, 3) := by decide +kernel
theorem dX0_lifts_32 : decode cX0_lifts 32 = .ok (.goto (-23), 3) := by decide +kernel
theorem dX0_lifts_35 : decode cX0_lifts 35 = .ok (.iload_n 1, 1) := by decide +kernel
theorem dX0_lifts_36 : decode cX0_lifts 36 = .ok (.ireturn, 1) := by decide +kernel
theorem dX0_freeTrays_0 : decode cX0_freeTrays 0 = .ok (.iconst 0, 1) := by decide +kernel
theorem dX0_freeTrays_1 : decode cX0_freeTrays 1 = .ok (.istore_n 1, 1) := by decide +kernel
theorem dX0_freeTrays_2 : decode cX0_freeTrays 2 = .ok (.iconst 0, 1) := by decide +kernel
theorem dX0_freeTrays_3 : decode cX0_freeTrays 3 = .ok (.istore_n 2, 1) := by decide +kernel
theorem dX0_freeTrays_4 : decode cX0_freeTrays 4 = .ok (.iload_n 2, 1) := by decide +kernel
theorem dX0_freeTrays_5 : decode cX0_freeTrays 5 = .ok (.aload_n 0, 1) := by decide +kernel
theorem dX0_freeTrays_6 : decode cX0_freeTrays 6 = .ok (.getfield 35, 3) := by decide +kernel
theorem dX0_freeTrays_9 : decode cX0_freeTrays 9 = .ok (.if_icmp .ge 32, 3) := by decide +kernel
theorem dX0_freeTrays_12 : decode cX0_freeTrays 12 = .ok (.aload_n 0, 1) := by decide +kernel
theorem dX0_freeTrays_13 : decode cX0_freeTrays 13 = .ok (.getfield 26, 3) := by decide +kernel
theorem dX0_freeTrays_16 : decode cX0_freeTrays 16 = .ok (.iload_n 2, 1) := by decide +kernel
theorem dX0_freeTrays_17 : decode cX0_freeTrays 17 = .ok (.aaload, 1) := by decide +kernel
theorem dX0_freeTrays_18 : decode cX0_freeTrays 18 = .ok (.getfield 56, 3) := by decide +kernel
theorem dX0_freeTrays_21 : decode cX0_freeTrays 21 = .ok (.ifCond .eq 14, 3) := by decide +kernel
theorem dX0_freeTrays_24 : decode cX0_freeTrays 24 = .ok (.aload_n 0, 1) := by decide +kernel
theorem dX0_freeTrays_25 : decode cX0_freeTrays 25 = .ok (.iload_n 2, 1) := by decide +kernel
theorem dX0_freeTrays_26 : decode cX0_freeTrays 26 = .ok (.invokevirtual 92, 3) := by decide +kernel
theorem dX0_freeTrays_29 : decode cX0_freeTrays 29 = .ok (.ifCond .eq 6, 3) := by decide +kernel
theorem dX0_freeTrays_32 : decode cX0_freeTrays 32 = .ok (.iinc 1 1, 3) := by decide +kernel
theorem dX0_freeTrays_35 : decode cX0_freeTrays 35 = .ok (.iinc 2 1, 3) := by decide +kernel
theorem dX0_freeTrays_38 : decode cX0_freeTrays 38 = .ok (.goto (-34), 3) := by decide +kernel
theorem dX0_freeTrays_41 : decode cX0_freeTrays 41 = .ok (.iload_n 1, 1) := by decide +kernel
theorem dX0_freeTrays_42 : decode cX0_freeTrays 42 = .ok (.ireturn, 1) := by decide +kernel
theorem dX0_filledHeight_0 : decode cX0_filledHeight 0 = .ok (.iconst 0, 1) := by decide +kernel
theorem dX0_filledHeight_1 : decode cX0_filledHeight 1 = .ok (.istore_n 1, 1) := by decide +kernel
theorem dX0_filledHeight_2 : decode cX0_filledHeight 2 = .ok (.iconst 0, 1) := by decide +kernel
theorem dX0_filledHeight_3 : decode cX0_filledHeight 3 = .ok (.istore_n 2, 1) := by decide +kernel
theorem dX0_filledHeight_4 : decode cX0_filledHeight 4 = .ok (.iload_n 2, 1) := by decide +kernel
theorem dX0_filledHeight_5 : decode cX0_filledHeight 5 = .ok (.aload_n 0, 1) := by decide +kernel
theorem dX0_filledHeight_6 : decode cX0_filledHeight 6 = .ok (.getfield 35, 3) := by decide +kernel
theorem dX0_filledHeight_9 : decode cX0_filledHeight 9 = .ok (.if_icmp .ge 35, 3) := by decide +kernel
theorem dX0_filledHeight_12 : decode cX0_filledHeight 12 = .ok (.aload_n 0, 1) := by decide +kernel
theorem dX0_filledHeight_13 : decode cX0_filledHeight 13 = .ok (.getfield 26, 3) := by decide +kernel
theorem dX0_filledHeight_16 : decode cX0_filledHeight 16 = .ok (.iload_n 2, 1) := by decide +kernel
theorem dX0_filledHeight_17 : decode cX0_filledHeight 17 = .ok (.aaload, 1) := by decide +kernel
theorem dX0_filledHeight_18 : decode cX0_filledHeight 18 = .ok (.getfield 56, 3) := by decide +kernel
theorem dX0_filledHeight_21 : decode cX0_filledHeight 21 = .ok (.ifCond .eq 17, 3) := by decide +kernel
theorem dX0_filledHeight_24 : decode cX0_filledHeight 24 = .ok (.iload_n 1, 1) := by decide +kernel
theorem dX0_filledHeight_25 : decode cX0_filledHeight 25 = .ok (.aload_n 0, 1) := by decide +kernel
theorem dX0_filledHeight_26 : decode cX0_filledHeight 26 = .ok (.getfield 26, 3) := by decide +kernel
theorem dX0_filledHeight_29 : decode cX0_filledHeight 29 = .ok (.iload_n 2, 1) := by decide +kernel
theorem dX0_filledHeight_30 : decode cX0_filledHeight 30 = .ok (.aaload, 1) := by decide +kernel
theorem dX0_filledHeight_31 : decode cX0_filledHeight 31 = .ok (.getfield 64, 3) := by decide +kernel
theorem dX0_filledHeight_34 : decode cX0_filledHeight 34 = .ok (.invokestatic 96, 3) := by decide +kernel
theorem dX0_filledHeight_37 : decode cX0_filledHeight 37 = .ok (.istore_n 1, 1) := by decide +kernel
theorem dX0_filledHeight_38 : decode cX0_filledHeight 38 = .ok (.iinc 2 1, 3) := by decide +kernel
theorem dX0_filledHeight_41 : decode cX0_filledHeight 41 = .ok (.goto (-37), 3) := by decide +kernel
theorem dX0_filledHeight_44 : decode cX0_filledHeight 44 = .ok (.iload_n 1, 1) := by decide +kernel
theorem dX0_filledHeight_45 : decode cX0_filledHeight 45 = .ok (.ireturn, 1) := by decide +kernel
theorem dX0_air_0 : decode cX0_air 0 = .ok (.aload_n 0, 1) := by decide +kernel
theorem dX0_air_1 : decode cX0_air 1 = .ok (.getfield 9, 3) := by decide +kernel
theorem dX0_air_4 : decode cX0_air 4 = .ok (.aload_n 0, 1) := by decide +kernel
theorem dX0_air_5 : decode cX0_air 5 = .ok (.getfield 15, 3) := by decide +kernel
theorem dX0_air_8 : decode cX0_air 8 = .ok (.imul, 1) := by decide +kernel
theorem dX0_air_9 : decode cX0_air 9 = .ok (.aload_n 0, 1) := by decide +kernel
theorem dX0_air_10 : decode cX0_air 10 = .ok (.invokevirtual 101, 3) := by decide +kernel
theorem dX0_air_13 : decode cX0_air 13 = .ok (.imul, 1) := by decide +kernel
theorem dX0_air_14 : decode cX0_air 14 = .ok (.istore_n 1, 1) := by decide +kernel
theorem dX0_air_15 : decode cX0_air 15 = .ok (.iconst 0, 1) := by decide +kernel
theorem dX0_air_16 : decode cX0_air 16 = .ok (.istore_n 2, 1) := by decide +kernel
theorem dX0_air_17 : decode cX0_air 17 = .ok (.iload_n 2, 1) := by decide +kernel
theorem dX0_air_18 : decode cX0_air 18 = .ok (.aload_n 0, 1) := by decide +kernel
theorem dX0_air_19 : decode cX0_air 19 = .ok (.getfield 35, 3) := by decide +kernel
theorem dX0_air_22 : decode cX0_air 22 = .ok (.if_icmp .ge 43, 3) := by decide +kernel
theorem dX0_air_25 : decode cX0_air 25 = .ok (.aload_n 0, 1) := by decide +kernel
theorem dX0_air_26 : decode cX0_air 26 = .ok (.getfield 26, 3) := by decide +kernel
theorem dX0_air_29 : decode cX0_air 29 = .ok (.iload_n 2, 1) := by decide +kernel
theorem dX0_air_30 : decode cX0_air 30 = .ok (.aaload, 1) := by decide +kernel
theorem dX0_air_31 : decode cX0_air 31 = .ok (.getfield 56, 3) := by decide +kernel
theorem dX0_air_34 : decode cX0_air 34 = .ok (.ifCond .eq 25, 3) := by decide +kernel
theorem dX0_air_37 : decode cX0_air 37 = .ok (.iload_n 1, 1) := by decide +kernel
theorem dX0_air_38 : decode cX0_air 38 = .ok (.aload_n 0, 1) := by decide +kernel
theorem dX0_air_39 : decode cX0_air 39 = .ok (.getfield 26, 3) := by decide +kernel
theorem dX0_air_42 : decode cX0_air 42 = .ok (.iload_n 2, 1) := by decide +kernel
theorem dX0_air_43 : decode cX0_air 43 = .ok (.aaload, 1) := by decide +kernel
theorem dX0_air_44 : decode cX0_air 44 = .ok (.invokevirtual 104, 3) := by decide +kernel
theorem dX0_air_47 : decode cX0_air 47 = .ok (.aload_n 0, 1) := by decide +kernel
theorem dX0_air_48 : decode cX0_air 48 = .ok (.getfield 26, 3) := by decide +kernel
theorem dX0_air_51 : decode cX0_air 51 = .ok (.iload_n 2, 1) := by decide +kernel
theorem dX0_air_52 : decode cX0_air 52 = .ok (.aaload, 1) := by decide +kernel
theorem dX0_air_53 : decode cX0_air 53 = .ok (.invokevirtual 52, 3) := by decide +kernel
theorem dX0_air_56 : decode cX0_air 56 = .ok (.imul, 1) := by decide +kernel
theorem dX0_air_57 : decode cX0_air 57 = .ok (.isub, 1) := by decide +kernel
theorem dX0_air_58 : decode cX0_air 58 = .ok (.istore_n 1, 1) := by decide +kernel
theorem dX0_air_59 : decode cX0_air 59 = .ok (.iinc 2 1, 3) := by decide +kernel
theorem dX0_air_62 : decode cX0_air 62 = .ok (.goto (-45), 3) := by decide +kernel
theorem dX0_air_65 : decode cX0_air 65 = .ok (.iload_n 1, 1) := by decide +kernel
theorem dX0_air_66 : decode cX0_air 66 = .ok (.ireturn, 1) := by decide +kernel
theorem dX0_playedLifts_0 : decode cX0_playedLifts 0 = .ok (.aload_n 0, 1) := by decide +kernel
theorem dX0_playedLifts_1 : decode cX0_playedLifts 1 = .ok (.invokevirtual 75, 3) := by decide +kernel
theorem dX0_playedLifts_4 : decode cX0_playedLifts 4 = .ok (.istore_n 2, 1) := by decide +kernel
theorem dX0_playedLifts_5 : decode cX0_playedLifts 5 = .ok (.iconst 0, 1) := by decide +kernel
theorem dX0_playedLifts_6 : decode cX0_playedLifts 6 = .ok (.istore_n 3, 1) := by decide +kernel
theorem dX0_playedLifts_7 : decode cX0_playedLifts 7 = .ok (.iconst 0, 1) := by decide +kernel
theorem dX0_playedLifts_8 : decode cX0_playedLifts 8 = .ok (.istore 4, 2) := by decide +kernel
theorem dX0_playedLifts_10 : decode cX0_playedLifts 10 = .ok (.iload 4, 2) := by decide +kernel
theorem dX0_playedLifts_12 : decode cX0_playedLifts 12 = .ok (.bipush 9, 2) := by decide +kernel
theorem dX0_playedLifts_14 : decode cX0_playedLifts 14 = .ok (.if_icmp .gt 81, 3) := by decide +kernel
theorem dX0_playedLifts_17 : decode cX0_playedLifts 17 = .ok (.iconst 0, 1) := by decide +kernel
theorem dX0_playedLifts_18 : decode cX0_playedLifts 18 = .ok (.istore 5, 2) := by decide +kernel
theorem dX0_playedLifts_20 : decode cX0_playedLifts 20 = .ok (.iload 5, 2) := by decide +kernel
theorem dX0_playedLifts_22 : decode cX0_playedLifts 22 = .ok (.aload_n 0, 1) := by decide +kernel
theorem dX0_playedLifts_23 : decode cX0_playedLifts 23 = .ok (.getfield 35, 3) := by decide +kernel
theorem dX0_playedLifts_26 : decode cX0_playedLifts 26 = .ok (.if_icmp .ge 63, 3) := by decide +kernel
theorem dX0_playedLifts_29 : decode cX0_playedLifts 29 = .ok (.aload_n 0, 1) := by decide +kernel
theorem dX0_playedLifts_30 : decode cX0_playedLifts 30 = .ok (.getfield 26, 3) := by decide +kernel
theorem dX0_playedLifts_33 : decode cX0_playedLifts 33 = .ok (.iload 5, 2) := by decide +kernel
theorem dX0_playedLifts_35 : decode cX0_playedLifts 35 = .ok (.aaload, 1) := by decide +kernel
theorem dX0_playedLifts_36 : decode cX0_playedLifts 36 = .ok (.getfield 81, 3) := by decide +kernel
theorem dX0_playedLifts_39 : decode cX0_playedLifts 39 = .ok (.iload 4, 2) := by decide +kernel
theorem dX0_playedLifts_41 : decode cX0_playedLifts 41 = .ok (.if_icmp .ne 42, 3) := by decide +kernel
theorem dX0_playedLifts_44 : decode cX0_playedLifts 44 = .ok (.iload_n 2, 1) := by decide +kernel
theorem dX0_playedLifts_45 : decode cX0_playedLifts 45 = .ok (.iconst 1, 1) := by decide +kernel
theorem dX0_playedLifts_46 : decode cX0_playedLifts 46 = .ok (.iload 5, 2) := by decide +kernel
theorem dX0_playedLifts_48 : decode cX0_playedLifts 48 = .ok (.ishl, 1) := by decide +kernel
theorem dX0_playedLifts_49 : decode cX0_playedLifts 49 = .ok (.iand, 1) := by decide +kernel
theorem dX0_playedLifts_50 : decode cX0_playedLifts 50 = .ok (.ifCond .eq 33, 3) := by decide +kernel
theorem dX0_playedLifts_53 : decode cX0_playedLifts 53 = .ok (.iload_n 3, 1) := by decide +kernel
theorem dX0_playedLifts_54 : decode cX0_playedLifts 54 = .ok (.aload_n 0, 1) := by decide +kernel
theorem dX0_playedLifts_55 : decode cX0_playedLifts 55 = .ok (.iload 5, 2) := by decide +kernel
theorem dX0_playedLifts_57 : decode cX0_playedLifts 57 = .ok (.iload_n 2, 1) := by decide +kernel
theorem dX0_playedLifts_58 : decode cX0_playedLifts 58 = .ok (.invokevirtual 77, 3) := by decide +kernel
theorem dX0_playedLifts_61 : decode cX0_playedLifts 61 = .ok (.invokestatic 87, 3) := by decide +kernel
theorem dX0_playedLifts_64 : decode cX0_playedLifts 64 = .ok (.iadd, 1) := by decide +kernel
theorem dX0_playedLifts_65 : decode cX0_playedLifts 65 = .ok (.istore_n 3, 1) := by decide +kernel
theorem dX0_playedLifts_66 : decode cX0_playedLifts 66 = .ok (.iload_n 2, 1) := by decide +kernel
theorem dX0_playedLifts_67 : decode cX0_playedLifts 67 = .ok (.iconst 1, 1) := by decide +kernel
theorem dX0_playedLifts_68 : decode cX0_playedLifts 68 = .ok (.iload 5, 2) := by decide +kernel
theorem dX0_playedLifts_70 : decode cX0_playedLifts 70 = .ok (.ishl, 1) := by decide +kernel
theorem dX0_playedLifts_71 : decode cX0_playedLifts 71 = .ok (.iconst (-1), 1) := by decide +kernel
theorem dX0_playedLifts_72 : decode cX0_playedLifts 72 = .ok (.ixor, 1) := by decide +kernel
theorem dX0_playedLifts_73 : decode cX0_playedLifts 73 = .ok (.iand, 1) := by decide +kernel
theorem dX0_playedLifts_74 : decode cX0_playedLifts 74 = .ok (.istore_n 2, 1) := by decide +kernel
theorem dX0_playedLifts_75 : decode cX0_playedLifts 75 = .ok (.iload 5, 2) := by decide +kernel
theorem dX0_playedLifts_77 : decode cX0_playedLifts 77 = .ok (.iload_n 1, 1) := by decide +kernel
theorem dX0_playedLifts_78 : decode cX0_playedLifts 78 = .ok (.if_icmp .ne 5, 3) := by decide +kernel
theorem dX0_playedLifts_81 : decode cX0_playedLifts 81 = .ok (.iload_n 3, 1) := by decide +kernel
theorem dX0_playedLifts_82 : decode cX0_playedLifts 82 = .ok (.ireturn, 1) := by decide +kernel
theorem dX0_playedLifts_83 : decode cX0_playedLifts 83 = .ok (.iinc 5 1, 3) := by decide +kernel
theorem dX0_playedLifts_86 : decode cX0_playedLifts 86 = .ok (.goto (-66), 3) := by decide +kernel
theorem dX0_playedLifts_89 : decode cX0_playedLifts 89 = .ok (.iinc 4 1, 3) := by decide +kernel
theorem dX0_playedLifts_92 : decode cX0_playedLifts 92 = .ok (.goto (-82), 3) := by decide +kernel
theorem dX0_playedLifts_95 : decode cX0_playedLifts 95 = .ok (.iload_n 3, 1) := by decide +kernel
theorem dX0_playedLifts_96 : decode cX0_playedLifts 96 = .ok (.ireturn, 1) := by decide +kernel
theorem dX1_init_0 : decode cX1_init 0 = .ok (.aload_n 0, 1) := by decide +kernel
theorem dX1_init_1 : decode cX1_init 1 = .ok (.invokespecial 3, 3) := by decide +kernel
theorem dX1_init_4 : decode cX1_init 4 = .ok (.aload_n 0, 1) := by decide +kernel
theorem dX1_init_5 : decode cX1_init 5 = .ok (.bipush 100, 2) := by decide +kernel
theorem dX1_init_7 : decode cX1_init 7 = .ok (.newarray .int, 2) := by decide +kernel
theorem dX1_init_9 : decode cX1_init 9 = .ok (.putfield 9, 3) := by decide +kernel
theorem dX1_init_12 : decode cX1_init 12 = .ok (.return_, 1) := by decide +kernel
theorem dX1_survey_0 : decode cX1_survey 0 = .ok (.iconst 0, 1) := by decide +kernel
theorem dX1_survey_1 : decode cX1_survey 1 = .ok (.istore_n 2, 1) := by decide +kernel
theorem dX1_survey_2 : decode cX1_survey 2 = .ok (.iload_n 2, 1) := by decide +kernel
theorem dX1_survey_3 : decode cX1_survey 3 = .ok (.aload_n 0, 1) := by decide +kernel
theorem dX1_survey_4 : decode cX1_survey 4 = .ok (.getfield 9, 3) := by decide +kernel
theorem dX1_survey_7 : decode cX1_survey 7 = .ok (.arraylength, 1) := by decide +kernel
theorem dX1_survey_8 : decode cX1_survey 8 = .ok (.if_icmp .ge 16, 3) := by decide +kernel
theorem dX1_survey_11 : decode cX1_survey 11 = .ok (.aload_n 0, 1) := by decide +kernel
theorem dX1_survey_12 : decode cX1_survey 12 = .ok (.getfield 9, 3) := by decide +kernel
theorem dX1_survey_15 : decode cX1_survey 15 = .ok (.iload_n 2, 1) := by decide +kernel
theorem dX1_survey_16 : decode cX1_survey 16 = .ok (.iconst 0, 1) := by decide +kernel
theorem dX1_survey_17 : decode cX1_survey 17 = .ok (.iastore, 1) := by decide +kernel
theorem dX1_survey_18 : decode cX1_survey 18 = .ok (.iinc 2 1, 3) := by decide +kernel
theorem dX1_survey_21 : decode cX1_survey 21 = .ok (.goto (-19), 3) := by decide +kernel
theorem dX1_survey_24 : decode cX1_survey 24 = .ok (.iconst 0, 1) := by decide +kernel
theorem dX1_survey_25 : decode cX1_survey 25 = .ok (.istore_n 2, 1) := by decide +kernel
theorem dX1_survey_26 : decode cX1_survey 26 = .ok (.iload_n 2, 1) := by decide +kernel
theorem dX1_survey_27 : decode cX1_survey 27 = .ok (.aload_n 1, 1) := by decide +kernel
theorem dX1_survey_28 : decode cX1_survey 28 = .ok (.getfield 15, 3) := by decide +kernel
theorem dX1_survey_31 : decode cX1_survey 31 = .ok (.if_icmp .ge 20, 3) := by decide +kernel
theorem dX1_survey_34 : decode cX1_survey 34 = .ok (.aload_n 0, 1) := by decide +kernel
theorem dX1_survey_35 : decode cX1_survey 35 = .ok (.aload_n 1, 1) := by decide +kernel
theorem dX1_survey_36 : decode cX1_survey 36 = .ok (.aload_n 1, 1) := by decide +kernel
theorem dX1_survey_37 : decode cX1_survey 37 = .ok (.getfield 21, 3) := by decide +kernel
theorem dX1_survey_40 : decode cX1_survey 40 = .ok (.iload_n 2, 1) := by decide +kernel
theorem dX1_survey_41 : decode cX1_survey 41 = .ok (.aaload, 1) := by decide +kernel
theorem dX1_survey_42 : decode cX1_survey 42 = .ok (.invokevirtual 25, 3) := by decide +kernel
theorem dX1_survey_45 : decode cX1_survey 45 = .ok (.iinc 2 1, 3) := by decide +kernel
theorem dX1_survey_48 : decode cX1_survey 48 = .ok (.goto (-22), 3) := by decide +kernel
theorem dX1_survey_51 : decode cX1_survey 51 = .ok (.return_, 1) := by decide +kernel
theorem dX1_raise_0 : decode cX1_raise 0 = .ok (.aload_n 2, 1) := by decide +kernel
theorem dX1_raise_1 : decode cX1_raise 1 = .ok (.getfield 29, 3) := by decide +kernel
theorem dX1_raise_4 : decode cX1_raise 4 = .ok (.ifCond .eq 23, 3) := by decide +kernel
theorem dX1_raise_7 : decode cX1_raise 7 = .ok (.aload_n 1, 1) := by decide +kernel
theorem dX1_raise_8 : decode cX1_raise 8 = .ok (.aload_n 2, 1) := by decide +kernel
theorem dX1_raise_9 : decode cX1_raise 9 = .ok (.aload_n 2, 1) := by decide +kernel
theorem dX1_raise_10 : decode cX1_raise 10 = .ok (.getfield 35, 3) := by decide +kernel
theorem dX1_raise_13 : decode cX1_raise 13 = .ok (.aload_n 2, 1) := by decide +kernel
theorem dX1_raise_14 : decode cX1_raise 14 = .ok (.getfield 38, 3) := by decide +kernel
theorem dX1_raise_17 : decode cX1_raise 17 = .ok (.aload_n 2, 1) := by decide +kernel
theorem dX1_raise_18 : decode cX1_raise 18 = .ok (.getfield 41, 3) := by decide +kernel
theorem dX1_raise_21 : decode cX1_raise 21 = .ok (.invokevirtual 44, 3) := by decide +kernel
theorem dX1_raise_24 : decode cX1_raise 24 = .ok (.ifCond .ne 4, 3) := by decide +kernel
theorem dX1_raise_27 : decode cX1_raise 27 = .ok (.return_, 1) := by decide +kernel
theorem dX1_raise_28 : decode cX1_raise 28 = .ok (.aload_n 2, 1) := by decide +kernel
theorem dX1_raise_29 : decode cX1_raise 29 = .ok (.getfield 38, 3) := by decide +kernel
theorem dX1_raise_32 : decode cX1_raise 32 = .ok (.istore_n 3, 1) := by decide +kernel
theorem dX1_raise_33 : decode cX1_raise 33 = .ok (.iload_n 3, 1) := by decide +kernel
theorem dX1_raise_34 : decode cX1_raise 34 = .ok (.aload_n 2, 1) := by decide +kernel
theorem dX1_raise_35 : decode cX1_raise 35 = .ok (.getfield 48, 3) := by decide +kernel
theorem dX1_raise_38 : decode cX1_raise 38 = .ok (.if_icmp .ge 60, 3) := by decide +kernel
theorem dX1_raise_41 : decode cX1_raise 41 = .ok (.aload_n 2, 1) := by decide +kernel
theorem dX1_raise_42 : decode cX1_raise 42 = .ok (.getfield 35, 3) := by decide +kernel
theorem dX1_raise_45 : decode cX1_raise 45 = .ok (.istore 4, 2) := by decide +kernel
theorem dX1_raise_47 : decode cX1_raise 47 = .ok (.iload 4, 2) := by decide +kernel
theorem dX1_raise_49 : decode cX1_raise 49 = .ok (.aload_n 2, 1) := by decide +kernel
theorem dX1_raise_50 : decode cX1_raise 50 = .ok (.getfield 51, 3) := by decide +kernel
theorem dX1_raise_53 : decode cX1_raise 53 = .ok (.if_icmp .ge 39, 3) := by decide +kernel
theorem dX1_raise_56 : decode cX1_raise 56 = .ok (.iload_n 3, 1) := by decide +kernel
theorem dX1_raise_57 : decode cX1_raise 57 = .ok (.bipush 10, 2) := by decide +kernel
theorem dX1_raise_59 : decode cX1_raise 59 = .ok (.imul, 1) := by decide +kernel
theorem dX1_raise_60 : decode cX1_raise 60 = .ok (.iload 4, 2) := by decide +kernel
theorem dX1_raise_62 : decode cX1_raise 62 = .ok (.iadd, 1) := by decide +kernel
theorem dX1_raise_63 : decode cX1_raise 63 = .ok (.istore 5, 2) := by decide +kernel
theorem dX1_raise_65 : decode cX1_raise 65 = .ok (.aload_n 0, 1) := by decide +kernel
theorem dX1_raise_66 : decode cX1_raise 66 = .ok (.getfield 9, 3) := by decide +kernel
theorem dX1_raise_69 : decode cX1_raise 69 = .ok (.iload 5, 2) := by decide +kernel
theorem dX1_raise_71 : decode cX1_raise 71 = .ok (.aload_n 0, 1) := by decide +kernel
theorem dX1_raise_72 : decode cX1_raise 72 = .ok (.getfield 9, 3) := by decide +kernel
theorem dX1_raise_75 : decode cX1_raise 75 = .ok (.iload 5, 2) := by decide +kernel
theorem dX1_raise_77 : decode cX1_raise 77 = .ok (.iaload, 1) := by decide +kernel
theorem dX1_raise_78 : decode cX1_raise 78 = .ok (.aload_n 2, 1) := by decide +kernel
theorem dX1_raise_79 : decode cX1_raise 79 = .ok (.getfield 54, 3) := by decide +kernel
theorem dX1_raise_82 : decode cX1_raise 82 = .ok (.invokestatic 57, 3) := by decide +kernel
theorem dX1_raise_85 : decode cX1_raise 85 = .ok (.iastore, 1) := by decide +kernel
theorem dX1_raise_86 : decode cX1_raise 86 = .ok (.iinc 4 1, 3) := by decide +kernel
theorem dX1_raise_89 : decode cX1_raise 89 = .ok (.goto (-42), 3) := by decide +kernel
theorem dX1_raise_92 : decode cX1_raise 92 = .ok (.iinc 3 1, 3) := by decide +kernel
theorem dX1_raise_95 : decode cX1_raise 95 = .ok (.goto (-62), 3) := by decide +kernel
theorem dX1_raise_98 : decode cX1_raise 98 = .ok (.return_, 1) := by decide +kernel
theorem dX1_holds_0 : decode cX1_holds 0 = .ok (.aload_n 0, 1) := by decide +kernel
theorem dX1_holds_1 : decode cX1_holds 1 = .ok (.iconst 0, 1) := by decide +kernel
theorem dX1_holds_2 : decode cX1_holds 2 = .ok (.putfield 63, 3) := by decide +kernel
theorem dX1_holds_5 : decode cX1_holds 5 = .ok (.aload_n 0, 1) := by decide +kernel
theorem dX1_holds_6 : decode cX1_holds 6 = .ok (.iconst 0, 1) := by decide +kernel
theorem dX1_holds_7 : decode cX1_holds 7 = .ok (.putfield 66, 3) := by decide +kernel
theorem dX1_holds_10 : decode cX1_holds 10 = .ok (.aload_n 1, 1) := by decide +kernel
theorem dX1_holds_11 : decode cX1_holds 11 = .ok (.aload_n 2, 1) := by decide +kernel
theorem dX1_holds_12 : decode cX1_holds 12 = .ok (.iload_n 3, 1) := by decide +kernel
theorem dX1_holds_13 : decode cX1_holds 13 = .ok (.iload 4, 2) := by decide +kernel
theorem dX1_holds_15 : decode cX1_holds 15 = .ok (.iload 5, 2) := by decide +kernel
theorem dX1_holds_17 : decode cX1_holds 17 = .ok (.invokevirtual 44, 3) := by decide +kernel
theorem dX1_holds_20 : decode cX1_holds 20 = .ok (.ifCond .ne 5, 3) := by decide +kernel
theorem dX1_holds_23 : decode cX1_holds 23 = .ok (.iconst 0, 1) := by decide +kernel
theorem dX1_holds_24 : decode cX1_holds 24 = .ok (.ireturn, 1) := by decide +kernel
theorem dX1_holds_25 : decode cX1_holds 25 = .ok (.iload_n 3, 1) := by decide +kernel
theorem dX1_holds_26 : decode cX1_holds 26 = .ok (.aload_n 2, 1) := by decide +kernel
theorem dX1_holds_27 : decode cX1_holds 27 = .ok (.iload 5, 2) := by decide +kernel
theorem dX1_holds_29 : decode cX1_holds 29 = .ok (.invokevirtual 69, 3) := by decide +kernel
theorem dX1_holds_32 : decode cX1_holds 32 = .ok (.iadd, 1) := by decide +kernel
theorem dX1_holds_33 : decode cX1_holds 33 = .ok (.istore 7, 2) := by decide +kernel
theorem dX1_holds_35 : decode cX1_holds 35 = .ok (.iload 4, 2) := by decide +kernel
theorem dX1_holds_37 : decode cX1_holds 37 = .ok (.aload_n 2, 1) := by decide +kernel
theorem dX1_holds_38 : decode cX1_holds 38 = .ok (.iload 5, 2) := by decide +kernel
theorem dX1_holds_40 : decode cX1_holds 40 = .ok (.invokevirtual 73, 3) := by decide +kernel
theorem dX1_holds_43 : decode cX1_holds 43 = .ok (.iadd, 1) := by decide +kernel
theorem dX1_holds_44 : decode cX1_holds 44 = .ok (.istore 8, 2) := by decide +kernel
theorem dX1_holds_46 : decode cX1_holds 46 = .ok (.iload 4, 2) := by decide +kernel
theorem dX1_holds_48 : decode cX1_holds 48 = .ok (.istore 9, 2) := by decide +kernel
theorem dX1_holds_50 : decode cX1_holds 50 = .ok (.iload 9, 2) := by decide +kernel
theorem dX1_holds_52 : decode cX1_holds 52 = .ok (.iload 8, 2) := by decide +kernel
theorem dX1_holds_54 : decode cX1_holds 54 = .ok (.if_icmp .ge 91, 3) := by decide +kernel
theorem dX1_holds_57 : decode cX1_holds 57 = .ok (.iload_n 3, 1) := by decide +kernel
theorem dX1_holds_58 : decode cX1_holds 58 = .ok (.istore 10, 2) := by decide +kernel
theorem dX1_holds_60 : decode cX1_holds 60 = .ok (.iload 10, 2) := by decide +kernel
theorem dX1_holds_62 : decode cX1_holds 62 = .ok (.iload 7, 2) := by decide +kernel
theorem dX1_holds_64 : decode cX1_holds 64 = .ok (.if_icmp .ge 75, 3) := by decide +kernel
theorem dX1_holds_67 : decode cX1_holds 67 = .ok (.aload_n 0, 1) := by decide +kernel
theorem dX1_holds_68 : decode cX1_holds 68 = .ok (.getfield 9, 3) := by decide +kernel
theorem dX1_holds_71 : decode cX1_holds 71 = .ok (.iload 9, 2) := by decide +kernel
theorem dX1_holds_73 : decode cX1_holds 73 = .ok (.bipush 10, 2) := by decide +kernel
theorem dX1_holds_75 : decode cX1_holds 75 = .ok (.imul, 1) := by decide +kernel
theorem dX1_holds_76 : decode cX1_holds 76 = .ok (.iload 10, 2) := by decide +kernel
theorem dX1_holds_78 : decode cX1_holds 78 = .ok (.iadd, 1) := by decide +kernel
theorem dX1_holds_79 : decode cX1_holds 79 = .ok (.iaload, 1) := by decide +kernel
theorem dX1_holds_80 : decode cX1_holds 80 = .ok (.istore 11, 2) := by decide +kernel
theorem dX1_holds_82 : decode cX1_holds 82 = .ok (.iload 11, 2) := by decide +kernel
theorem dX1_holds_84 : decode cX1_holds 84 = .ok (.iload 6, 2) := by decide +kernel
theorem dX1_holds_86 : decode cX1_holds 86 = .ok (.if_icmp .le 5, 3) := by decide +kernel
theorem dX1_holds_89 : decode cX1_holds 89 = .ok (.iconst 0, 1) := by decide +kernel
theorem dX1_holds_90 : decode cX1_holds 90 = .ok (.ireturn, 1) := by decide +kernel
theorem dX1_holds_91 : decode cX1_holds 91 = .ok (.iload 11, 2) := by decide +kernel
theorem dX1_holds_93 : decode cX1_holds 93 = .ok (.aload_n 0, 1) := by decide +kernel
theorem dX1_holds_94 : decode cX1_holds 94 = .ok (.getfield 63, 3) := by decide +kernel
theorem dX1_holds_97 : decode cX1_holds 97 = .ok (.if_icmp .le 17, 3) := by decide +kernel
theorem dX1_holds_100 : decode cX1_holds 100 = .ok (.aload_n 0, 1) := by decide +kernel
theorem dX1_holds_101 : decode cX1_holds 101 = .ok (.iload 11, 2) := by decide +kernel
theorem dX1_holds_103 : decode cX1_holds 103 = .ok (.putfield 63, 3) := by decide +kernel
theorem dX1_holds_106 : decode cX1_holds 106 = .ok (.aload_n 0, 1) := by decide +kernel
theorem dX1_holds_107 : decode cX1_holds 107 = .ok (.iconst 1, 1) := by decide +kernel
theorem dX1_holds_108 : decode cX1_holds 108 = .ok (.putfield 66, 3) := by decide +kernel
theorem dX1_holds_111 : decode cX1_holds 111 = .ok (.goto 22, 3) := by decide +kernel
theorem dX1_holds_114 : decode cX1_holds 114 = .ok (.iload 11, 2) := by decide +kernel
theorem dX1_holds_116 : decode cX1_holds 116 = .ok (.aload_n 0, 1) := by decide +kernel
theorem dX1_holds_117 : decode cX1_holds 117 = .ok (.getfield 63, 3) := by decide +kernel
theorem dX1_holds_120 : decode cX1_holds 120 = .ok (.if_icmp .ne 13, 3) := by decide +kernel
theorem dX1_holds_123 : decode cX1_holds 123 = .ok (.aload_n 0, 1) := by decide +kernel
theorem dX1_holds_124 : decode cX1_holds 124 = .ok (.dup, 1) := by decide +kernel
theorem dX1_holds_125 : decode cX1_holds 125 = .ok (.getfield 66, 3) := by decide +kernel
theorem dX1_holds_128 : decode cX1_holds 128 = .ok (.iconst 1, 1) := by decide +kernel
theorem dX1_holds_129 : decode cX1_holds 129 = .ok (.iadd, 1) := by decide +kernel
theorem dX1_holds_130 : decode cX1_holds 130 = .ok (.putfield 66, 3) := by decide +kernel
theorem dX1_holds_133 : decode cX1_holds 133 = .ok (.iinc 10 1, 3) := by decide +kernel
theorem dX1_holds_136 : decode cX1_holds 136 = .ok (.goto (-76), 3) := by decide +kernel
theorem dX1_holds_139 : decode cX1_holds 139 = .ok (.iinc 9 1, 3) := by decide +kernel
theorem dX1_holds_142 : decode cX1_holds 142 = .ok (.goto (-92), 3) := by decide +kernel
theorem dX1_holds_145 : decode cX1_holds 145 = .ok (.bipush 100, 2) := by decide +kernel
theorem dX1_holds_147 : decode cX1_holds 147 = .ok (.aload_n 0, 1) := by decide +kernel
theorem dX1_holds_148 : decode cX1_holds 148 = .ok (.getfield 66, 3) := by decide +kernel
theorem dX1_holds_151 : decode cX1_holds 151 = .ok (.imul, 1) := by decide +kernel
theorem dX1_holds_152 : decode cX1_holds 152 = .ok (.aload_n 1, 1) := by decide +kernel
theorem dX1_holds_153 : decode cX1_holds 153 = .ok (.getfield 76, 3) := by decide +kernel
theorem dX1_holds_156 : decode cX1_holds 156 = .ok (.aload_n 2, 1) := by decide +kernel
theorem dX1_holds_157 : decode cX1_holds 157 = .ok (.invokevirtual 79, 3) := by decide +kernel
theorem dX1_holds_160 : decode cX1_holds 160 = .ok (.imul, 1) := by decide +kernel
theorem dX1_holds_161 : decode cX1_holds 161 = .ok (.if_icmp .lt 7, 3) := by decide +kernel
theorem dX1_holds_164 : decode cX1_holds 164 = .ok (.iconst 1, 1) := by decide +kernel
theorem dX1_holds_165 : decode cX1_holds 165 = .ok (.goto 4, 3) := by decide +kernel
theorem dX1_holds_168 : decode cX1_holds 168 = .ok (.iconst 0, 1) := by decide +kernel
theorem dX1_holds_169 : decode cX1_holds 169 = .ok (.ireturn, 1) := by decide +kernel
theorem dX1_search_0 : decode cX1_search 0 = .ok (.aload_n 0, 1) := by decide +kernel
theorem dX1_search_1 : decode cX1_search 1 = .ok (.iconst 0, 1) := by decide +kernel
theorem dX1_search_2 : decode cX1_search 2 = .ok (.putfield 83, 3) := by decide +kernel
theorem dX1_search_5 : decode cX1_search 5 = .ok (.aload_n 1, 1) := by decide +kernel
theorem dX1_search_6 : decode cX1_search 6 = .ok (.aload_n 2, 1) := by decide +kernel
theorem dX1_search_7 : decode cX1_search 7 = .ok (.invokevirtual 86, 3) := by decide +kernel
theorem dX1_search_10 : decode cX1_search 10 = .ok (.istore 4, 2) := by decide +kernel
theorem dX1_search_12 : decode cX1_search 12 = .ok (.aload_n 2, 1) := by decide +kernel
theorem dX1_search_13 : decode cX1_search 13 = .ok (.getfield 90, 3) := by decide +kernel
theorem dX1_search_16 : decode cX1_search 16 = .ok (.aload_n 2, 1) := by decide +kernel
theorem dX1_search_17 : decode cX1_search 17 = .ok (.getfield 93, 3) := by decide +kernel
theorem dX1_search_20 : decode cX1_search 20 = .ok (.if_icmp .ne 7, 3) := by decide +kernel
theorem dX1_search_23 : decode cX1_search 23 = .ok (.iconst 1, 1) := by decide +kernel
theorem dX1_search_24 : decode cX1_search 24 = .ok (.goto 4, 3) := by decide +kernel
theorem dX1_search_27 : decode cX1_search 27 = .ok (.iconst 2, 1) := by decide +kernel
theorem dX1_search_28 : decode cX1_search 28 = .ok (.istore 5, 2) := by decide +kernel
theorem dX1_search_30 : decode cX1_search 30 = .ok (.iconst 0, 1) := by decide +kernel
theorem dX1_search_31 : decode cX1_search 31 = .ok (.istore 6, 2) := by decide +kernel
theorem dX1_search_33 : decode cX1_search 33 = .ok (.iload 6, 2) := by decide +kernel
theorem dX1_search_35 : decode cX1_search 35 = .ok (.aload_n 1, 1) := by decide +kernel
theorem dX1_search_36 : decode cX1_search 36 = .ok (.getfield 96, 3) := by decide +kernel
theorem dX1_search_39 : decode cX1_search 39 = .ok (.if_icmp .ge 115, 3) := by decide +kernel
theorem dX1_search_42 : decode cX1_search 42 = .ok (.iload 4, 2) := by decide +kernel
theorem dX1_search_44 : decode cX1_search 44 = .ok (.ifCond .lt 110, 3) := by decide +kernel
theorem dX1_search_47 : decode cX1_search 47 = .ok (.iconst 0, 1) := by decide +kernel
theorem dX1_search_48 : decode cX1_search 48 = .ok (.istore 7, 2) := by decide +kernel
theorem dX1_search_50 : decode cX1_search 50 = .ok (.iload 7, 2) := by decide +kernel
theorem dX1_search_52 : decode cX1_search 52 = .ok (.aload_n 1, 1) := by decide +kernel
theorem dX1_search_53 : decode cX1_search 53 = .ok (.getfield 97, 3) := by decide +kernel
theorem dX1_search_56 : decode cX1_search 56 = .ok (.if_icmp .ge 92, 3) := by decide +kernel
theorem dX1_search_59 : decode cX1_search 59 = .ok (.iload 4, 2) := by decide +kernel
theorem dX1_search_61 : decode cX1_search 61 = .ok (.ifCond .lt 87, 3) := by decide +kernel
theorem dX1_search_64 : decode cX1_search 64 = .ok (.iconst 0, 1) := by decide +kernel
theorem dX1_search_65 : decode cX1_search 65 = .ok (.istore 8, 2) := by decide +kernel
theorem dX1_search_67 : decode cX1_search 67 = .ok (.iload 8, 2) := by decide +kernel
theorem dX1_search_69 : decode cX1_search 69 = .ok (.iload 5, 2) := by decide +kernel
theorem dX1_search_71 : decode cX1_search 71 = .ok (.if_icmp .ge 71, 3) := by decide +kernel
theorem dX1_search_74 : decode cX1_search 74 = .ok (.aload_n 0, 1) := by decide +kernel
theorem dX1_search_75 : decode cX1_search 75 = .ok (.aload_n 1, 1) := by decide +kernel
theorem dX1_search_76 : decode cX1_search 76 = .ok (.aload_n 2, 1) := by decide +kernel
theorem dX1_search_77 : decode cX1_search 77 = .ok (.iload 7, 2) := by decide +kernel
theorem dX1_search_79 : decode cX1_search 79 = .ok (.iload 6, 2) := by decide +kernel
theorem dX1_search_81 : decode cX1_search 81 = .ok (.iload 8, 2) := by decide +kernel
theorem dX1_search_83 : decode cX1_search 83 = .ok (.iconst 1, 1) := by decide +kernel
theorem dX1_search_84 : decode cX1_search 84 = .ok (.if_icmp .ne 7, 3) := by decide +kernel
theorem dX1_search_87 : decode cX1_search 87 = .ok (.iconst 1, 1) := by decide +kernel
theorem dX1_search_88 : decode cX1_search 88 = .ok (.goto 4, 3) := by decide +kernel
theorem dX1_search_91 : decode cX1_search 91 = .ok (.iconst 0, 1) := by decide +kernel
theorem dX1_search_92 : decode cX1_search 92 = .ok (.iload 4, 2) := by decide +kernel
theorem dX1_search_94 : decode cX1_search 94 = .ok (.invokevirtual 98, 3) := by decide +kernel
theorem dX1_search_97 : decode cX1_search 97 = .ok (.ifCond .eq 39, 3) := by decide +kernel
theorem dX1_search_100 : decode cX1_search 100 = .ok (.aload_n 0, 1) := by decide +kernel
theorem dX1_search_101 : decode cX1_search 101 = .ok (.iload 7, 2) := by decide +kernel
theorem dX1_search_103 : decode cX1_search 103 = .ok (.iload 6, 2) := by decide +kernel
theorem dX1_search_105 : decode cX1_search 105 = .ok (.iload 8, 2) := by decide +kernel
theorem dX1_search_107 : decode cX1_search 107 = .ok (.iconst 1, 1) := by decide +kernel
theorem dX1_search_108 : decode cX1_search 108 = .ok (.if_icmp .ne 7, 3) := by decide +kernel
theorem dX1_search_111 : decode cX1_search 111 = .ok (.iconst 1, 1) := by decide +kernel
theorem dX1_search_112 : decode cX1_search 112 = .ok (.goto 4, 3) := by decide +kernel
theorem dX1_search_115 : decode cX1_search 115 = .ok (.iconst 0, 1) := by decide +kernel
theorem dX1_search_116 : decode cX1_search 116 = .ok (.invokevirtual 102, 3) := by decide +kernel
theorem dX1_search_119 : decode cX1_search 119 = .ok (.iload_n 3, 1) := by decide +kernel
theorem dX1_search_120 : decode cX1_search 120 = .ok (.ifCond .eq 12, 3) := by decide +kernel
theorem dX1_search_123 : decode cX1_search 123 = .ok (.aload_n 0, 1) := by decide +kernel
theorem dX1_search_124 : decode cX1_search 124 = .ok (.getfield 63, 3) := by decide +kernel
theorem dX1_search_127 : decode cX1_search 127 = .ok (.iconst 1, 1) := by decide +kernel
theorem dX1_search_128 : decode cX1_search 128 = .ok (.isub, 1) := by decide +kernel
theorem dX1_search_129 : decode cX1_search 129 = .ok (.goto 5, 3) := by decide +kernel
theorem dX1_search_132 : decode cX1_search 132 = .ok (.iload 4, 2) := by decide +kernel
theorem dX1_search_134 : decode cX1_search 134 = .ok (.istore 4, 2) := by decide +kernel
theorem dX1_search_136 : decode cX1_search 136 = .ok (.iinc 8 1, 3) := by decide +kernel
theorem dX1_search_139 : decode cX1_search 139 = .ok (.goto (-72), 3) := by decide +kernel
theorem dX1_search_142 : decode cX1_search 142 = .ok (.iinc 7 1, 3) := by decide +kernel
theorem dX1_search_145 : decode cX1_search 145 = .ok (.goto (-95), 3) := by decide +kernel
theorem dX1_search_148 : decode cX1_search 148 = .ok (.iinc 6 1, 3) := by decide +kernel
theorem dX1_search_151 : decode cX1_search 151 = .ok (.goto (-118), 3) := by decide +kernel
theorem dX1_search_154 : decode cX1_search 154 = .ok (.return_, 1) := by decide +kernel
theorem dX1_keep_0 : decode cX1_keep 0 = .ok (.aload_n 0, 1) := by decide +kernel
theorem dX1_keep_1 : decode cX1_keep 1 = .ok (.dup, 1) := by decide +kernel
theorem dX1_keep_2 : decode cX1_keep 2 = .ok (.getfield 83, 3) := by decide +kernel
theorem dX1_keep_5 : decode cX1_keep 5 = .ok (.iconst 1, 1) := by decide +kernel
theorem dX1_keep_6 : decode cX1_keep 6 = .ok (.iadd, 1) := by decide +kernel
theorem dX1_keep_7 : decode cX1_keep 7 = .ok (.putfield 83, 3) := by decide +kernel
theorem dX1_keep_10 : decode cX1_keep 10 = .ok (.aload_n 0, 1) := by decide +kernel
theorem dX1_keep_11 : decode cX1_keep 11 = .ok (.iload_n 1, 1) := by decide +kernel
theorem dX1_keep_12 : decode cX1_keep 12 = .ok (.putfield 106, 3) := by decide +kernel
theorem dX1_keep_15 : decode cX1_keep 15 = .ok (.aload_n 0, 1) := by decide +kernel
theorem dX1_keep_16 : decode cX1_keep 16 = .ok (.iload_n 2, 1) := by decide +kernel
theorem dX1_keep_17 : decode cX1_keep 17 = .ok (.putfield 109, 3) := by decide +kernel
theorem dX1_keep_20 : decode cX1_keep 20 = .ok (.aload_n 0, 1) := by decide +kernel
theorem dX1_keep_21 : decode cX1_keep 21 = .ok (.iload_n 3, 1) := by decide +kernel
theorem dX1_keep_22 : decode cX1_keep 22 = .ok (.putfield 112, 3) := by decide +kernel
theorem dX1_keep_25 : decode cX1_keep 25 = .ok (.aload_n 0, 1) := by decide +kernel
theorem dX1_keep_26 : decode cX1_keep 26 = .ok (.aload_n 0, 1) := by decide +kernel
theorem dX1_keep_27 : decode cX1_keep 27 = .ok (.getfield 63, 3) := by decide +kernel
theorem dX1_keep_30 : decode cX1_keep 30 = .ok (.putfield 115, 3) := by decide +kernel
theorem dX1_keep_33 : decode cX1_keep 33 = .ok (.aload_n 0, 1) := by decide +kernel
theorem dX1_keep_34 : decode cX1_keep 34 = .ok (.aload_n 0, 1) := by decide +kernel
theorem dX1_keep_35 : decode cX1_keep 35 = .ok (.getfield 66, 3) := by decide +kernel
theorem dX1_keep_38 : decode cX1_keep 38 = .ok (.putfield 118, 3) := by decide +kernel
theorem dX1_keep_41 : decode cX1_keep 41 = .ok (.return_, 1) := by decide +kernel
theorem dX2_init_0 : decode cX2_init 0 = .ok (.aload_n 0, 1) := by decide +kernel
theorem dX2_init_1 : decode cX2_init 1 = .ok (.invokespecial 3, 3) := by decide +kernel
theorem dX2_init_4 : decode cX2_init 4 = .ok (.aload_n 0, 1) := by decide +kernel
theorem dX2_init_5 : decode cX2_init 5 = .ok (.bipush 8, 2) := by decide +kernel
theorem dX2_init_7 : decode cX2_init 7 = .ok (.anewarray 9, 3) := by decide +kernel
theorem dX2_init_10 : decode cX2_init 10 = .ok (.putfield 11, 3) := by decide +kernel
theorem dX2_init_13 : decode cX2_init 13 = .ok (.iconst 0, 1) := by decide +kernel
theorem dX2_init_14 : decode cX2_init 14 = .ok (.istore_n 1, 1) := by decide +kernel
theorem dX2_init_15 : decode cX2_init 15 = .ok (.iload_n 1, 1) := by decide +kernel
theorem dX2_init_16 : decode cX2_init 16 = .ok (.bipush 8, 2) := by decide +kernel
theorem dX2_init_18 : decode cX2_init 18 = .ok (.if_icmp .ge 22, 3) := by decide +kernel
theorem dX2_init_21 : decode cX2_init 21 = .ok (.aload_n 0, 1) := by decide +kernel
theorem dX2_init_22 : decode cX2_init 22 = .ok (.getfield 11, 3) := by decide +kernel
theorem dX2_init_25 : decode cX2_init 25 = .ok (.iload_n 1, 1) := by decide +kernel
theorem dX2_init_26 : decode cX2_init 26 = .ok (.new 9, 3) := by decide +kernel
theorem dX2_init_29 : decode cX2_init 29 = .ok (.dup, 1) := by decide +kernel
theorem dX2_init_30 : decode cX2_init 30 = .ok (.invokespecial 17, 3) := by decide +kernel
theorem dX2_init_33 : decode cX2_init 33 = .ok (.aastore, 1) := by decide +kernel
theorem dX2_init_34 : decode cX2_init 34 = .ok (.iinc 1 1, 3) := by decide +kernel
theorem dX2_init_37 : decode cX2_init 37 = .ok (.goto (-22), 3) := by decide +kernel
theorem dX2_init_40 : decode cX2_init 40 = .ok (.return_, 1) := by decide +kernel
theorem dX2_record_0 : decode cX2_record 0 = .ok (.aload_n 0, 1) := by decide +kernel
theorem dX2_record_1 : decode cX2_record 1 = .ok (.getfield 18, 3) := by decide +kernel
theorem dX2_record_4 : decode cX2_record 4 = .ok (.bipush 8, 2) := by decide +kernel
theorem dX2_record_6 : decode cX2_record 6 = .ok (.if_icmp .ne 26, 3) := by decide +kernel
theorem dX2_record_9 : decode cX2_record 9 = .ok (.aload_n 0, 1) := by decide +kernel
theorem dX2_record_10 : decode cX2_record 10 = .ok (.aload_n 0, 1) := by decide +kernel
theorem dX2_record_11 : decode cX2_record 11 = .ok (.getfield 22, 3) := by decide +kernel
theorem dX2_record_14 : decode cX2_record 14 = .ok (.iconst 1, 1) := by decide +kernel
theorem dX2_record_15 : decode cX2_record 15 = .ok (.iadd, 1) := by decide +kernel
theorem dX2_record_16 : decode cX2_record 16 = .ok (.bipush 8, 2) := by decide +kernel
theorem dX2_record_18 : decode cX2_record 18 = .ok (.irem, 1) := by decide +kernel
theorem dX2_record_19 : decode cX2_record 19 = .ok (.putfield 22, 3) := by decide +kernel
theorem dX2_record_22 : decode cX2_record 22 = .ok (.aload_n 0, 1) := by decide +kernel
theorem dX2_record_23 : decode cX2_record 23 = .ok (.dup, 1) := by decide +kernel
theorem dX2_record_24 : decode cX2_record 24 = .ok (.getfield 18, 3) := by decide +kernel
theorem dX2_record_27 : decode cX2_record 27 = .ok (.iconst 1, 1) := by decide +kernel
theorem dX2_record_28 : decode cX2_record 28 = .ok (.isub, 1) := by decide +kernel
theorem dX2_record_29 : decode cX2_record 29 = .ok (.putfield 18, 3) := by decide +kernel
theorem dX2_record_32 : decode cX2_record 32 = .ok (.aload_n 0, 1) := by decide +kernel
theorem dX2_record_33 : decode cX2_record 33 = .ok (.getfield 11, 3) := by decide +kernel
theorem dX2_record_36 : decode cX2_record 36 = .ok (.aload_n 0, 1) := by decide +kernel
theorem dX2_record_37 : decode cX2_record 37 = .ok (.getfield 22, 3) := by decide +kernel
theorem dX2_record_40 : decode cX2_record 40 = .ok (.aload_n 0, 1) := by decide +kernel
theorem dX2_record_41 : decode cX2_record 41 = .ok (.getfield 18, 3) := by decide +kernel
theorem dX2_record_44 : decode cX2_record 44 = .ok (.iadd, 1) := by decide +kernel
theorem dX2_record_45 : decode cX2_record 45 = .ok (.bipush 8, 2) := by decide +kernel
theorem dX2_record_47 : decode cX2_record 47 = .ok (.irem, 1) := by decide +kernel
theorem dX2_record_48 : decode cX2_record 48 = .ok (.aaload, 1) := by decide +kernel
theorem dX2_record_49 : decode cX2_record 49 = .ok (.aload_n 1, 1) := by decide +kernel
theorem dX2_record_50 : decode cX2_record 50 = .ok (.invokevirtual 25, 3) := by decide +kernel
theorem dX2_record_53 : decode cX2_record 53 = .ok (.aload_n 0, 1) := by decide +kernel
theorem dX2_record_54 : decode cX2_record 54 = .ok (.dup, 1) := by decide +kernel
theorem dX2_record_55 : decode cX2_record 55 = .ok (.getfield 18, 3) := by decide +kernel
theorem dX2_record_58 : decode cX2_record 58 = .ok (.iconst 1, 1) := by decide +kernel
theorem dX2_record_59 : decode cX2_record 59 = .ok (.iadd, 1) := by decide +kernel
theorem dX2_record_60 : decode cX2_record 60 = .ok (.putfield 18, 3) := by decide +kernel
theorem dX2_record_63 : decode cX2_record 63 = .ok (.return_, 1) := by decide +kernel
theorem dX2_restore_0 : decode cX2_restore 0 = .ok (.aload_n 0, 1) := by decide +kernel
theorem dX2_restore_1 : decode cX2_restore 1 = .ok (.getfield 18, 3) := by decide +kernel
theorem dX2_restore_4 : decode cX2_restore 4 = .ok (.ifCond .le 34, 3) := by decide +kernel
theorem dX2_restore_7 : decode cX2_restore 7 = .ok (.aload_n 0, 1) := by decide +kernel
theorem dX2_restore_8 : decode cX2_restore 8 = .ok (.dup, 1) := by decide +kernel
theorem dX2_restore_9 : decode cX2_restore 9 = .ok (.getfield 18, 3) := by decide +kernel
theorem dX2_restore_12 : decode cX2_restore 12 = .ok (.iconst 1, 1) := by decide +kernel
theorem dX2_restore_13 : decode cX2_restore 13 = .ok (.isub, 1) := by decide +kernel
theorem dX2_restore_14 : decode cX2_restore 14 = .ok (.putfield 18, 3) := by decide +kernel
theorem dX2_restore_17 : decode cX2_restore 17 = .ok (.aload_n 1, 1) := by decide +kernel
theorem dX2_restore_18 : decode cX2_restore 18 = .ok (.aload_n 0, 1) := by decide +kernel
theorem dX2_restore_19 : decode cX2_restore 19 = .ok (.getfield 11, 3) := by decide +kernel
theorem dX2_restore_22 : decode cX2_restore 22 = .ok (.aload_n 0, 1) := by decide +kernel
theorem dX2_restore_23 : decode cX2_restore 23 = .ok (.getfield 22, 3) := by decide +kernel
theorem dX2_restore_26 : decode cX2_restore 26 = .ok (.aload_n 0, 1) := by decide +kernel
theorem dX2_restore_27 : decode cX2_restore 27 = .ok (.getfield 18, 3) := by decide +kernel
theorem dX2_restore_30 : decode cX2_restore 30 = .ok (.iadd, 1) := by decide +kernel
theorem dX2_restore_31 : decode cX2_restore 31 = .ok (.bipush 8, 2) := by decide +kernel
theorem dX2_restore_33 : decode cX2_restore 33 = .ok (.irem, 1) := by decide +kernel
theorem dX2_restore_34 : decode cX2_restore 34 = .ok (.aaload, 1) := by decide +kernel
theorem dX2_restore_35 : decode cX2_restore 35 = .ok (.invokevirtual 25, 3) := by decide +kernel
theorem dX2_restore_38 : decode cX2_restore 38 = .ok (.return_, 1) := by decide +kernel
theorem dX3_init_0 : decode cX3_init 0 = .ok (.aload_n 0, 1) := by decide +kernel
theorem dX3_init_1 : decode cX3_init 1 = .ok (.invokespecial 3, 3) := by decide +kernel
theorem dX3_init_4 : decode cX3_init 4 = .ok (.aload_n 0, 1) := by decide +kernel
theorem dX3_init_5 : decode cX3_init 5 = .ok (.bipush 12, 2) := by decide +kernel
theorem dX3_init_7 : decode cX3_init 7 = .ok (.newarray .int, 2) := by decide +kernel
theorem dX3_init_9 : decode cX3_init 9 = .ok (.putfield 9, 3) := by decide +kernel
theorem dX3_init_12 : decode cX3_init 12 = .ok (.aload_n 0, 1) := by decide +kernel
theorem dX3_init_13 : decode cX3_init 13 = .ok (.iconst 4, 1) := by decide +kernel
theorem dX3_init_14 : decode cX3_init 14 = .ok (.newarray .int, 2) := by decide +kernel
theorem dX3_init_16 : decode cX3_init 16 = .ok (.putfield 15, 3) := by decide +kernel
theorem dX3_init_19 : decode cX3_init 19 = .ok (.aload_n 0, 1) := by decide +kernel
theorem dX3_init_20 : decode cX3_init 20 = .ok (.new 18, 3) := by decide +kernel
theorem dX3_init_23 : decode cX3_init 23 = .ok (.dup, 1) := by decide +kernel
theorem dX3_init_24 : decode cX3_init 24 = .ok (.invokespecial 20, 3) := by decide +kernel
theorem dX3_init_27 : decode cX3_init 27 = .ok (.putfield 21, 3) := by decide +kernel
theorem dX3_init_30 : decode cX3_init 30 = .ok (.aload_n 0, 1) := by decide +kernel
theorem dX3_init_31 : decode cX3_init 31 = .ok (.bipush 12, 2) := by decide +kernel
theorem dX3_init_33 : decode cX3_init 33 = .ok (.newarray .int, 2) := by decide +kernel
theorem dX3_init_35 : decode cX3_init 35 = .ok (.putfield 25, 3) := by decide +kernel
theorem dX3_init_38 : decode cX3_init 38 = .ok (.aload_n 0, 1) := by decide +kernel
theorem dX3_init_39 : decode cX3_init 39 = .ok (.iconst 4, 1) := by decide +kernel
theorem dX3_init_40 : decode cX3_init 40 = .ok (.newarray .int, 2) := by decide +kernel
theorem dX3_init_42 : decode cX3_init 42 = .ok (.putfield 28, 3) := by decide +kernel
theorem dX3_init_45 : decode cX3_init 45 = .ok (.aload_n 0, 1) := by decide +kernel
theorem dX3_init_46 : decode cX3_init 46 = .ok (.new 31, 3) := by decide +kernel
theorem dX3_init_49 : decode cX3_init 49 = .ok (.dup, 1) := by decide +kernel
theorem dX3_init_50 : decode cX3_init 50 = .ok (.invokespecial 33, 3) := by decide +kernel
theorem dX3_init_53 : decode cX3_init 53 = .ok (.putfield 34, 3) := by decide +kernel
theorem dX3_init_56 : decode cX3_init 56 = .ok (.return_, 1) := by decide +kernel
theorem dX3_packUsually_0 : decode cX3_packUsually 0 = .ok (.aload_n 0, 1) := by decide +kernel
theorem dX3_packUsually_1 : decode cX3_packUsually 1 = .ok (.getfield 21, 3) := by decide +kernel
theorem dX3_packUsually_4 : decode cX3_packUsually 4 = .ok (.aload_n 1, 1) := by decide +kernel
theorem dX3_packUsually_5 : decode cX3_packUsually 5 = .ok (.invokevirtual 38, 3) := by decide +kernel
theorem dX3_packUsually_8 : decode cX3_packUsually 8 = .ok (.iconst 0, 1) := by decide +kernel
theorem dX3_packUsually_9 : decode cX3_packUsually 9 = .ok (.istore_n 2, 1) := by decide +kernel
theorem dX3_packUsually_10 : decode cX3_packUsually 10 = .ok (.iload_n 2, 1) := by decide +kernel
theorem dX3_packUsually_11 : decode cX3_packUsually 11 = .ok (.aload_n 0, 1) := by decide +kernel
theorem dX3_packUsually_12 : decode cX3_packUsually 12 = .ok (.getfield 21, 3) := by decide +kernel
theorem dX3_packUsually_15 : decode cX3_packUsually 15 = .ok (.getfield 42, 3) := by decide +kernel
theorem dX3_packUsually_18 : decode cX3_packUsually 18 = .ok (.if_icmp .ge 73, 3) := by decide +kernel
theorem dX3_packUsually_21 : decode cX3_packUsually 21 = .ok (.iload_n 2, 1) := by decide +kernel
theorem dX3_packUsually_22 : decode cX3_packUsually 22 = .ok (.istore_n 3, 1) := by decide +kernel
theorem dX3_packUsually_23 : decode cX3_packUsually 23 = .ok (.iload_n 3, 1) := by decide +kernel
theorem dX3_packUsually_24 : decode cX3_packUsually 24 = .ok (.ifCond .le 54, 3) := by decide +kernel
theorem dX3_packUsually_27 : decode cX3_packUsually 27 = .ok (.aload_n 0, 1) := by decide +kernel
theorem dX3_packUsually_28 : decode cX3_packUsually 28 = .ok (.getfield 21, 3) := by decide +kernel
theorem dX3_packUsually_31 : decode cX3_packUsually 31 = .ok (.getfield 46, 3) := by decide +kernel
theorem dX3_packUsually_34 : decode cX3_packUsually 34 = .ok (.iload_n 2, 1) := by decide +kernel
theorem dX3_packUsually_35 : decode cX3_packUsually 35 = .ok (.aaload, 1) := by decide +kernel
theorem dX3_packUsually_36 : decode cX3_packUsually 36 = .ok (.aload_n 0, 1) := by decide +kernel
theorem dX3_packUsually_37 : decode cX3_packUsually 37 = .ok (.getfield 21, 3) := by decide +kernel
theorem dX3_packUsually_40 : decode cX3_packUsually 40 = .ok (.getfield 46, 3) := by decide +kernel
theorem dX3_packUsually_43 : decode cX3_packUsually 43 = .ok (.aload_n 0, 1) := by decide +kernel
theorem dX3_packUsually_44 : decode cX3_packUsually 44 = .ok (.getfield 9, 3) := by decide +kernel
theorem dX3_packUsually_47 : decode cX3_packUsually 47 = .ok (.iload_n 3, 1) := by decide +kernel
theorem dX3_packUsually_48 : decode cX3_packUsually 48 = .ok (.iconst 1, 1) := by decide +kernel
theorem dX3_packUsually_49 : decode cX3_packUsually 49 = .ok (.isub, 1) := by decide +kernel
theorem dX3_packUsually_50 : decode cX3_packUsually 50 = .ok (.iaload, 1) := by decide +kernel
theorem dX3_packUsually_51 : decode cX3_packUsually 51 = .ok (.aaload, 1) := by decide +kernel
theorem dX3_packUsually_52 : decode cX3_packUsually 52 = .ok (.invokestatic 50, 3) := by decide +kernel
theorem dX3_packUsually_55 : decode cX3_packUsually 55 = .ok (.ifCond .eq 23, 3) := by decide +kernel
theorem dX3_packUsually_58 : decode cX3_packUsually 58 = .ok (.aload_n 0, 1) := by decide +kernel
theorem dX3_packUsually_59 : decode cX3_packUsually 59 = .ok (.getfield 9, 3) := by decide +kernel
theorem dX3_packUsually_62 : decode cX3_packUsually 62 = .ok (.iload_n 3, 1) := by decide +kernel
theorem dX3_packUsually_63 : decode cX3_packUsually 63 = .ok (.aload_n 0, 1) := by decide +kernel
theorem dX3_packUsually_64 : decode cX3_packUsually 64 = .ok (.getfield 9, 3) := by decide +kernel
theorem dX3_packUsually_67 : decode cX3_packUsually 67 = .ok (.iload_n 3, 1) := by decide +kernel
theorem dX3_packUsually_68 : decode cX3_packUsually 68 = .ok (.iconst 1, 1) := by decide +kernel
theorem dX3_packUsually_69 : decode cX3_packUsually 69 = .ok (.isub, 1) := by decide +kernel
theorem dX3_packUsually_70 : decode cX3_packUsually 70 = .ok (.iaload, 1) := by decide +kernel
theorem dX3_packUsually_71 : decode cX3_packUsually 71 = .ok (.iastore, 1) := by decide +kernel
theorem dX3_packUsually_72 : decode cX3_packUsually 72 = .ok (.iinc 3 (-1), 3) := by decide +kernel
theorem dX3_packUsually_75 : decode cX3_packUsually 75 = .ok (.goto (-52), 3) := by decide +kernel
theorem dX3_packUsually_78 : decode cX3_packUsually 78 = .ok (.aload_n 0, 1) := by decide +kernel
theorem dX3_packUsually_79 : decode cX3_packUsually 79 = .ok (.getfield 9, 3) := by decide +kernel
theorem dX3_packUsually_82 : decode cX3_packUsually 82 = .ok (.iload_n 3, 1) := by decide +kernel
theorem dX3_packUsually_83 : decode cX3_packUsually 83 = .ok (.iload_n 2, 1) := by decide +kernel
theorem dX3_packUsually_84 : decode cX3_packUsually 84 = .ok (.iastore, 1) := by decide +kernel
theorem dX3_packUsually_85 : decode cX3_packUsually 85 = .ok (.iinc 2 1, 3) := by decide +kernel
theorem dX3_packUsually_88 : decode cX3_packUsually 88 = .ok (.goto (-78), 3) := by decide +kernel
theorem dX3_packUsually_91 : decode cX3_packUsually 91 = .ok (.aload_n 0, 1) := by decide +kernel
theorem dX3_packUsually_92 : decode cX3_packUsually 92 = .ok (.aload_n 0, 1) := by decide +kernel
theorem dX3_packUsually_93 : decode cX3_packUsually 93 = .ok (.getfield 9, 3) := by decide +kernel
theorem dX3_packUsually_96 : decode cX3_packUsually 96 = .ok (.iconst 0, 1) := by decide +kernel
theorem dX3_packUsually_97 : decode cX3_packUsually 97 = .ok (.invokevirtual 54, 3) := by decide +kernel
theorem dX3_packUsually_100 : decode cX3_packUsually 100 = .ok (.aload_n 0, 1) := by decide +kernel
theorem dX3_packUsually_101 : decode cX3_packUsually 101 = .ok (.aload_n 0, 1) := by decide +kernel
theorem dX3_packUsually_102 : decode cX3_packUsually 102 = .ok (.getfield 15, 3) := by decide +kernel
theorem dX3_packUsually_105 : decode cX3_packUsually 105 = .ok (.invokevirtual 58, 3) := by decide +kernel
theorem dX3_packUsually_108 : decode cX3_packUsually 108 = .ok (.return_, 1) := by decide +kernel
theorem dX3_isBefore_0 : decode cX3_isBefore 0 = .ok (.aload_n 0, 1) := by decide +kernel
theorem dX3_isBefore_1 : decode cX3_isBefore 1 = .ok (.getfield 62, 3) := by decide +kernel
theorem dX3_isBefore_4 : decode cX3_isBefore 4 = .ok (.aload_n 1, 1) := by decide +kernel
theorem dX3_isBefore_5 : decode cX3_isBefore 5 = .ok (.getfield 62, 3) := by decide +kernel
theorem dX3_isBefore_8 : decode cX3_isBefore 8 = .ok (.if_icmp .gt 25, 3) := by decide +kernel
theorem dX3_isBefore_11 : decode cX3_isBefore 11 = .ok (.aload_n 0, 1) := by decide +kernel
theorem dX3_isBefore_12 : decode cX3_isBefore 12 = .ok (.getfield 62, 3) := by decide +kernel
theorem dX3_isBefore_15 : decode cX3_isBefore 15 = .ok (.aload_n 1, 1) := by decide +kernel
theorem dX3_isBefore_16 : decode cX3_isBefore 16 = .ok (.getfield 62, 3) := by decide +kernel
theorem dX3_isBefore_19 : decode cX3_isBefore 19 = .ok (.if_icmp .ne 18, 3) := by decide +kernel
theorem dX3_isBefore_22 : decode cX3_isBefore 22 = .ok (.aload_n 0, 1) := by decide +kernel
theorem dX3_isBefore_23 : decode cX3_isBefore 23 = .ok (.invokevirtual 67, 3) := by decide +kernel
theorem dX3_isBefore_26 : decode cX3_isBefore 26 = .ok (.aload_n 1, 1) := by decide +kernel
theorem dX3_isBefore_27 : decode cX3_isBefore 27 = .ok (.invokevirtual 67, 3) := by decide +kernel
theorem dX3_isBefore_30 : decode cX3_isBefore 30 = .ok (.if_icmp .le 7, 3) := by decide +kernel
theorem dX3_isBefore_33 : decode cX3_isBefore 33 = .ok (.iconst 1, 1) := by decide +kernel
theorem dX3_isBefore_34 : decode cX3_isBefore 34 = .ok (.goto 4, 3) := by decide +kernel
theorem dX3_isBefore_37 : decode cX3_isBefore 37 = .ok (.iconst 0, 1) := by decide +kernel
theorem dX3_isBefore_38 : decode cX3_isBefore 38 = .ok (.ireturn, 1) := by decide +kernel
theorem dX3_packByBest_0 : decode cX3_packByBest 0 = .ok (.aload_n 0, 1) := by decide +kernel
theorem dX3_packByBest_1 : decode cX3_packByBest 1 = .ok (.getfield 21, 3) := by decide +kernel
theorem dX3_packByBest_4 : decode cX3_packByBest 4 = .ok (.aload_n 1, 1) := by decide +kernel
theorem dX3_packByBest_5 : decode cX3_packByBest 5 = .ok (.invokevirtual 38, 3) := by decide +kernel
theorem dX3_packByBest_8 : decode cX3_packByBest 8 = .ok (.iconst 0, 1) := by decide +kernel
theorem dX3_packByBest_9 : decode cX3_packByBest 9 = .ok (.istore_n 2, 1) := by decide +kernel
theorem dX3_packByBest_10 : decode cX3_packByBest 10 = .ok (.iload_n 2, 1) := by decide +kernel
theorem dX3_packByBest_11 : decode cX3_packByBest 11 = .ok (.aload_n 0, 1) := by decide +kernel
theorem dX3_packByBest_12 : decode cX3_packByBest 12 = .ok (.getfield 21, 3) := by decide +kernel
theorem dX3_packByBest_15 : decode cX3_packByBest 15 = .ok (.getfield 42, 3) := by decide +kernel
theorem dX3_packByBest_18 : decode cX3_packByBest 18 = .ok (.if_icmp .ge 16, 3) := by decide +kernel
theorem dX3_packByBest_21 : decode cX3_packByBest 21 = .ok (.aload_n 0, 1) := by decide +kernel
theorem dX3_packByBest_22 : decode cX3_packByBest 22 = .ok (.getfield 25, 3) := by decide +kernel
theorem dX3_packByBest_25 : decode cX3_packByBest 25 = .ok (.iload_n 2, 1) := by decide +kernel
theorem dX3_packByBest_26 : decode cX3_packByBest 26 = .ok (.iload_n 2, 1) := by decide +kernel
theorem dX3_packByBest_27 : decode cX3_packByBest 27 = .ok (.iastore, 1) := by decide +kernel
theorem dX3_packByBest_28 : decode cX3_packByBest 28 = .ok (.iinc 2 1, 3) := by decide +kernel
theorem dX3_packByBest_31 : decode cX3_packByBest 31 = .ok (.goto (-21), 3) := by decide +kernel
theorem dX3_packByBest_34 : decode cX3_packByBest 34 = .ok (.iconst 0, 1) := by decide +kernel
theorem dX3_packByBest_35 : decode cX3_packByBest 35 = .ok (.istore_n 2, 1) := by decide +kernel
theorem dX3_packByBest_36 : decode cX3_packByBest 36 = .ok (.iconst 0, 1) := by decide +kernel
theorem dX3_packByBest_37 : decode cX3_packByBest 37 = .ok (.istore_n 3, 1) := by decide +kernel
theorem dX3_packByBest_38 : decode cX3_packByBest 38 = .ok (.iload_n 3, 1) := by decide +kernel
theorem dX3_packByBest_39 : decode cX3_packByBest 39 = .ok (.bipush 120, 2) := by decide +kernel
theorem dX3_packByBest_41 : decode cX3_packByBest 41 = .ok (.if_icmp .ge 75, 3) := by decide +kernel
theorem dX3_packByBest_44 : decode cX3_packByBest 44 = .ok (.iload_n 2, 1) := by decide +kernel
theorem dX3_packByBest_45 : decode cX3_packByBest 45 = .ok (.ifCond .lt 71, 3) := by decide +kernel
theorem dX3_packByBest_48 : decode cX3_packByBest 48 = .ok (.aload_n 0, 1) := by decide +kernel
theorem dX3_packByBest_49 : decode cX3_packByBest 49 = .ok (.aload_n 0, 1) := by decide +kernel
theorem dX3_packByBest_50 : decode cX3_packByBest 50 = .ok (.getfield 25, 3) := by decide +kernel
theorem dX3_packByBest_53 : decode cX3_packByBest 53 = .ok (.iload_n 2, 1) := by decide +kernel
theorem dX3_packByBest_54 : decode cX3_packByBest 54 = .ok (.invokevirtual 54, 3) := by decide +kernel
theorem dX3_packByBest_57 : decode cX3_packByBest 57 = .ok (.aload_n 0, 1) := by decide +kernel
theorem dX3_packByBest_58 : decode cX3_packByBest 58 = .ok (.aload_n 0, 1) := by decide +kernel
theorem dX3_packByBest_59 : decode cX3_packByBest 59 = .ok (.getfield 28, 3) := by decide +kernel
theorem dX3_packByBest_62 : decode cX3_packByBest 62 = .ok (.invokevirtual 58, 3) := by decide +kernel
theorem dX3_packByBest_65 : decode cX3_packByBest 65 = .ok (.iload_n 3, 1) := by decide +kernel
theorem dX3_packByBest_66 : decode cX3_packByBest 66 = .ok (.ifCond .eq 10, 3) := by decide +kernel
theorem dX3_packByBest_69 : decode cX3_packByBest 69 = .ok (.aload_n 0, 1) := by decide +kernel
theorem dX3_packByBest_70 : decode cX3_packByBest 70 = .ok (.invokevirtual 71, 3) := by decide +kernel
theorem dX3_packByBest_73 : decode cX3_packByBest 73 = .ok (.ifCond .eq 32, 3) := by decide +kernel
theorem dX3_packByBest_76 : decode cX3_packByBest 76 = .ok (.aload_n 0, 1) := by decide +kernel
theorem dX3_packByBest_77 : decode cX3_packByBest 77 = .ok (.getfield 25, 3) := by decide +kernel
theorem dX3_packByBest_80 : decode cX3_packByBest 80 = .ok (.iconst 0, 1) := by decide +kernel
theorem dX3_packByBest_81 : decode cX3_packByBest 81 = .ok (.aload_n 0, 1) := by decide +kernel
theorem dX3_packByBest_82 : decode cX3_packByBest 82 = .ok (.getfield 9, 3) := by decide +kernel
theorem dX3_packByBest_85 : decode cX3_packByBest 85 = .ok (.iconst 0, 1) := by decide +kernel
theorem dX3_packByBest_86 : decode cX3_packByBest 86 = .ok (.bipush 12, 2) := by decide +kernel
theorem dX3_packByBest_88 : decode cX3_packByBest 88 = .ok (.invokestatic 75, 3) := by decide +kernel
theorem dX3_packByBest_91 : decode cX3_packByBest 91 = .ok (.aload_n 0, 1) := by decide +kernel
theorem dX3_packByBest_92 : decode cX3_packByBest 92 = .ok (.getfield 28, 3) := by decide +kernel
theorem dX3_packByBest_95 : decode cX3_packByBest 95 = .ok (.iconst 0, 1) := by decide +kernel
theorem dX3_packByBest_96 : decode cX3_packByBest 96 = .ok (.aload_n 0, 1) := by decide +kernel
theorem dX3_packByBest_97 : decode cX3_packByBest 97 = .ok (.getfield 15, 3) := by decide +kernel
theorem dX3_packByBest_100 : decode cX3_packByBest 100 = .ok (.iconst 0, 1) := by decide +kernel
theorem dX3_packByBest_101 : decode cX3_packByBest 101 = .ok (.iconst 4, 1) := by decide +kernel
theorem dX3_packByBest_102 : decode cX3_packByBest 102 = .ok (.invokestatic 75, 3) := by decide +kernel
theorem dX3_packByBest_105 : decode cX3_packByBest 105 = .ok (.aload_n 0, 1) := by decide +kernel
theorem dX3_packByBest_106 : decode cX3_packByBest 106 = .ok (.invokevirtual 81, 3) := by decide +kernel
theorem dX3_packByBest_109 : decode cX3_packByBest 109 = .ok (.istore_n 2, 1) := by decide +kernel
theorem dX3_packByBest_110 : decode cX3_packByBest 110 = .ok (.iinc 3 1, 3) := by decide +kernel
theorem dX3_packByBest_113 : decode cX3_packByBest 113 = .ok (.goto (-75), 3) := by decide +kernel
theorem dX3_packByBest_116 : decode cX3_packByBest 116 = .ok (.aload_n 0, 1) := by decide +kernel
theorem dX3_packByBest_117 : decode cX3_packByBest 117 = .ok (.aload_n 0, 1) := by decide +kernel
theorem dX3_packByBest_118 : decode cX3_packByBest 118 = .ok (.getfield 9, 3) := by decide +kernel
theorem dX3_packByBest_121 : decode cX3_packByBest 121 = .ok (.iconst 0, 1) := by decide +kernel
theorem dX3_packByBest_122 : decode cX3_packByBest 122 = .ok (.invokevirtual 54, 3) := by decide +kernel
theorem dX3_packByBest_125 : decode cX3_packByBest 125 = .ok (.return_, 1) := by decide +kernel
theorem dX3_letDownFrom_0 : decode cX3_letDownFrom 0 = .ok (.iload_n 2, 1) := by decide +kernel
theorem dX3_letDownFrom_1 : decode cX3_letDownFrom 1 = .ok (.istore_n 3, 1) := by decide +kernel
theorem dX3_letDownFrom_2 : decode cX3_letDownFrom 2 = .ok (.iload_n 3, 1) := by decide +kernel
theorem dX3_letDownFrom_3 : decode cX3_letDownFrom 3 = .ok (.aload_n 0, 1) := by decide +kernel
theorem dX3_letDownFrom_4 : decode cX3_letDownFrom 4 = .ok (.getfield 21, 3) := by decide +kernel
theorem dX3_letDownFrom_7 : decode cX3_letDownFrom 7 = .ok (.getfield 42, 3) := by decide +kernel
theorem dX3_letDownFrom_10 : decode cX3_letDownFrom 10 = .ok (.if_icmp .ge 23, 3) := by decide +kernel
theorem dX3_letDownFrom_13 : decode cX3_letDownFrom 13 = .ok (.aload_n 0, 1) := by decide +kernel
theorem dX3_letDownFrom_14 : decode cX3_letDownFrom 14 = .ok (.getfield 21, 3) := by decide +kernel
theorem dX3_letDownFrom_17 : decode cX3_letDownFrom 17 = .ok (.getfield 46, 3) := by decide +kernel
theorem dX3_letDownFrom_20 : decode cX3_letDownFrom 20 = .ok (.aload_n 1, 1) := by decide +kernel
theorem dX3_letDownFrom_21 : decode cX3_letDownFrom 21 = .ok (.iload_n 3, 1) := by decide +kernel
theorem dX3_letDownFrom_22 : decode cX3_letDownFrom 22 = .ok (.iaload, 1) := by decide +kernel
theorem dX3_letDownFrom_23 : decode cX3_letDownFrom 23 = .ok (.aaload, 1) := by decide +kernel
theorem dX3_letDownFrom_24 : decode cX3_letDownFrom 24 = .ok (.invokevirtual 84, 3) := by decide +kernel
theorem dX3_letDownFrom_27 : decode cX3_letDownFrom 27 = .ok (.iinc 3 1, 3) := by decide +kernel
theorem dX3_letDownFrom_30 : decode cX3_letDownFrom 30 = .ok (.goto (-28), 3) := by decide +kernel
theorem dX3_letDownFrom_33 : decode cX3_letDownFrom 33 = .ok (.aload_n 0, 1) := by decide +kernel
theorem dX3_letDownFrom_34 : decode cX3_letDownFrom 34 = .ok (.getfield 34, 3) := by decide +kernel
theorem dX3_letDownFrom_37 : decode cX3_letDownFrom 37 = .ok (.aload_n 0, 1) := by decide +kernel
theorem dX3_letDownFrom_38 : decode cX3_letDownFrom 38 = .ok (.getfield 21, 3) := by decide +kernel
theorem dX3_letDownFrom_41 : decode cX3_letDownFrom 41 = .ok (.invokevirtual 87, 3) := by decide +kernel
theorem dX3_letDownFrom_44 : decode cX3_letDownFrom 44 = .ok (.iload_n 2, 1) := by decide +kernel
theorem dX3_letDownFrom_45 : decode cX3_letDownFrom 45 = .ok (.istore_n 3, 1) := by decide +kernel
theorem dX3_letDownFrom_46 : decode cX3_letDownFrom 46 = .ok (.iload_n 3, 1) := by decide +kernel
theorem dX3_letDownFrom_47 : decode cX3_letDownFrom 47 = .ok (.aload_n 0, 1) := by decide +kernel
theorem dX3_letDownFrom_48 : decode cX3_letDownFrom 48 = .ok (.getfield 21, 3) := by decide +kernel
theorem dX3_letDownFrom_51 : decode cX3_letDownFrom 51 = .ok (.getfield 42, 3) := by decide +kernel
theorem dX3_letDownFrom_54 : decode cX3_letDownFrom 54 = .ok (.if_icmp .ge 99, 3) := by decide +kernel
theorem dX3_letDownFrom_57 : decode cX3_letDownFrom 57 = .ok (.aload_n 0, 1) := by decide +kernel
theorem dX3_letDownFrom_58 : decode cX3_letDownFrom 58 = .ok (.getfield 21, 3) := by decide +kernel
theorem dX3_letDownFrom_61 : decode cX3_letDownFrom 61 = .ok (.getfield 46, 3) := by decide +kernel
theorem dX3_letDownFrom_64 : decode cX3_letDownFrom 64 = .ok (.aload_n 1, 1) := by decide +kernel
theorem dX3_letDownFrom_65 : decode cX3_letDownFrom 65 = .ok (.iload_n 3, 1) := by decide +kernel
theorem dX3_letDownFrom_66 : decode cX3_letDownFrom 66 = .ok (.iaload, 1) := by decide +kernel
theorem dX3_letDownFrom_67 : decode cX3_letDownFrom 67 = .ok (.aaload, 1) := by decide +kernel
theorem dX3_letDownFrom_68 : decode cX3_letDownFrom 68 = .ok (.astore 4, 2) := by decide +kernel
theorem dX3_letDownFrom_70 : decode cX3_letDownFrom 70 = .ok (.aload_n 0, 1) := by decide +kernel
theorem dX3_letDownFrom_71 : decode cX3_letDownFrom 71 = .ok (.getfield 34, 3) := by decide +kernel
theorem dX3_letDownFrom_74 : decode cX3_letDownFrom 74 = .ok (.aload_n 0, 1) := by decide +kernel
theorem dX3_letDownFrom_75 : decode cX3_letDownFrom 75 = .ok (.getfield 21, 3) := by decide +kernel
theorem dX3_letDownFrom_78 : decode cX3_letDownFrom 78 = .ok (.aload 4, 2) := by decide +kernel
theorem dX3_letDownFrom_80 : decode cX3_letDownFrom 80 = .ok (.iconst 1, 1) := by decide +kernel
theorem dX3_letDownFrom_81 : decode cX3_letDownFrom 81 = .ok (.invokevirtual 90, 3) := by decide +kernel
theorem dX3_letDownFrom_84 : decode cX3_letDownFrom 84 = .ok (.aload_n 0, 1) := by decide +kernel
theorem dX3_letDownFrom_85 : decode cX3_letDownFrom 85 = .ok (.getfield 34, 3) := by decide +kernel
theorem dX3_letDownFrom_88 : decode cX3_letDownFrom 88 = .ok (.getfield 94, 3) := by decide +kernel
theorem dX3_letDownFrom_91 : decode cX3_letDownFrom 91 = .ok (.ifCond .le 56, 3) := by decide +kernel
theorem dX3_letDownFrom_94 : decode cX3_letDownFrom 94 = .ok (.aload 4, 2) := by decide +kernel
theorem dX3_letDownFrom_96 : decode cX3_letDownFrom 96 = .ok (.aload_n 0, 1) := by decide +kernel
theorem dX3_letDownFrom_97 : decode cX3_letDownFrom 97 = .ok (.getfield 34, 3) := by decide +kernel
theorem dX3_letDownFrom_100 : decode cX3_letDownFrom 100 = .ok (.getfield 97, 3) := by decide +kernel
theorem dX3_letDownFrom_103 : decode cX3_letDownFrom 103 = .ok (.aload_n 0, 1) := by decide +kernel
theorem dX3_letDownFrom_104 : decode cX3_letDownFrom 104 = .ok (.getfield 34, 3) := by decide +kernel
theorem dX3_letDownFrom_107 : decode cX3_letDownFrom 107 = .ok (.getfield 100, 3) := by decide +kernel
theorem dX3_letDownFrom_110 : decode cX3_letDownFrom 110 = .ok (.aload_n 0, 1) := by decide +kernel
theorem dX3_letDownFrom_111 : decode cX3_letDownFrom 111 = .ok (.getfield 34, 3) := by decide +kernel
theorem dX3_letDownFrom_114 : decode cX3_letDownFrom 114 = .ok (.getfield 103, 3) := by decide +kernel
theorem dX3_letDownFrom_117 : decode cX3_letDownFrom 117 = .ok (.aload_n 0, 1) := by decide +kernel
theorem dX3_letDownFrom_118 : decode cX3_letDownFrom 118 = .ok (.getfield 34, 3) := by decide +kernel
theorem dX3_letDownFrom_121 : decode cX3_letDownFrom 121 = .ok (.getfield 107, 3) := by decide +kernel
theorem dX3_letDownFrom_124 : decode cX3_letDownFrom 124 = .ok (.aload_n 0, 1) := by decide +kernel
theorem dX3_letDownFrom_125 : decode cX3_letDownFrom 125 = .ok (.getfield 34, 3) := by decide +kernel
theorem dX3_letDownFrom_128 : decode cX3_letDownFrom 128 = .ok (.getfield 110, 3) := by decide +kernel
theorem dX3_letDownFrom_131 : decode cX3_letDownFrom 131 = .ok (.invokevirtual 113, 3) := by decide +kernel
theorem dX3_letDownFrom_134 : decode cX3_letDownFrom 134 = .ok (.aload_n 0, 1) := by decide +kernel
theorem dX3_letDownFrom_135 : decode cX3_letDownFrom 135 = .ok (.getfield 34, 3) := by decide +kernel
theorem dX3_letDownFrom_138 : decode cX3_letDownFrom 138 = .ok (.aload_n 0, 1) := by decide +kernel
theorem dX3_letDownFrom_139 : decode cX3_letDownFrom 139 = .ok (.getfield 21, 3) := by decide +kernel
theorem dX3_letDownFrom_142 : decode cX3_letDownFrom 142 = .ok (.aload 4, 2) := by decide +kernel
theorem dX3_letDownFrom_144 : decode cX3_letDownFrom 144 = .ok (.invokevirtual 117, 3) := by decide +kernel
theorem dX3_letDownFrom_147 : decode cX3_letDownFrom 147 = .ok (.iinc 3 1, 3) := by decide +kernel
theorem dX3_letDownFrom_150 : decode cX3_letDownFrom 150 = .ok (.goto (-104), 3) := by decide +kernel
theorem dX3_letDownFrom_153 : decode cX3_letDownFrom 153 = .ok (.return_, 1) := by decide +kernel
theorem dX3_measure_0 : decode cX3_measure 0 = .ok (.aload_n 1, 1) := by decide +kernel
theorem dX3_measure_1 : decode cX3_measure 1 = .ok (.iconst 0, 1) := by decide +kernel
theorem dX3_measure_2 : decode cX3_measure 2 = .ok (.aload_n 0, 1) := by decide +kernel
theorem dX3_measure_3 : decode cX3_measure 3 = .ok (.getfield 21, 3) := by decide +kernel
theorem dX3_measure_6 : decode cX3_measure 6 = .ok (.getfield 42, 3) := by decide +kernel
theorem dX3_measure_9 : decode cX3_measure 9 = .ok (.aload_n 0, 1) := by decide +kernel
theorem dX3_measure_10 : decode cX3_measure 10 = .ok (.getfield 21, 3) := by decide +kernel
theorem dX3_measure_13 : decode cX3_measure 13 = .ok (.invokevirtual 121, 3) := by decide +kernel
theorem dX3_measure_16 : decode cX3_measure 16 = .ok (.invokestatic 124, 3) := by decide +kernel
theorem dX3_measure_19 : decode cX3_measure 19 = .ok (.isub, 1) := by decide +kernel
theorem dX3_measure_20 : decode cX3_measure 20 = .ok (.iastore, 1) := by decide +kernel
theorem dX3_measure_21 : decode cX3_measure 21 = .ok (.aload_n 1, 1) := by decide +kernel
theorem dX3_measure_22 : decode cX3_measure 22 = .ok (.iconst 1, 1) := by decide +kernel
theorem dX3_measure_23 : decode cX3_measure 23 = .ok (.aload_n 0, 1) := by decide +kernel
theorem dX3_measure_24 : decode cX3_measure 24 = .ok (.getfield 21, 3) := by decide +kernel
theorem dX3_measure_27 : decode cX3_measure 27 = .ok (.invokevirtual 130, 3) := by decide +kernel
theorem dX3_measure_30 : decode cX3_measure 30 = .ok (.iastore, 1) := by decide +kernel
theorem dX3_measure_31 : decode cX3_measure 31 = .ok (.aload_n 1, 1) := by decide +kernel
theorem dX3_measure_32 : decode cX3_measure 32 = .ok (.iconst 2, 1) := by decide +kernel
theorem dX3_measure_33 : decode cX3_measure 33 = .ok (.aload_n 0, 1) := by decide +kernel
theorem dX3_measure_34 : decode cX3_measure 34 = .ok (.getfield 21, 3) := by decide +kernel
theorem dX3_measure_37 : decode cX3_measure 37 = .ok (.invokevirtual 133, 3) := by decide +kernel
theorem dX3_measure_40 : decode cX3_measure 40 = .ok (.iastore, 1) := by decide +kernel
theorem dX3_measure_41 : decode cX3_measure 41 = .ok (.aload_n 1, 1) := by decide +kernel
theorem dX3_measure_42 : decode cX3_measure 42 = .ok (.iconst 3, 1) := by decide +kernel
theorem dX3_measure_43 : decode cX3_measure 43 = .ok (.aload_n 0, 1) := by decide +kernel
theorem dX3_measure_44 : decode cX3_measure 44 = .ok (.getfield 21, 3) := by decide +kernel
theorem dX3_measure_47 : decode cX3_measure 47 = .ok (.invokevirtual 136, 3) := by decide +kernel
theorem dX3_measure_50 : decode cX3_measure 50 = .ok (.iastore, 1) := by decide +kernel
theorem dX3_measure_51 : decode cX3_measure 51 = .ok (.return_, 1) := by decide +kernel
theorem dX3_isTriedBetter_0 : decode cX3_isTriedBetter 0 = .ok (.iconst 0, 1) := by decide +kernel
theorem dX3_isTriedBetter_1 : decode cX3_isTriedBetter 1 = .ok (.istore_n 1, 1) := by decide +kernel
theorem dX3_isTriedBetter_2 : decode cX3_isTriedBetter 2 = .ok (.iload_n 1, 1) := by decide +kernel
theorem dX3_isTriedBetter_3 : decode cX3_isTriedBetter 3 = .ok (.iconst 4, 1) := by decide +kernel
theorem dX3_isTriedBetter_4 : decode cX3_isTriedBetter 4 = .ok (.if_icmp .ge 45, 3) := by decide +kernel
theorem dX3_isTriedBetter_7 : decode cX3_isTriedBetter 7 = .ok (.aload_n 0, 1) := by decide +kernel
theorem dX3_isTriedBetter_8 : decode cX3_isTriedBetter 8 = .ok (.getfield 28, 3) := by decide +kernel
theorem dX3_isTriedBetter_11 : decode cX3_isTriedBetter 11 = .ok (.iload_n 1, 1) := by decide +kernel
theorem dX3_isTriedBetter_12 : decode cX3_isTriedBetter 12 = .ok (.iaload, 1) := by decide +kernel
theorem dX3_isTriedBetter_13 : decode cX3_isTriedBetter 13 = .ok (.aload_n 0, 1) := by decide +kernel
theorem dX3_isTriedBetter_14 : decode cX3_isTriedBetter 14 = .ok (.getfield 15, 3) := by decide +kernel
theorem dX3_isTriedBetter_17 : decode cX3_isTriedBetter 17 = .ok (.iload_n 1, 1) := by decide +kernel
theorem dX3_isTriedBetter_18 : decode cX3_isTriedBetter 18 = .ok (.iaload, 1) := by decide +kernel
theorem dX3_isTriedBetter_19 : decode cX3_isTriedBetter 19 = .ok (.if_icmp .eq 24, 3) := by decide +kernel
theorem dX3_isTriedBetter_22 : decode cX3_isTriedBetter 22 = .ok (.aload_n 0, 1) := by decide +kernel
theorem dX3_isTriedBetter_23 : decode cX3_isTriedBetter 23 = .ok (.getfield 28, 3) := by decide +kernel
theorem dX3_isTriedBetter_26 : decode cX3_isTriedBetter 26 = .ok (.iload_n 1, 1) := by decide +kernel
theorem dX3_isTriedBetter_27 : decode cX3_isTriedBetter 27 = .ok (.iaload, 1) := by decide +kernel
theorem dX3_isTriedBetter_28 : decode cX3_isTriedBetter 28 = .ok (.aload_n 0, 1) := by decide +kernel
theorem dX3_isTriedBetter_29 : decode cX3_isTriedBetter 29 = .ok (.getfield 15, 3) := by decide +kernel
theorem dX3_isTriedBetter_32 : decode cX3_isTriedBetter 32 = .ok (.iload_n 1, 1) := by decide +kernel
theorem dX3_isTriedBetter_33 : decode cX3_isTriedBetter 33 = .ok (.iaload, 1) := by decide +kernel
theorem dX3_isTriedBetter_34 : decode cX3_isTriedBetter 34 = .ok (.if_icmp .ge 7, 3) := by decide +kernel
theorem dX3_isTriedBetter_37 : decode cX3_isTriedBetter 37 = .ok (.iconst 1, 1) := by decide +kernel
theorem dX3_isTriedBetter_38 : decode cX3_isTriedBetter 38 = .ok (.goto 4, 3) := by decide +kernel
theorem dX3_isTriedBetter_41 : decode cX3_isTriedBetter 41 = .ok (.iconst 0, 1) := by decide +kernel
theorem dX3_isTriedBetter_42 : decode cX3_isTriedBetter 42 = .ok (.ireturn, 1) := by decide +kernel
theorem dX3_isTriedBetter_43 : decode cX3_isTriedBetter 43 = .ok (.iinc 1 1, 3) := by decide +kernel
theorem dX3_isTriedBetter_46 : decode cX3_isTriedBetter 46 = .ok (.goto (-44), 3) := by decide +kernel
theorem dX3_isTriedBetter_49 : decode cX3_isTriedBetter 49 = .ok (.iconst 0, 1) := by decide +kernel
theorem dX3_isTriedBetter_50 : decode cX3_isTriedBetter 50 = .ok (.ireturn, 1) := by decide +kernel
theorem dX3_stepToNextOrder_0 : decode cX3_stepToNextOrder 0 = .ok (.aload_n 0, 1) := by decide +kernel
theorem dX3_stepToNextOrder_1 : decode cX3_stepToNextOrder 1 = .ok (.getfield 21, 3) := by decide +kernel
theorem dX3_stepToNextOrder_4 : decode cX3_stepToNextOrder 4 = .ok (.getfield 42, 3) := by decide +kernel
theorem dX3_stepToNextOrder_7 : decode cX3_stepToNextOrder 7 = .ok (.iconst 2, 1) := by decide +kernel
theorem dX3_stepToNextOrder_8 : decode cX3_stepToNextOrder 8 = .ok (.isub, 1) := by decide +kernel
theorem dX3_stepToNextOrder_9 : decode cX3_stepToNextOrder 9 = .ok (.istore_n 1, 1) := by decide +kernel
theorem dX3_stepToNextOrder_10 : decode cX3_stepToNextOrder 10 = .ok (.iload_n 1, 1) := by decide +kernel
theorem dX3_stepToNextOrder_11 : decode cX3_stepToNextOrder 11 = .ok (.ifCond .lt 26, 3) := by decide +kernel
theorem dX3_stepToNextOrder_14 : decode cX3_stepToNextOrder 14 = .ok (.aload_n 0, 1) := by decide +kernel
theorem dX3_stepToNextOrder_15 : decode cX3_stepToNextOrder 15 = .ok (.getfield 25, 3) := by decide +kernel
theorem dX3_stepToNextOrder_18 : decode cX3_stepToNextOrder 18 = .ok (.iload_n 1, 1) := by decide +kernel
theorem dX3_stepToNextOrder_19 : decode cX3_stepToNextOrder 19 = .ok (.iaload, 1) := by decide +kernel
theorem dX3_stepToNextOrder_20 : decode cX3_stepToNextOrder 20 = .ok (.aload_n 0, 1) := by decide +kernel
theorem dX3_stepToNextOrder_21 : decode cX3_stepToNextOrder 21 = .ok (.getfield 25, 3) := by decide +kernel
theorem dX3_stepToNextOrder_24 : decode cX3_stepToNextOrder 24 = .ok (.iload_n 1, 1) := by decide +kernel
theorem dX3_stepToNextOrder_25 : decode cX3_stepToNextOrder 25 = .ok (.iconst 1, 1) := by decide +kernel
theorem dX3_stepToNextOrder_26 : decode cX3_stepToNextOrder 26 = .ok (.iadd, 1) := by decide +kernel
theorem dX3_stepToNextOrder_27 : decode cX3_stepToNextOrder 27 = .ok (.iaload, 1) := by decide +kernel
theorem dX3_stepToNextOrder_28 : decode cX3_stepToNextOrder 28 = .ok (.if_icmp .le 9, 3) := by decide +kernel
theorem dX3_stepToNextOrder_31 : decode cX3_stepToNextOrder 31 = .ok (.iinc 1 (-1), 3) := by decide +kernel
theorem dX3_stepToNextOrder_34 : decode cX3_stepToNextOrder 34 = .ok (.goto (-24), 3) := by decide +kernel
theorem dX3_stepToNextOrder_37 : decode cX3_stepToNextOrder 37 = .ok (.iload_n 1, 1) := by decide +kernel
theorem dX3_stepToNextOrder_38 : decode cX3_stepToNextOrder 38 = .ok (.ifCond .ge 6, 3) := by decide +kernel
theorem dX3_stepToNextOrder_41 : decode cX3_stepToNextOrder 41 = .ok (.bipush (-9), 2) := by decide +kernel
theorem dX3_stepToNextOrder_43 : decode cX3_stepToNextOrder 43 = .ok (.ireturn, 1) := by decide +kernel
theorem dX3_stepToNextOrder_44 : decode cX3_stepToNextOrder 44 = .ok (.aload_n 0, 1) := by decide +kernel
theorem dX3_stepToNextOrder_45 : decode cX3_stepToNextOrder 45 = .ok (.getfield 21, 3) := by decide +kernel
theorem dX3_stepToNextOrder_48 : decode cX3_stepToNextOrder 48 = .ok (.getfield 42, 3) := by decide +kernel
theorem dX3_stepToNextOrder_51 : decode cX3_stepToNextOrder 51 = .ok (.iconst 1, 1) := by decide +kernel
theorem dX3_stepToNextOrder_52 : decode cX3_stepToNextOrder 52 = .ok (.isub, 1) := by decide +kernel
theorem dX3_stepToNextOrder_53 : decode cX3_stepToNextOrder 53 = .ok (.istore_n 2, 1) := by decide +kernel
theorem dX3_stepToNextOrder_54 : decode cX3_stepToNextOrder 54 = .ok (.iload_n 2, 1) := by decide +kernel
theorem dX3_stepToNextOrder_55 : decode cX3_stepToNextOrder 55 = .ok (.iload_n 1, 1) := by decide +kernel
theorem dX3_stepToNextOrder_56 : decode cX3_stepToNextOrder 56 = .ok (.if_icmp .le 24, 3) := by decide +kernel
theorem dX3_stepToNextOrder_59 : decode cX3_stepToNextOrder 59 = .ok (.aload_n 0, 1) := by decide +kernel
theorem dX3_stepToNextOrder_60 : decode cX3_stepToNextOrder 60 = .ok (.getfield 25, 3) := by decide +kernel
theorem dX3_stepToNextOrder_63 : decode cX3_stepToNextOrder 63 = .ok (.iload_n 2, 1) := by decide +kernel
theorem dX3_stepToNextOrder_64 : decode cX3_stepToNextOrder 64 = .ok (.iaload, 1) := by decide +kernel
theorem dX3_stepToNextOrder_65 : decode cX3_stepToNextOrder 65 = .ok (.aload_n 0, 1) := by decide +kernel
theorem dX3_stepToNextOrder_66 : decode cX3_stepToNextOrder 66 = .ok (.getfield 25, 3) := by decide +kernel
theorem dX3_stepToNextOrder_69 : decode cX3_stepToNextOrder 69 = .ok (.iload_n 1, 1) := by decide +kernel
theorem dX3_stepToNextOrder_70 : decode cX3_stepToNextOrder 70 = .ok (.iaload, 1) := by decide +kernel
theorem dX3_stepToNextOrder_71 : decode cX3_stepToNextOrder 71 = .ok (.if_icmp .ge 9, 3) := by decide +kernel
theorem dX3_stepToNextOrder_74 : decode cX3_stepToNextOrder 74 = .ok (.iinc 2 (-1), 3) := by decide +kernel
theorem dX3_stepToNextOrder_77 : decode cX3_stepToNextOrder 77 = .ok (.goto (-23), 3) := by decide +kernel
theorem dX3_stepToNextOrder_80 : decode cX3_stepToNextOrder 80 = .ok (.aload_n 0, 1) := by decide +kernel
theorem dX3_stepToNextOrder_81 : decode cX3_stepToNextOrder 81 = .ok (.iload_n 1, 1) := by decide +kernel
theorem dX3_stepToNextOrder_82 : decode cX3_stepToNextOrder 82 = .ok (.iload_n 2, 1) := by decide +kernel
theorem dX3_stepToNextOrder_83 : decode cX3_stepToNextOrder 83 = .ok (.invokevirtual 139, 3) := by decide +kernel
theorem dX3_stepToNextOrder_86 : decode cX3_stepToNextOrder 86 = .ok (.iload_n 1, 1) := by decide +kernel
theorem dX3_stepToNextOrder_87 : decode cX3_stepToNextOrder 87 = .ok (.iconst 1, 1) := by decide +kernel
theorem dX3_stepToNextOrder_88 : decode cX3_stepToNextOrder 88 = .ok (.iadd, 1) := by decide +kernel
theorem dX3_stepToNextOrder_89 : decode cX3_stepToNextOrder 89 = .ok (.istore_n 3, 1) := by decide +kernel
theorem dX3_stepToNextOrder_90 : decode cX3_stepToNextOrder 90 = .ok (.aload_n 0, 1) := by decide +kernel
theorem dX3_stepToNextOrder_91 : decode cX3_stepToNextOrder 91 = .ok (.getfield 21, 3) := by decide +kernel
theorem dX3_stepToNextOrder_94 : decode cX3_stepToNextOrder 94 = .ok (.getfield 42, 3) := by decide +kernel
theorem dX3_stepToNextOrder_97 : decode cX3_stepToNextOrder 97 = .ok (.iconst 1, 1) := by decide +kernel
theorem dX3_stepToNextOrder_98 : decode cX3_stepToNextOrder 98 = .ok (.isub, 1) := by decide +kernel
theorem dX3_stepToNextOrder_99 : decode cX3_stepToNextOrder 99 = .ok (.istore 4, 2) := by decide +kernel
theorem dX3_stepToNextOrder_101 : decode cX3_stepToNextOrder 101 = .ok (.iload_n 3, 1) := by decide +kernel
theorem dX3_stepToNextOrder_102 : decode cX3_stepToNextOrder 102 = .ok (.iload 4, 2) := by decide +kernel
theorem dX3_stepToNextOrder_104 : decode cX3_stepToNextOrder 104 = .ok (.if_icmp .ge 19, 3) := by decide +kernel
theorem dX3_stepToNextOrder_107 : decode cX3_stepToNextOrder 107 = .ok (.aload_n 0, 1) := by decide +kernel
theorem dX3_stepToNextOrder_108 : decode cX3_stepToNextOrder 108 = .ok (.iload_n 3, 1) := by decide +kernel
theorem dX3_stepToNextOrder_109 : decode cX3_stepToNextOrder 109 = .ok (.iload 4, 2) := by decide +kernel
theorem dX3_stepToNextOrder_111 : decode cX3_stepToNextOrder 111 = .ok (.invokevirtual 139, 3) := by decide +kernel
theorem dX3_stepToNextOrder_114 : decode cX3_stepToNextOrder 114 = .ok (.iinc 3 1, 3) := by decide +kernel
theorem dX3_stepToNextOrder_117 : decode cX3_stepToNextOrder 117 = .ok (.iinc 4 (-1), 3) := by decide +kernel
theorem dX3_stepToNextOrder_120 : decode cX3_stepToNextOrder 120 = .ok (.goto (-19), 3) := by decide +kernel
theorem dX3_stepToNextOrder_123 : decode cX3_stepToNextOrder 123 = .ok (.iload_n 1, 1) := by decide +kernel
theorem dX3_stepToNextOrder_124 : decode cX3_stepToNextOrder 124 = .ok (.ireturn, 1) := by decide +kernel
theorem dX3_swap_0 : decode cX3_swap 0 = .ok (.aload_n 0, 1) := by decide +kernel
theorem dX3_swap_1 : decode cX3_swap 1 = .ok (.getfield 25, 3) := by decide +kernel
theorem dX3_swap_4 : decode cX3_swap 4 = .ok (.iload_n 1, 1) := by decide +kernel
theorem dX3_swap_5 : decode cX3_swap 5 = .ok (.iaload, 1) := by decide +kernel
theorem dX3_swap_6 : decode cX3_swap 6 = .ok (.istore_n 3, 1) := by decide +kernel
theorem dX3_swap_7 : decode cX3_swap 7 = .ok (.aload_n 0, 1) := by decide +kernel
theorem dX3_swap_8 : decode cX3_swap 8 = .ok (.getfield 25, 3) := by decide +kernel
theorem dX3_swap_11 : decode cX3_swap 11 = .ok (.iload_n 1, 1) := by decide +kernel
theorem dX3_swap_12 : decode cX3_swap 12 = .ok (.aload_n 0, 1) := by decide +kernel
theorem dX3_swap_13 : decode cX3_swap 13 = .ok (.getfield 25, 3) := by decide +kernel
theorem dX3_swap_16 : decode cX3_swap 16 = .ok (.iload_n 2, 1) := by decide +kernel
theorem dX3_swap_17 : decode cX3_swap 17 = .ok (.iaload, 1) := by decide +kernel
theorem dX3_swap_18 : decode cX3_swap 18 = .ok (.iastore, 1) := by decide +kernel
theorem dX3_swap_19 : decode cX3_swap 19 = .ok (.aload_n 0, 1) := by decide +kernel
theorem dX3_swap_20 : decode cX3_swap 20 = .ok (.getfield 25, 3) := by decide +kernel
theorem dX3_swap_23 : decode cX3_swap 23 = .ok (.iload_n 2, 1) := by decide +kernel
theorem dX3_swap_24 : decode cX3_swap 24 = .ok (.iload_n 3, 1) := by decide +kernel
theorem dX3_swap_25 : decode cX3_swap 25 = .ok (.iastore, 1) := by decide +kernel
theorem dX3_swap_26 : decode cX3_swap 26 = .ok (.return_, 1) := by decide +kernel
theorem dX4_init_0 : decode cX4_init 0 = .ok (.aload_n 0, 1) := by decide +kernel
theorem dX4_init_1 : decode cX4_init 1 = .ok (.invokespecial 3, 3) := by decide +kernel
theorem dX4_init_4 : decode cX4_init 4 = .ok (.aload_n 0, 1) := by decide +kernel
theorem dX4_init_5 : decode cX4_init 5 = .ok (.iconst 0, 1) := by decide +kernel
theorem dX4_init_6 : decode cX4_init 6 = .ok (.putfield 9, 3) := by decide +kernel
theorem dX4_init_9 : decode cX4_init 9 = .ok (.aload_n 0, 1) := by decide +kernel
theorem dX4_init_10 : decode cX4_init 10 = .ok (.new 15, 3) := by decide +kernel
theorem dX4_init_13 : decode cX4_init 13 = .ok (.dup, 1) := by decide +kernel
theorem dX4_init_14 : decode cX4_init 14 = .ok (.invokespecial 17, 3) := by decide +kernel
theorem dX4_init_17 : decode cX4_init 17 = .ok (.putfield 18, 3) := by decide +kernel
theorem dX4_init_20 : decode cX4_init 20 = .ok (.aload_n 0, 1) := by decide +kernel
theorem dX4_init_21 : decode cX4_init 21 = .ok (.bipush 100, 2) := by decide +kernel
theorem dX4_init_23 : decode cX4_init 23 = .ok (.newarray .char, 2) := by decide +kernel
theorem dX4_init_25 : decode cX4_init 25 = .ok (.putfield 22, 3) := by decide +kernel
theorem dX4_init_28 : decode cX4_init 28 = .ok (.return_, 1) := by decide +kernel
theorem dX4_append_0 : decode cX4_append 0 = .ok (.aload_n 0, 1) := by decide +kernel
theorem dX4_append_1 : decode cX4_append 1 = .ok (.getfield 26, 3) := by decide +kernel
theorem dX4_append_4 : decode cX4_append 4 = .ok (.bipush 100, 2) := by decide +kernel
theorem dX4_append_6 : decode cX4_append 6 = .ok (.if_icmp .ge 23, 3) := by decide +kernel
theorem dX4_append_9 : decode cX4_append 9 = .ok (.aload_n 0, 1) := by decide +kernel
theorem dX4_append_10 : decode cX4_append 10 = .ok (.getfield 22, 3) := by decide +kernel
theorem dX4_append_13 : decode cX4_append 13 = .ok (.aload_n 0, 1) := by decide +kernel
theorem dX4_append_14 : decode cX4_append 14 = .ok (.getfield 26, 3) := by decide +kernel
theorem dX4_append_17 : decode cX4_append 17 = .ok (.iload_n 1, 1) := by decide +kernel
theorem dX4_append_18 : decode cX4_append 18 = .ok (.castore, 1) := by decide +kernel
theorem dX4_append_19 : decode cX4_append 19 = .ok (.aload_n 0, 1) := by decide +kernel
theorem dX4_append_20 : decode cX4_append 20 = .ok (.dup, 1) := by decide +kernel
theorem dX4_append_21 : decode cX4_append 21 = .ok (.getfield 26, 3) := by decide +kernel
theorem dX4_append_24 : decode cX4_append 24 = .ok (.iconst 1, 1) := by decide +kernel
theorem dX4_append_25 : decode cX4_append 25 = .ok (.iadd, 1) := by decide +kernel
theorem dX4_append_26 : decode cX4_append 26 = .ok (.putfield 26, 3) := by decide +kernel
theorem dX4_append_29 : decode cX4_append 29 = .ok (.return_, 1) := by decide +kernel
theorem dX4_read_0 : decode cX4_read 0 = .ok (.aload_n 0, 1) := by decide +kernel
theorem dX4_read_1 : decode cX4_read 1 = .ok (.iconst 0, 1) := by decide +kernel
theorem dX4_read_2 : decode cX4_read 2 = .ok (.putfield 9, 3) := by decide +kernel
theorem dX4_read_5 : decode cX4_read 5 = .ok (.aload_n 0, 1) := by decide +kernel
theorem dX4_read_6 : decode cX4_read 6 = .ok (.iconst 0, 1) := by decide +kernel
theorem dX4_read_7 : decode cX4_read 7 = .ok (.putfield 29, 3) := by decide +kernel
theorem dX4_read_10 : decode cX4_read 10 = .ok (.aload_n 0, 1) := by decide +kernel
theorem dX4_read_11 : decode cX4_read 11 = .ok (.getfield 18, 3) := by decide +kernel
theorem dX4_read_14 : decode cX4_read 14 = .ok (.iconst 0, 1) := by decide +kernel
theorem dX4_read_15 : decode cX4_read 15 = .ok (.putfield 32, 3) := by decide +kernel
theorem dX4_read_18 : decode cX4_read 18 = .ok (.iconst 0, 1) := by decide +kernel
theorem dX4_read_19 : decode cX4_read 19 = .ok (.istore_n 1, 1) := by decide +kernel
theorem dX4_read_20 : decode cX4_read 20 = .ok (.iload_n 1, 1) := by decide +kernel
theorem dX4_read_21 : decode cX4_read 21 = .ok (.bipush 12, 2) := by decide +kernel
theorem dX4_read_23 : decode cX4_read 23 = .ok (.if_icmp .gt 47, 3) := by decide +kernel
theorem dX4_read_26 : decode cX4_read 26 = .ok (.aload_n 0, 1) := by decide +kernel
theorem dX4_read_27 : decode cX4_read 27 = .ok (.getfield 29, 3) := by decide +kernel
theorem dX4_read_30 : decode cX4_read 30 = .ok (.aload_n 0, 1) := by decide +kernel
theorem dX4_read_31 : decode cX4_read 31 = .ok (.getfield 26, 3) := by decide +kernel
theorem dX4_read_34 : decode cX4_read 34 = .ok (.if_icmp .ge 36, 3) := by decide +kernel
theorem dX4_read_37 : decode cX4_read 37 = .ok (.aload_n 0, 1) := by decide +kernel
theorem dX4_read_38 : decode cX4_read 38 = .ok (.getfield 9, 3) := by decide +kernel
theorem dX4_read_41 : decode cX4_read 41 = .ok (.ifCond .ne 29, 3) := by decide +kernel
theorem dX4_read_44 : decode cX4_read 44 = .ok (.aload_n 0, 1) := by decide +kernel
theorem dX4_read_45 : decode cX4_read 45 = .ok (.invokevirtual 35, 3) := by decide +kernel
theorem dX4_read_48 : decode cX4_read 48 = .ok (.ifCond .eq 16, 3) := by decide +kernel
theorem dX4_read_51 : decode cX4_read 51 = .ok (.aload_n 0, 1) := by decide +kernel
theorem dX4_read_52 : decode cX4_read 52 = .ok (.getfield 18, 3) := by decide +kernel
theorem dX4_read_55 : decode cX4_read 55 = .ok (.dup, 1) := by decide +kernel
theorem dX4_read_56 : decode cX4_read 56 = .ok (.getfield 32, 3) := by decide +kernel
theorem dX4_read_59 : decode cX4_read 59 = .ok (.iconst 1, 1) := by decide +kernel
theorem dX4_read_60 : decode cX4_read 60 = .ok (.iadd, 1) := by decide +kernel
theorem dX4_read_61 : decode cX4_read 61 = .ok (.putfield 32, 3) := by decide +kernel
theorem dX4_read_64 : decode cX4_read 64 = .ok (.iinc 1 1, 3) := by decide +kernel
theorem dX4_read_67 : decode cX4_read 67 = .ok (.goto (-47), 3) := by decide +kernel
theorem dX4_read_70 : decode cX4_read 70 = .ok (.aload_n 0, 1) := by decide +kernel
theorem dX4_read_71 : decode cX4_read 71 = .ok (.getfield 9, 3) := by decide +kernel
theorem dX4_read_74 : decode cX4_read 74 = .ok (.ifCond .ne 13, 3) := by decide +kernel
theorem dX4_read_77 : decode cX4_read 77 = .ok (.aload_n 0, 1) := by decide +kernel
theorem dX4_read_78 : decode cX4_read 78 = .ok (.getfield 18, 3) := by decide +kernel
theorem dX4_read_81 : decode cX4_read 81 = .ok (.getfield 32, 3) := by decide +kernel
theorem dX4_read_84 : decode cX4_read 84 = .ok (.goto 10, 3) := by decide +kernel
theorem dX4_read_87 : decode cX4_read 87 = .ok (.bipush (-10), 2) := by decide +kernel
theorem dX4_read_89 : decode cX4_read 89 = .ok (.aload_n 0, 1) := by decide +kernel
theorem dX4_read_90 : decode cX4_read 90 = .ok (.getfield 29, 3) := by decide +kernel
theorem dX4_read_93 : decode cX4_read 93 = .ok (.isub, 1) := by decide +kernel
theorem dX4_read_94 : decode cX4_read 94 = .ok (.ireturn, 1) := by decide +kernel
theorem dX4_readTray_0 : decode cX4_readTray 0 = .ok (.aload_n 0, 1) := by decide +kernel
theorem dX4_readTray_1 : decode cX4_readTray 1 = .ok (.getfield 18, 3) := by decide +kernel
theorem dX4_readTray_4 : decode cX4_readTray 4 = .ok (.getfield 32, 3) := by decide +kernel
theorem dX4_readTray_7 : decode cX4_readTray 7 = .ok (.bipush 12, 2) := by decide +kernel
theorem dX4_readTray_9 : decode cX4_readTray 9 = .ok (.if_icmp .lt 27, 3) := by decide +kernel
theorem dX4_readTray_12 : decode cX4_readTray 12 = .ok (.aload_n 0, 1) := by decide +kernel
theorem dX4_readTray_13 : decode cX4_readTray 13 = .ok (.aload_n 0, 1) := by decide +kernel
theorem dX4_readTray_14 : decode cX4_readTray 14 = .ok (.invokevirtual 39, 3) := by decide +kernel
theorem dX4_readTray_17 : decode cX4_readTray 17 = .ok (.invokestatic 43, 3) := by decide +kernel
theorem dX4_readTray_20 : decode cX4_readTray 20 = .ok (.ifCond .eq 7, 3) := by decide +kernel
theorem dX4_readTray_23 : decode cX4_readTray 23 = .ok (.iconst 3, 1) := by decide +kernel
theorem dX4_readTray_24 : decode cX4_readTray 24 = .ok (.goto 4, 3) := by decide +kernel
theorem dX4_readTray_27 : decode cX4_readTray 27 = .ok (.iconst 1, 1) := by decide +kernel
theorem dX4_readTray_28 : decode cX4_readTray 28 = .ok (.aload_n 0, 1) := by decide +kernel
theorem dX4_readTray_29 : decode cX4_readTray 29 = .ok (.getfield 29, 3) := by decide +kernel
theorem dX4_readTray_32 : decode cX4_readTray 32 = .ok (.invokevirtual 47, 3) := by decide +kernel
theorem dX4_readTray_35 : decode cX4_readTray 35 = .ok (.ireturn, 1) := by decide +kernel
theorem dX4_readTray_36 : decode cX4_readTray 36 = .ok (.aload_n 0, 1) := by decide +kernel
theorem dX4_readTray_37 : decode cX4_readTray 37 = .ok (.bipush 10, 2) := by decide +kernel
theorem dX4_readTray_39 : decode cX4_readTray 39 = .ok (.invokevirtual 51, 3) := by decide +kernel
theorem dX4_readTray_42 : decode cX4_readTray 42 = .ok (.ifCond .ne 5, 3) := by decide +kernel
theorem dX4_readTray_45 : decode cX4_readTray 45 = .ok (.iconst 0, 1) := by decide +kernel
theorem dX4_readTray_46 : decode cX4_readTray 46 = .ok (.ireturn, 1) := by decide +kernel
theorem dX4_readTray_47 : decode cX4_readTray 47 = .ok (.aload_n 0, 1) := by decide +kernel
theorem dX4_readTray_48 : decode cX4_readTray 48 = .ok (.getfield 55, 3) := by decide +kernel
theorem dX4_readTray_51 : decode cX4_readTray 51 = .ok (.istore_n 1, 1) := by decide +kernel
theorem dX4_readTray_52 : decode cX4_readTray 52 = .ok (.aload_n 0, 1) := by decide +kernel
theorem dX4_readTray_53 : decode cX4_readTray 53 = .ok (.bipush 120, 2) := by decide +kernel
theorem dX4_readTray_55 : decode cX4_readTray 55 = .ok (.invokevirtual 58, 3) := by decide +kernel
theorem dX4_readTray_58 : decode cX4_readTray 58 = .ok (.ifCond .eq 12, 3) := by decide +kernel
theorem dX4_readTray_61 : decode cX4_readTray 61 = .ok (.aload_n 0, 1) := by decide +kernel
theorem dX4_readTray_62 : decode cX4_readTray 62 = .ok (.bipush 10, 2) := by decide +kernel
theorem dX4_readTray_64 : decode cX4_readTray 64 = .ok (.invokevirtual 51, 3) := by decide +kernel
theorem dX4_readTray_67 : decode cX4_readTray 67 = .ok (.ifCond .ne 5, 3) := by decide +kernel
theorem dX4_readTray_70 : decode cX4_readTray 70 = .ok (.iconst 0, 1) := by decide +kernel
theorem dX4_readTray_71 : decode cX4_readTray 71 = .ok (.ireturn, 1) := by decide +kernel
theorem dX4_readTray_72 : decode cX4_readTray 72 = .ok (.aload_n 0, 1) := by decide +kernel
theorem dX4_readTray_73 : decode cX4_readTray 73 = .ok (.getfield 55, 3) := by decide +kernel
theorem dX4_readTray_76 : decode cX4_readTray 76 = .ok (.istore_n 2, 1) := by decide +kernel
theorem dX4_readTray_77 : decode cX4_readTray 77 = .ok (.aload_n 0, 1) := by decide +kernel
theorem dX4_readTray_78 : decode cX4_readTray 78 = .ok (.bipush 120, 2) := by decide +kernel
theorem dX4_readTray_80 : decode cX4_readTray 80 = .ok (.invokevirtual 58, 3) := by decide +kernel
theorem dX4_readTray_83 : decode cX4_readTray 83 = .ok (.ifCond .eq 12, 3) := by decide +kernel
theorem dX4_readTray_86 : decode cX4_readTray 86 = .ok (.aload_n 0, 1) := by decide +kernel
theorem dX4_readTray_87 : decode cX4_readTray 87 = .ok (.bipush 9, 2) := by decide +kernel
theorem dX4_readTray_89 : decode cX4_readTray 89 = .ok (.invokevirtual 51, 3) := by decide +kernel
theorem dX4_readTray_92 : decode cX4_readTray 92 = .ok (.ifCond .ne 5, 3) := by decide +kernel
theorem dX4_readTray_95 : decode cX4_readTray 95 = .ok (.iconst 0, 1) := by decide +kernel
theorem dX4_readTray_96 : decode cX4_readTray 96 = .ok (.ireturn, 1) := by decide +kernel
theorem dX4_readTray_97 : decode cX4_readTray 97 = .ok (.aload_n 0, 1) := by decide +kernel
theorem dX4_readTray_98 : decode cX4_readTray 98 = .ok (.getfield 18, 3) := by decide +kernel
theorem dX4_readTray_101 : decode cX4_readTray 101 = .ok (.getfield 61, 3) := by decide +kernel
theorem dX4_readTray_104 : decode cX4_readTray 104 = .ok (.aload_n 0, 1) := by decide +kernel
theorem dX4_readTray_105 : decode cX4_readTray 105 = .ok (.getfield 18, 3) := by decide +kernel
theorem dX4_readTray_108 : decode cX4_readTray 108 = .ok (.getfield 32, 3) := by decide +kernel
theorem dX4_readTray_111 : decode cX4_readTray 111 = .ok (.aaload, 1) := by decide +kernel
theorem dX4_readTray_112 : decode cX4_readTray 112 = .ok (.astore_n 3, 1) := by decide +kernel
theorem dX4_readTray_113 : decode cX4_readTray 113 = .ok (.aload_n 3, 1) := by decide +kernel
theorem dX4_readTray_114 : decode cX4_readTray 114 = .ok (.iload_n 1, 1) := by decide +kernel
theorem dX4_readTray_115 : decode cX4_readTray 115 = .ok (.iload_n 2, 1) := by decide +kernel
theorem dX4_readTray_116 : decode cX4_readTray 116 = .ok (.aload_n 0, 1) := by decide +kernel
theorem dX4_readTray_117 : decode cX4_readTray 117 = .ok (.getfield 55, 3) := by decide +kernel
theorem dX4_readTray_120 : decode cX4_readTray 120 = .ok (.iconst 0, 1) := by decide +kernel
theorem dX4_readTray_121 : decode cX4_readTray 121 = .ok (.invokevirtual 65, 3) := by decide +kernel
theorem dX4_readTray_124 : decode cX4_readTray 124 = .ok (.aload_n 0, 1) := by decide +kernel
theorem dX4_readTray_125 : decode cX4_readTray 125 = .ok (.aload_n 3, 1) := by decide +kernel
theorem dX4_readTray_126 : decode cX4_readTray 126 = .ok (.invokevirtual 71, 3) := by decide +kernel
theorem dX4_readTray_129 : decode cX4_readTray 129 = .ok (.ifCond .eq 24, 3) := by decide +kernel
theorem dX4_readTray_132 : decode cX4_readTray 132 = .ok (.aload_n 0, 1) := by decide +kernel
theorem dX4_readTray_133 : decode cX4_readTray 133 = .ok (.aload_n 3, 1) := by decide +kernel
theorem dX4_readTray_134 : decode cX4_readTray 134 = .ok (.invokevirtual 75, 3) := by decide +kernel
theorem dX4_readTray_137 : decode cX4_readTray 137 = .ok (.ifCond .eq 16, 3) := by decide +kernel
theorem dX4_readTray_140 : decode cX4_readTray 140 = .ok (.aload_n 0, 1) := by decide +kernel
theorem dX4_readTray_141 : decode cX4_readTray 141 = .ok (.bipush 59, 2) := by decide +kernel
theorem dX4_readTray_143 : decode cX4_readTray 143 = .ok (.invokevirtual 58, 3) := by decide +kernel
theorem dX4_readTray_146 : decode cX4_readTray 146 = .ok (.ifCond .eq 7, 3) := by decide +kernel
theorem dX4_readTray_149 : decode cX4_readTray 149 = .ok (.iconst 1, 1) := by decide +kernel
theorem dX4_readTray_150 : decode cX4_readTray 150 = .ok (.goto 4, 3) := by decide +kernel
theorem dX4_readTray_153 : decode cX4_readTray 153 = .ok (.iconst 0, 1) := by decide +kernel
theorem dX4_readTray_154 : decode cX4_readTray 154 = .ok (.ireturn, 1) := by decide +kernel
theorem dX4_readNumber_0 : decode cX4_readNumber 0 = .ok (.aload_n 0, 1) := by decide +kernel
theorem dX4_readNumber_1 : decode cX4_readNumber 1 = .ok (.getfield 29, 3) := by decide +kernel
theorem dX4_readNumber_4 : decode cX4_readNumber 4 = .ok (.istore_n 2, 1) := by decide +kernel
theorem dX4_readNumber_5 : decode cX4_readNumber 5 = .ok (.aload_n 0, 1) := by decide +kernel
theorem dX4_readNumber_6 : decode cX4_readNumber 6 = .ok (.iconst 0, 1) := by decide +kernel
theorem dX4_readNumber_7 : decode cX4_readNumber 7 = .ok (.putfield 55, 3) := by decide +kernel
theorem dX4_readNumber_10 : decode cX4_readNumber 10 = .ok (.aload_n 0, 1) := by decide +kernel
theorem dX4_readNumber_11 : decode cX4_readNumber 11 = .ok (.getfield 29, 3) := by decide +kernel
theorem dX4_readNumber_14 : decode cX4_readNumber 14 = .ok (.iload_n 2, 1) := by decide +kernel
theorem dX4_readNumber_15 : decode cX4_readNumber 15 = .ok (.iconst 2, 1) := by decide +kernel
theorem dX4_readNumber_16 : decode cX4_readNumber 16 = .ok (.iadd, 1) := by decide +kernel
theorem dX4_readNumber_17 : decode cX4_readNumber 17 = .ok (.if_icmp .ge 45, 3) := by decide +kernel
theorem dX4_readNumber_20 : decode cX4_readNumber 20 = .ok (.aload_n 0, 1) := by decide +kernel
theorem dX4_readNumber_21 : decode cX4_readNumber 21 = .ok (.invokevirtual 39, 3) := by decide +kernel
theorem dX4_readNumber_24 : decode cX4_readNumber 24 = .ok (.invokestatic 43, 3) := by decide +kernel
theorem dX4_readNumber_27 : decode cX4_readNumber 27 = .ok (.ifCond .eq 35, 3) := by decide +kernel
theorem dX4_readNumber_30 : decode cX4_readNumber 30 = .ok (.aload_n 0, 1) := by decide +kernel
theorem dX4_readNumber_31 : decode cX4_readNumber 31 = .ok (.bipush 10, 2) := by decide +kernel
theorem dX4_readNumber_33 : decode cX4_readNumber 33 = .ok (.aload_n 0, 1) := by decide +kernel
theorem dX4_readNumber_34 : decode cX4_readNumber 34 = .ok (.getfield 55, 3) := by decide +kernel
theorem dX4_readNumber_37 : decode cX4_readNumber 37 = .ok (.imul, 1) := by decide +kernel
theorem dX4_readNumber_38 : decode cX4_readNumber 38 = .ok (.aload_n 0, 1) := by decide +kernel
theorem dX4_readNumber_39 : decode cX4_readNumber 39 = .ok (.invokevirtual 39, 3) := by decide +kernel
theorem dX4_readNumber_42 : decode cX4_readNumber 42 = .ok (.iadd, 1) := by decide +kernel
theorem dX4_readNumber_43 : decode cX4_readNumber 43 = .ok (.bipush 48, 2) := by decide +kernel
theorem dX4_readNumber_45 : decode cX4_readNumber 45 = .ok (.isub, 1) := by decide +kernel
theorem dX4_readNumber_46 : decode cX4_readNumber 46 = .ok (.putfield 55, 3) := by decide +kernel
theorem dX4_readNumber_49 : decode cX4_readNumber 49 = .ok (.aload_n 0, 1) := by decide +kernel
theorem dX4_readNumber_50 : decode cX4_readNumber 50 = .ok (.dup, 1) := by decide +kernel
theorem dX4_readNumber_51 : decode cX4_readNumber 51 = .ok (.getfield 29, 3) := by decide +kernel
theorem dX4_readNumber_54 : decode cX4_readNumber 54 = .ok (.iconst 1, 1) := by decide +kernel
theorem dX4_readNumber_55 : decode cX4_readNumber 55 = .ok (.iadd, 1) := by decide +kernel
theorem dX4_readNumber_56 : decode cX4_readNumber 56 = .ok (.putfield 29, 3) := by decide +kernel
theorem dX4_readNumber_59 : decode cX4_readNumber 59 = .ok (.goto (-49), 3) := by decide +kernel
theorem dX4_readNumber_62 : decode cX4_readNumber 62 = .ok (.aload_n 0, 1) := by decide +kernel
theorem dX4_readNumber_63 : decode cX4_readNumber 63 = .ok (.getfield 29, 3) := by decide +kernel
theorem dX4_readNumber_66 : decode cX4_readNumber 66 = .ok (.iload_n 2, 1) := by decide +kernel
theorem dX4_readNumber_67 : decode cX4_readNumber 67 = .ok (.if_icmp .eq 13, 3) := by decide +kernel
theorem dX4_readNumber_70 : decode cX4_readNumber 70 = .ok (.aload_n 0, 1) := by decide +kernel
theorem dX4_readNumber_71 : decode cX4_readNumber 71 = .ok (.invokevirtual 39, 3) := by decide +kernel
theorem dX4_readNumber_74 : decode cX4_readNumber 74 = .ok (.invokestatic 43, 3) := by decide +kernel
theorem dX4_readNumber_77 : decode cX4_readNumber 77 = .ok (.ifCond .eq 13, 3) := by decide +kernel
theorem dX4_readNumber_80 : decode cX4_readNumber 80 = .ok (.aload_n 0, 1) := by decide +kernel
theorem dX4_readNumber_81 : decode cX4_readNumber 81 = .ok (.iconst 1, 1) := by decide +kernel
theorem dX4_readNumber_82 : decode cX4_readNumber 82 = .ok (.aload_n 0, 1) := by decide +kernel
theorem dX4_readNumber_83 : decode cX4_readNumber 83 = .ok (.getfield 29, 3) := by decide +kernel
theorem dX4_readNumber_86 : decode cX4_readNumber 86 = .ok (.invokevirtual 47, 3) := by decide +kernel
theorem dX4_readNumber_89 : decode cX4_readNumber 89 = .ok (.ireturn, 1) := by decide +kernel
theorem dX4_readNumber_90 : decode cX4_readNumber 90 = .ok (.aload_n 0, 1) := by decide +kernel
theorem dX4_readNumber_91 : decode cX4_readNumber 91 = .ok (.getfield 55, 3) := by decide +kernel
theorem dX4_readNumber_94 : decode cX4_readNumber 94 = .ok (.iconst 1, 1) := by decide +kernel
theorem dX4_readNumber_95 : decode cX4_readNumber 95 = .ok (.iload_n 1, 1) := by decide +kernel
theorem dX4_readNumber_96 : decode cX4_readNumber 96 = .ok (.invokestatic 78, 3) := by decide +kernel
theorem dX4_readNumber_99 : decode cX4_readNumber 99 = .ok (.ifCond .ne 12, 3) := by decide +kernel
theorem dX4_readNumber_102 : decode cX4_readNumber 102 = .ok (.aload_n 0, 1) := by decide +kernel
theorem dX4_readNumber_103 : decode cX4_readNumber 103 = .ok (.iconst 2, 1) := by decide +kernel
theorem dX4_readNumber_104 : decode cX4_readNumber 104 = .ok (.iload_n 2, 1) := by decide +kernel
theorem dX4_readNumber_105 : decode cX4_readNumber 105 = .ok (.invokevirtual 47, 3) := by decide +kernel
theorem dX4_readNumber_108 : decode cX4_readNumber 108 = .ok (.ifCond .eq 7, 3) := by decide +kernel
theorem dX4_readNumber_111 : decode cX4_readNumber 111 = .ok (.iconst 1, 1) := by decide +kernel
theorem dX4_readNumber_112 : decode cX4_readNumber 112 = .ok (.goto 4, 3) := by decide +kernel
theorem dX4_readNumber_115 : decode cX4_readNumber 115 = .ok (.iconst 0, 1) := by decide +kernel
theorem dX4_readNumber_116 : decode cX4_readNumber 116 = .ok (.ireturn, 1) := by decide +kernel
theorem dX4_readSign_0 : decode cX4_readSign 0 = .ok (.aload_n 0, 1) := by decide +kernel
theorem dX4_readSign_1 : decode cX4_readSign 1 = .ok (.invokevirtual 39, 3) := by decide +kernel
theorem dX4_readSign_4 : decode cX4_readSign 4 = .ok (.iload_n 1, 1) := by decide +kernel
theorem dX4_readSign_5 : decode cX4_readSign 5 = .ok (.if_icmp .eq 13, 3) := by decide +kernel
theorem dX4_readSign_8 : decode cX4_readSign 8 = .ok (.aload_n 0, 1) := by decide +kernel
theorem dX4_readSign_9 : decode cX4_readSign 9 = .ok (.iconst 1, 1) := by decide +kernel
theorem dX4_readSign_10 : decode cX4_readSign 10 = .ok (.aload_n 0, 1) := by decide +kernel
theorem dX4_readSign_11 : decode cX4_readSign 11 = .ok (.getfield 29, 3) := by decide +kernel
theorem dX4_readSign_14 : decode cX4_readSign 14 = .ok (.invokevirtual 47, 3) := by decide +kernel
theorem dX4_readSign_17 : decode cX4_readSign 17 = .ok (.ireturn, 1) := by decide +kernel
theorem dX4_readSign_18 : decode cX4_readSign 18 = .ok (.aload_n 0, 1) := by decide +kernel
theorem dX4_readSign_19 : decode cX4_readSign 19 = .ok (.dup, 1) := by decide +kernel
theorem dX4_readSign_20 : decode cX4_readSign 20 = .ok (.getfield 29, 3) := by decide +kernel
theorem dX4_readSign_23 : decode cX4_readSign 23 = .ok (.iconst 1, 1) := by decide +kernel
theorem dX4_readSign_24 : decode cX4_readSign 24 = .ok (.iadd, 1) := by decide +kernel
theorem dX4_readSign_25 : decode cX4_readSign 25 = .ok (.putfield 29, 3) := by decide +kernel
theorem dX4_readSign_28 : decode cX4_readSign 28 = .ok (.iconst 1, 1) := by decide +kernel
theorem dX4_readSign_29 : decode cX4_readSign 29 = .ok (.ireturn, 1) := by decide +kernel
theorem dX4_readLid_0 : decode cX4_readLid 0 = .ok (.aload_n 0, 1) := by decide +kernel
theorem dX4_readLid_1 : decode cX4_readLid 1 = .ok (.invokevirtual 39, 3) := by decide +kernel
theorem dX4_readLid_4 : decode cX4_readLid 4 = .ok (.bipush 108, 2) := by decide +kernel
theorem dX4_readLid_6 : decode cX4_readLid 6 = .ok (.if_icmp .ne 18, 3) := by decide +kernel
theorem dX4_readLid_9 : decode cX4_readLid 9 = .ok (.aload_n 0, 1) := by decide +kernel
theorem dX4_readLid_10 : decode cX4_readLid 10 = .ok (.dup, 1) := by decide +kernel
theorem dX4_readLid_11 : decode cX4_readLid 11 = .ok (.getfield 29, 3) := by decide +kernel
theorem dX4_readLid_14 : decode cX4_readLid 14 = .ok (.iconst 1, 1) := by decide +kernel
theorem dX4_readLid_15 : decode cX4_readLid 15 = .ok (.iadd, 1) := by decide +kernel
theorem dX4_readLid_16 : decode cX4_readLid 16 = .ok (.putfield 29, 3) := by decide +kernel
theorem dX4_readLid_19 : decode cX4_readLid 19 = .ok (.aload_n 1, 1) := by decide +kernel
theorem dX4_readLid_20 : decode cX4_readLid 20 = .ok (.iconst 1, 1) := by decide +kernel
theorem dX4_readLid_21 : decode cX4_readLid 21 = .ok (.putfield 82, 3) := by decide +kernel
