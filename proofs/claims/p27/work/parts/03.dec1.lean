theorem dX0_init_0 : decode cX0_init 0 = .ok (.aload_n 0, 1) := by decide +kernel
theorem dX0_init_1 : decode cX0_init 1 = .ok (.invokespecial 3, 3) := by decide +kernel
theorem dX0_init_4 : decode cX0_init 4 = .ok (.aload_n 0, 1) := by decide +kernel
theorem dX0_init_5 : decode cX0_init 5 = .ok (.bipush 6, 2) := by decide +kernel
theorem dX0_init_7 : decode cX0_init 7 = .ok (.putfield 9, 3) := by decide +kernel
theorem dX0_init_10 : decode cX0_init 10 = .ok (.aload_n 0, 1) := by decide +kernel
theorem dX0_init_11 : decode cX0_init 11 = .ok (.bipush 6, 2) := by decide +kernel
theorem dX0_init_13 : decode cX0_init 13 = .ok (.putfield 15, 3) := by decide +kernel
theorem dX0_init_16 : decode cX0_init 16 = .ok (.aload_n 0, 1) := by decide +kernel
theorem dX0_init_17 : decode cX0_init 17 = .ok (.bipush 12, 2) := by decide +kernel
theorem dX0_init_19 : decode cX0_init 19 = .ok (.putfield 18, 3) := by decide +kernel
theorem dX0_init_22 : decode cX0_init 22 = .ok (.aload_n 0, 1) := by decide +kernel
theorem dX0_init_23 : decode cX0_init 23 = .ok (.bipush 50, 2) := by decide +kernel
theorem dX0_init_25 : decode cX0_init 25 = .ok (.putfield 21, 3) := by decide +kernel
theorem dX0_init_28 : decode cX0_init 28 = .ok (.aload_n 0, 1) := by decide +kernel
theorem dX0_init_29 : decode cX0_init 29 = .ok (.bipush 12, 2) := by decide +kernel
theorem dX0_init_31 : decode cX0_init 31 = .ok (.anewarray 24, 3) := by decide +kernel
theorem dX0_init_34 : decode cX0_init 34 = .ok (.putfield 26, 3) := by decide +kernel
theorem dX0_init_37 : decode cX0_init 37 = .ok (.iconst 0, 1) := by decide +kernel
theorem dX0_init_38 : decode cX0_init 38 = .ok (.istore_n 1, 1) := by decide +kernel
theorem dX0_init_39 : decode cX0_init 39 = .ok (.iload_n 1, 1) := by decide +kernel
theorem dX0_init_40 : decode cX0_init 40 = .ok (.bipush 12, 2) := by decide +kernel
theorem dX0_init_42 : decode cX0_init 42 = .ok (.if_icmp .ge 22, 3) := by decide +kernel
theorem dX0_init_45 : decode cX0_init 45 = .ok (.aload_n 0, 1) := by decide +kernel
theorem dX0_init_46 : decode cX0_init 46 = .ok (.getfield 26, 3) := by decide +kernel
theorem dX0_init_49 : decode cX0_init 49 = .ok (.iload_n 1, 1) := by decide +kernel
theorem dX0_init_50 : decode cX0_init 50 = .ok (.new 24, 3) := by decide +kernel
theorem dX0_init_53 : decode cX0_init 53 = .ok (.dup, 1) := by decide +kernel
theorem dX0_init_54 : decode cX0_init 54 = .ok (.invokespecial 30, 3) := by decide +kernel
theorem dX0_init_57 : decode cX0_init 57 = .ok (.aastore, 1) := by decide +kernel
theorem dX0_init_58 : decode cX0_init 58 = .ok (.iinc 1 1, 3) := by decide +kernel
theorem dX0_init_61 : decode cX0_init 61 = .ok (.goto (-22), 3) := by decide +kernel
theorem dX0_init_64 : decode cX0_init 64 = .ok (.return_, 1) := by decide +kernel
theorem dX0_copyFrom_0 : decode cX0_copyFrom 0 = .ok (.aload_n 0, 1) := by decide +kernel
theorem dX0_copyFrom_1 : decode cX0_copyFrom 1 = .ok (.aload_n 1, 1) := by decide +kernel
theorem dX0_copyFrom_2 : decode cX0_copyFrom 2 = .ok (.getfield 9, 3) := by decide +kernel
theorem dX0_copyFrom_5 : decode cX0_copyFrom 5 = .ok (.putfield 9, 3) := by decide +kernel
theorem dX0_copyFrom_8 : decode cX0_copyFrom 8 = .ok (.aload_n 0, 1) := by decide +kernel
theorem dX0_copyFrom_9 : decode cX0_copyFrom 9 = .ok (.aload_n 1, 1) := by decide +kernel
theorem dX0_copyFrom_10 : decode cX0_copyFrom 10 = .ok (.getfield 15, 3) := by decide +kernel
theorem dX0_copyFrom_13 : decode cX0_copyFrom 13 = .ok (.putfield 15, 3) := by decide +kernel
theorem dX0_copyFrom_16 : decode cX0_copyFrom 16 = .ok (.aload_n 0, 1) := by decide +kernel
theorem dX0_copyFrom_17 : decode cX0_copyFrom 17 = .ok (.aload_n 1, 1) := by decide +kernel
theorem dX0_copyFrom_18 : decode cX0_copyFrom 18 = .ok (.getfield 18, 3) := by decide +kernel
theorem dX0_copyFrom_21 : decode cX0_copyFrom 21 = .ok (.putfield 18, 3) := by decide +kernel
theorem dX0_copyFrom_24 : decode cX0_copyFrom 24 = .ok (.aload_n 0, 1) := by decide +kernel
theorem dX0_copyFrom_25 : decode cX0_copyFrom 25 = .ok (.aload_n 1, 1) := by decide +kernel
theorem dX0_copyFrom_26 : decode cX0_copyFrom 26 = .ok (.getfield 21, 3) := by decide +kernel
theorem dX0_copyFrom_29 : decode cX0_copyFrom 29 = .ok (.putfield 21, 3) := by decide +kernel
theorem dX0_copyFrom_32 : decode cX0_copyFrom 32 = .ok (.aload_n 0, 1) := by decide +kernel
theorem dX0_copyFrom_33 : decode cX0_copyFrom 33 = .ok (.aload_n 1, 1) := by decide +kernel
theorem dX0_copyFrom_34 : decode cX0_copyFrom 34 = .ok (.invokevirtual 31, 3) := by decide +kernel
theorem dX0_copyFrom_37 : decode cX0_copyFrom 37 = .ok (.return_, 1) := by decide +kernel
theorem dX0_copyTrays_0 : decode cX0_copyTrays 0 = .ok (.aload_n 0, 1) := by decide +kernel
theorem dX0_copyTrays_1 : decode cX0_copyTrays 1 = .ok (.aload_n 1, 1) := by decide +kernel
theorem dX0_copyTrays_2 : decode cX0_copyTrays 2 = .ok (.getfield 35, 3) := by decide +kernel
theorem dX0_copyTrays_5 : decode cX0_copyTrays 5 = .ok (.putfield 35, 3) := by decide +kernel
theorem dX0_copyTrays_8 : decode cX0_copyTrays 8 = .ok (.iconst 0, 1) := by decide +kernel
theorem dX0_copyTrays_9 : decode cX0_copyTrays 9 = .ok (.istore_n 2, 1) := by decide +kernel
theorem dX0_copyTrays_10 : decode cX0_copyTrays 10 = .ok (.iload_n 2, 1) := by decide +kernel
theorem dX0_copyTrays_11 : decode cX0_copyTrays 11 = .ok (.aload_n 0, 1) := by decide +kernel
theorem dX0_copyTrays_12 : decode cX0_copyTrays 12 = .ok (.getfield 35, 3) := by decide +kernel
theorem dX0_copyTrays_15 : decode cX0_copyTrays 15 = .ok (.if_icmp .ge 24, 3) := by decide +kernel
theorem dX0_copyTrays_18 : decode cX0_copyTrays 18 = .ok (.aload_n 0, 1) := by decide +kernel
theorem dX0_copyTrays_19 : decode cX0_copyTrays 19 = .ok (.getfield 26, 3) := by decide +kernel
theorem dX0_copyTrays_22 : decode cX0_copyTrays 22 = .ok (.iload_n 2, 1) := by decide +kernel
theorem dX0_copyTrays_23 : decode cX0_copyTrays 23 = .ok (.aaload, 1) := by decide +kernel
theorem dX0_copyTrays_24 : decode cX0_copyTrays 24 = .ok (.aload_n 1, 1) := by decide +kernel
theorem dX0_copyTrays_25 : decode cX0_copyTrays 25 = .ok (.getfield 26, 3) := by decide +kernel
theorem dX0_copyTrays_28 : decode cX0_copyTrays 28 = .ok (.iload_n 2, 1) := by decide +kernel
theorem dX0_copyTrays_29 : decode cX0_copyTrays 29 = .ok (.aaload, 1) := by decide +kernel
theorem dX0_copyTrays_30 : decode cX0_copyTrays 30 = .ok (.invokevirtual 38, 3) := by decide +kernel
theorem dX0_copyTrays_33 : decode cX0_copyTrays 33 = .ok (.iinc 2 1, 3) := by decide +kernel
theorem dX0_copyTrays_36 : decode cX0_copyTrays 36 = .ok (.goto (-26), 3) := by decide +kernel
theorem dX0_copyTrays_39 : decode cX0_copyTrays 39 = .ok (.return_, 1) := by decide +kernel
theorem dX0_clear_0 : decode cX0_clear 0 = .ok (.iconst 0, 1) := by decide +kernel
theorem dX0_clear_1 : decode cX0_clear 1 = .ok (.istore_n 1, 1) := by decide +kernel
theorem dX0_clear_2 : decode cX0_clear 2 = .ok (.iload_n 1, 1) := by decide +kernel
theorem dX0_clear_3 : decode cX0_clear 3 = .ok (.aload_n 0, 1) := by decide +kernel
theorem dX0_clear_4 : decode cX0_clear 4 = .ok (.getfield 35, 3) := by decide +kernel
theorem dX0_clear_7 : decode cX0_clear 7 = .ok (.if_icmp .ge 18, 3) := by decide +kernel
theorem dX0_clear_10 : decode cX0_clear 10 = .ok (.aload_n 0, 1) := by decide +kernel
theorem dX0_clear_11 : decode cX0_clear 11 = .ok (.getfield 26, 3) := by decide +kernel
theorem dX0_clear_14 : decode cX0_clear 14 = .ok (.iload_n 1, 1) := by decide +kernel
theorem dX0_clear_15 : decode cX0_clear 15 = .ok (.aaload, 1) := by decide +kernel
theorem dX0_clear_16 : decode cX0_clear 16 = .ok (.invokevirtual 42, 3) := by decide +kernel
theorem dX0_clear_19 : decode cX0_clear 19 = .ok (.iinc 1 1, 3) := by decide +kernel
theorem dX0_clear_22 : decode cX0_clear 22 = .ok (.goto (-20), 3) := by decide +kernel
theorem dX0_clear_25 : decode cX0_clear 25 = .ok (.return_, 1) := by decide +kernel
theorem dX0_has_0 : decode cX0_has 0 = .ok (.iload_n 1, 1) := by decide +kernel
theorem dX0_has_1 : decode cX0_has 1 = .ok (.ifCond .lt 15, 3) := by decide +kernel
theorem dX0_has_4 : decode cX0_has 4 = .ok (.iload_n 1, 1) := by decide +kernel
theorem dX0_has_5 : decode cX0_has 5 = .ok (.aload_n 0, 1) := by decide +kernel
theorem dX0_has_6 : decode cX0_has 6 = .ok (.getfield 35, 3) := by decide +kernel
theorem dX0_has_9 : decode cX0_has 9 = .ok (.if_icmp .ge 7, 3) := by decide +kernel
theorem dX0_has_12 : decode cX0_has 12 = .ok (.iconst 1, 1) := by decide +kernel
theorem dX0_has_13 : decode cX0_has 13 = .ok (.goto 4, 3) := by decide +kernel
theorem dX0_has_16 : decode cX0_has 16 = .ok (.iconst 0, 1) := by decide +kernel
theorem dX0_has_17 : decode cX0_has 17 = .ok (.ireturn, 1) := by decide +kernel
theorem dX0_encloses_0 : decode cX0_encloses 0 = .ok (.iload_n 2, 1) := by decide +kernel
theorem dX0_encloses_1 : decode cX0_encloses 1 = .ok (.ifCond .lt 41, 3) := by decide +kernel
theorem dX0_encloses_4 : decode cX0_encloses 4 = .ok (.iload_n 2, 1) := by decide +kernel
theorem dX0_encloses_5 : decode cX0_encloses 5 = .ok (.aload_n 0, 1) := by decide +kernel
theorem dX0_encloses_6 : decode cX0_encloses 6 = .ok (.getfield 9, 3) := by decide +kernel
theorem dX0_encloses_9 : decode cX0_encloses 9 = .ok (.aload_n 1, 1) := by decide +kernel
theorem dX0_encloses_10 : decode cX0_encloses 10 = .ok (.iload 4, 2) := by decide +kernel
theorem dX0_encloses_12 : decode cX0_encloses 12 = .ok (.invokevirtual 45, 3) := by decide +kernel
theorem dX0_encloses_15 : decode cX0_encloses 15 = .ok (.isub, 1) := by decide +kernel
theorem dX0_encloses_16 : decode cX0_encloses 16 = .ok (.if_icmp .gt 26, 3) := by decide +kernel
theorem dX0_encloses_19 : decode cX0_encloses 19 = .ok (.iload_n 3, 1) := by decide +kernel
theorem dX0_encloses_20 : decode cX0_encloses 20 = .ok (.ifCond .lt 22, 3) := by decide +kernel
theorem dX0_encloses_23 : decode cX0_encloses 23 = .ok (.iload_n 3, 1) := by decide +kernel
theorem dX0_encloses_24 : decode cX0_encloses 24 = .ok (.aload_n 0, 1) := by decide +kernel
theorem dX0_encloses_25 : decode cX0_encloses 25 = .ok (.getfield 15, 3) := by decide +kernel
theorem dX0_encloses_28 : decode cX0_encloses 28 = .ok (.aload_n 1, 1) := by decide +kernel
theorem dX0_encloses_29 : decode cX0_encloses 29 = .ok (.iload 4, 2) := by decide +kernel
theorem dX0_encloses_31 : decode cX0_encloses 31 = .ok (.invokevirtual 49, 3) := by decide +kernel
theorem dX0_encloses_34 : decode cX0_encloses 34 = .ok (.isub, 1) := by decide +kernel
theorem dX0_encloses_35 : decode cX0_encloses 35 = .ok (.if_icmp .gt 7, 3) := by decide +kernel
theorem dX0_encloses_38 : decode cX0_encloses 38 = .ok (.iconst 1, 1) := by decide +kernel
theorem dX0_encloses_39 : decode cX0_encloses 39 = .ok (.goto 4, 3) := by decide +kernel
theorem dX0_encloses_42 : decode cX0_encloses 42 = .ok (.iconst 0, 1) := by decide +kernel
theorem dX0_encloses_43 : decode cX0_encloses 43 = .ok (.ireturn, 1) := by decide +kernel
theorem dX0_highestFloor_0 : decode cX0_highestFloor 0 = .ok (.aload_n 0, 1) := by decide +kernel
theorem dX0_highestFloor_1 : decode cX0_highestFloor 1 = .ok (.getfield 18, 3) := by decide +kernel
theorem dX0_highestFloor_4 : decode cX0_highestFloor 4 = .ok (.aload_n 1, 1) := by decide +kernel
theorem dX0_highestFloor_5 : decode cX0_highestFloor 5 = .ok (.invokevirtual 52, 3) := by decide +kernel
theorem dX0_highestFloor_8 : decode cX0_highestFloor 8 = .ok (.isub, 1) := by decide +kernel
theorem dX0_highestFloor_9 : decode cX0_highestFloor 9 = .ok (.ireturn, 1) := by decide +kernel
theorem dX0_inside_0 : decode cX0_inside 0 = .ok (.iconst 0, 1) := by decide +kernel
theorem dX0_inside_1 : decode cX0_inside 1 = .ok (.istore_n 1, 1) := by decide +kernel
theorem dX0_inside_2 : decode cX0_inside 2 = .ok (.iconst 0, 1) := by decide +kernel
theorem dX0_inside_3 : decode cX0_inside 3 = .ok (.istore_n 2, 1) := by decide +kernel
theorem dX0_inside_4 : decode cX0_inside 4 = .ok (.iload_n 2, 1) := by decide +kernel
theorem dX0_inside_5 : decode cX0_inside 5 = .ok (.aload_n 0, 1) := by decide +kernel
theorem dX0_inside_6 : decode cX0_inside 6 = .ok (.getfield 35, 3) := by decide +kernel
theorem dX0_inside_9 : decode cX0_inside 9 = .ok (.if_icmp .ge 27, 3) := by decide +kernel
theorem dX0_inside_12 : decode cX0_inside 12 = .ok (.aload_n 0, 1) := by decide +kernel
theorem dX0_inside_13 : decode cX0_inside 13 = .ok (.getfield 26, 3) := by decide +kernel
theorem dX0_inside_16 : decode cX0_inside 16 = .ok (.iload_n 2, 1) := by decide +kernel
theorem dX0_inside_17 : decode cX0_inside 17 = .ok (.aaload, 1) := by decide +kernel
theorem dX0_inside_18 : decode cX0_inside 18 = .ok (.getfield 56, 3) := by decide +kernel
theorem dX0_inside_21 : decode cX0_inside 21 = .ok (.ifCond .eq 9, 3) := by decide +kernel
theorem dX0_inside_24 : decode cX0_inside 24 = .ok (.iload_n 1, 1) := by decide +kernel
theorem dX0_inside_25 : decode cX0_inside 25 = .ok (.iconst 1, 1) := by decide +kernel
theorem dX0_inside_26 : decode cX0_inside 26 = .ok (.iload_n 2, 1) := by decide +kernel
theorem dX0_inside_27 : decode cX0_inside 27 = .ok (.ishl, 1) := by decide +kernel
theorem dX0_inside_28 : decode cX0_inside 28 = .ok (.ior, 1) := by decide +kernel
theorem dX0_inside_29 : decode cX0_inside 29 = .ok (.istore_n 1, 1) := by decide +kernel
theorem dX0_inside_30 : decode cX0_inside 30 = .ok (.iinc 2 1, 3) := by decide +kernel
theorem dX0_inside_33 : decode cX0_inside 33 = .ok (.goto (-29), 3) := by decide +kernel
theorem dX0_inside_36 : decode cX0_inside 36 = .ok (.iload_n 1, 1) := by decide +kernel
theorem dX0_inside_37 : decode cX0_inside 37 = .ok (.ireturn, 1) := by decide +kernel
theorem dX0_uppermost_0 : decode cX0_uppermost 0 = .ok (.bipush (-9), 2) := by decide +kernel
theorem dX0_uppermost_2 : decode cX0_uppermost 2 = .ok (.istore_n 3, 1) := by decide +kernel
theorem dX0_uppermost_3 : decode cX0_uppermost 3 = .ok (.iconst 0, 1) := by decide +kernel
theorem dX0_uppermost_4 : decode cX0_uppermost 4 = .ok (.istore 4, 2) := by decide +kernel
theorem dX0_uppermost_6 : decode cX0_uppermost 6 = .ok (.iconst 0, 1) := by decide +kernel
theorem dX0_uppermost_7 : decode cX0_uppermost 7 = .ok (.istore 5, 2) := by decide +kernel
theorem dX0_uppermost_9 : decode cX0_uppermost 9 = .ok (.iload 5, 2) := by decide +kernel
theorem dX0_uppermost_11 : decode cX0_uppermost 11 = .ok (.aload_n 0, 1) := by decide +kernel
theorem dX0_uppermost_12 : decode cX0_uppermost 12 = .ok (.getfield 35, 3) := by decide +kernel
theorem dX0_uppermost_15 : decode cX0_uppermost 15 = .ok (.if_icmp .ge 54, 3) := by decide +kernel
theorem dX0_uppermost_18 : decode cX0_uppermost 18 = .ok (.aload_n 0, 1) := by decide +kernel
theorem dX0_uppermost_19 : decode cX0_uppermost 19 = .ok (.getfield 26, 3) := by decide +kernel
theorem dX0_uppermost_22 : decode cX0_uppermost 22 = .ok (.iload 5, 2) := by decide +kernel
theorem dX0_uppermost_24 : decode cX0_uppermost 24 = .ok (.aaload, 1) := by decide +kernel
theorem dX0_uppermost_25 : decode cX0_uppermost 25 = .ok (.iload_n 1, 1) := by decide +kernel
theorem dX0_uppermost_26 : decode cX0_uppermost 26 = .ok (.iload_n 2, 1) := by decide +kernel
theorem dX0_uppermost_27 : decode cX0_uppermost 27 = .ok (.invokevirtual 60, 3) := by decide +kernel
theorem dX0_uppermost_30 : decode cX0_uppermost 30 = .ok (.ifCond .eq 33, 3) := by decide +kernel
theorem dX0_uppermost_33 : decode cX0_uppermost 33 = .ok (.aload_n 0, 1) := by decide +kernel
theorem dX0_uppermost_34 : decode cX0_uppermost 34 = .ok (.getfield 26, 3) := by decide +kernel
theorem dX0_uppermost_37 : decode cX0_uppermost 37 = .ok (.iload 5, 2) := by decide +kernel
theorem dX0_uppermost_39 : decode cX0_uppermost 39 = .ok (.aaload, 1) := by decide +kernel
theorem dX0_uppermost_40 : decode cX0_uppermost 40 = .ok (.getfield 64, 3) := by decide +kernel
theorem dX0_uppermost_43 : decode cX0_uppermost 43 = .ok (.iload 4, 2) := by decide +kernel
theorem dX0_uppermost_45 : decode cX0_uppermost 45 = .ok (.if_icmp .le 18, 3) := by decide +kernel
theorem dX0_uppermost_48 : decode cX0_uppermost 48 = .ok (.iload 5, 2) := by decide +kernel
theorem dX0_uppermost_50 : decode cX0_uppermost 50 = .ok (.istore_n 3, 1) := by decide +kernel
theorem dX0_uppermost_51 : decode cX0_uppermost 51 = .ok (.aload_n 0, 1) := by decide +kernel
theorem dX0_uppermost_52 : decode cX0_uppermost 52 = .ok (.getfield 26, 3) := by decide +kernel
theorem dX0_uppermost_55 : decode cX0_uppermost 55 = .ok (.iload 5, 2) := by decide +kernel
theorem dX0_uppermost_57 : decode cX0_uppermost 57 = .ok (.aaload, 1) := by decide +kernel
theorem dX0_uppermost_58 : decode cX0_uppermost 58 = .ok (.getfield 64, 3) := by decide +kernel
theorem dX0_uppermost_61 : decode cX0_uppermost 61 = .ok (.istore 4, 2) := by decide +kernel
theorem dX0_uppermost_63 : decode cX0_uppermost 63 = .ok (.iinc 5 1, 3) := by decide +kernel
theorem dX0_uppermost_66 : decode cX0_uppermost 66 = .ok (.goto (-57), 3) := by decide +kernel
theorem dX0_uppermost_69 : decode cX0_uppermost 69 = .ok (.iload_n 3, 1) := by decide +kernel
theorem dX0_uppermost_70 : decode cX0_uppermost 70 = .ok (.ireturn, 1) := by decide +kernel
theorem dX0_isFree_0 : decode cX0_isFree 0 = .ok (.aload_n 0, 1) := by decide +kernel
theorem dX0_isFree_1 : decode cX0_isFree 1 = .ok (.iload_n 1, 1) := by decide +kernel
theorem dX0_isFree_2 : decode cX0_isFree 2 = .ok (.invokevirtual 67, 3) := by decide +kernel
theorem dX0_isFree_5 : decode cX0_isFree 5 = .ok (.ifCond .ne 7, 3) := by decide +kernel
theorem dX0_isFree_8 : decode cX0_isFree 8 = .ok (.iconst 1, 1) := by decide +kernel
theorem dX0_isFree_9 : decode cX0_isFree 9 = .ok (.goto 4, 3) := by decide +kernel
theorem dX0_isFree_12 : decode cX0_isFree 12 = .ok (.iconst 0, 1) := by decide +kernel
theorem dX0_isFree_13 : decode cX0_isFree 13 = .ok (.ireturn, 1) := by decide +kernel
theorem dX0_lyingOn_0 : decode cX0_lyingOn 0 = .ok (.iconst 0, 1) := by decide +kernel
theorem dX0_lyingOn_1 : decode cX0_lyingOn 1 = .ok (.istore_n 2, 1) := by decide +kernel
theorem dX0_lyingOn_2 : decode cX0_lyingOn 2 = .ok (.iconst 0, 1) := by decide +kernel
theorem dX0_lyingOn_3 : decode cX0_lyingOn 3 = .ok (.istore_n 3, 1) := by decide +kernel
theorem dX0_lyingOn_4 : decode cX0_lyingOn 4 = .ok (.iload_n 3, 1) := by decide +kernel
theorem dX0_lyingOn_5 : decode cX0_lyingOn 5 = .ok (.aload_n 0, 1) := by decide +kernel
theorem dX0_lyingOn_6 : decode cX0_lyingOn 6 = .ok (.getfield 35, 3) := by decide +kernel
theorem dX0_lyingOn_9 : decode cX0_lyingOn 9 = .ok (.if_icmp .ge 33, 3) := by decide +kernel
theorem dX0_lyingOn_12 : decode cX0_lyingOn 12 = .ok (.aload_n 0, 1) := by decide +kernel
theorem dX0_lyingOn_13 : decode cX0_lyingOn 13 = .ok (.getfield 26, 3) := by decide +kernel
theorem dX0_lyingOn_16 : decode cX0_lyingOn 16 = .ok (.iload_n 3, 1) := by decide +kernel
theorem dX0_lyingOn_17 : decode cX0_lyingOn 17 = .ok (.aaload, 1) := by decide +kernel
theorem dX0_lyingOn_18 : decode cX0_lyingOn 18 = .ok (.aload_n 0, 1) := by decide +kernel
theorem dX0_lyingOn_19 : decode cX0_lyingOn 19 = .ok (.getfield 26, 3) := by decide +kernel
theorem dX0_lyingOn_22 : decode cX0_lyingOn 22 = .ok (.iload_n 1, 1) := by decide +kernel
theorem dX0_lyingOn_23 : decode cX0_lyingOn 23 = .ok (.aaload, 1) := by decide +kernel
theorem dX0_lyingOn_24 : decode cX0_lyingOn 24 = .ok (.invokevirtual 71, 3) := by decide +kernel
theorem dX0_lyingOn_27 : decode cX0_lyingOn 27 = .ok (.ifCond .eq 9, 3) := by decide +kernel
theorem dX0_lyingOn_30 : decode cX0_lyingOn 30 = .ok (.iload_n 2, 1) := by decide +kernel
theorem dX0_lyingOn_31 : decode cX0_lyingOn 31 = .ok (.iconst 1, 1) := by decide +kernel
theorem dX0_lyingOn_32 : decode cX0_lyingOn 32 = .ok (.iload_n 3, 1) := by decide +kernel
theorem dX0_lyingOn_33 : decode cX0_lyingOn 33 = .ok (.ishl, 1) := by decide +kernel
theorem dX0_lyingOn_34 : decode cX0_lyingOn 34 = .ok (.ior, 1) := by decide +kernel
theorem dX0_lyingOn_35 : decode cX0_lyingOn 35 = .ok (.istore_n 2, 1) := by decide +kernel
theorem dX0_lyingOn_36 : decode cX0_lyingOn 36 = .ok (.iinc 3 1, 3) := by decide +kernel
theorem dX0_lyingOn_39 : decode cX0_lyingOn 39 = .ok (.goto (-35), 3) := by decide +kernel
theorem dX0_lyingOn_42 : decode cX0_lyingOn 42 = .ok (.iload_n 2, 1) := by decide +kernel
theorem dX0_lyingOn_43 : decode cX0_lyingOn 43 = .ok (.ireturn, 1) := by decide +kernel
theorem dX0_above_0 : decode cX0_above 0 = .ok (.iconst 0, 1) := by decide +kernel
theorem dX0_above_1 : decode cX0_above 1 = .ok (.istore_n 3, 1) := by decide +kernel
theorem dX0_above_2 : decode cX0_above 2 = .ok (.aload_n 0, 1) := by decide +kernel
theorem dX0_above_3 : decode cX0_above 3 = .ok (.iload_n 1, 1) := by decide +kernel
theorem dX0_above_4 : decode cX0_above 4 = .ok (.invokevirtual 67, 3) := by decide +kernel
theorem dX0_above_7 : decode cX0_above 7 = .ok (.iload_n 2, 1) := by decide +kernel
theorem dX0_above_8 : decode cX0_above 8 = .ok (.iand, 1) := by decide +kernel
theorem dX0_above_9 : decode cX0_above 9 = .ok (.istore 4, 2) := by decide +kernel
theorem dX0_above_11 : decode cX0_above 11 = .ok (.iconst 0, 1) := by decide +kernel
theorem dX0_above_12 : decode cX0_above 12 = .ok (.istore 5, 2) := by decide +kernel
theorem dX0_above_14 : decode cX0_above 14 = .ok (.iload 5, 2) := by decide +kernel
theorem dX0_above_16 : decode cX0_above 16 = .ok (.bipush 12, 2) := by decide +kernel
theorem dX0_above_18 : decode cX0_above 18 = .ok (.if_icmp .ge 67, 3) := by decide +kernel
theorem dX0_above_21 : decode cX0_above 21 = .ok (.iload 4, 2) := by decide +kernel
theorem dX0_above_23 : decode cX0_above 23 = .ok (.iload_n 3, 1) := by decide +kernel
theorem dX0_above_24 : decode cX0_above 24 = .ok (.if_icmp .eq 61, 3) := by decide +kernel
theorem dX0_above_27 : decode cX0_above 27 = .ok (.iload 4, 2) := by decide +kernel
theorem dX0_above_29 : decode cX0_above 29 = .ok (.iload_n 3, 1) := by decide +kernel
theorem dX0_above_30 : decode cX0_above 30 = .ok (.iconst (-1), 1) := by decide +kernel
theorem dX0_above_31 : decode cX0_above 31 = .ok (.ixor, 1) := by decide +kernel
theorem dX0_above_32 : decode cX0_above 32 = .ok (.iand, 1) := by decide +kernel
theorem dX0_above_33 : decode cX0_above 33 = .ok (.istore 6, 2) := by decide +kernel
theorem dX0_above_35 : decode cX0_above 35 = .ok (.iload 4, 2) := by decide +kernel
theorem dX0_above_37 : decode cX0_above 37 = .ok (.istore_n 3, 1) := by decide +kernel
theorem dX0_above_38 : decode cX0_above 38 = .ok (.iconst 0, 1) := by decide +kernel
theorem dX0_above_39 : decode cX0_above 39 = .ok (.istore 7, 2) := by decide +kernel
theorem dX0_above_41 : decode cX0_above 41 = .ok (.iload 7, 2) := by decide +kernel
theorem dX0_above_43 : decode cX0_above 43 = .ok (.aload_n 0, 1) := by decide +kernel
theorem dX0_above_44 : decode cX0_above 44 = .ok (.getfield 35, 3) := by decide +kernel
theorem dX0_above_47 : decode cX0_above 47 = .ok (.if_icmp .ge 32, 3) := by decide +kernel
theorem dX0_above_50 : decode cX0_above 50 = .ok (.iload 6, 2) := by decide +kernel
theorem dX0_above_52 : decode cX0_above 52 = .ok (.iconst 1, 1) := by decide +kernel
theorem dX0_above_53 : decode cX0_above 53 = .ok (.iload 7, 2) := by decide +kernel
theorem dX0_above_55 : decode cX0_above 55 = .ok (.ishl, 1) := by decide +kernel
theorem dX0_above_56 : decode cX0_above 56 = .ok (.iand, 1) := by decide +kernel
theorem dX0_above_57 : decode cX0_above 57 = .ok (.ifCond .eq 16, 3) := by decide +kernel
theorem dX0_above_60 : decode cX0_above 60 = .ok (.iload 4, 2) := by decide +kernel
theorem dX0_above_62 : decode cX0_above 62 = .ok (.aload_n 0, 1) := by decide +kernel
theorem dX0_above_63 : decode cX0_above 63 = .ok (.iload 7, 2) := by decide +kernel
theorem dX0_above_65 : decode cX0_above 65 = .ok (.invokevirtual 67, 3) := by decide +kernel
theorem dX0_above_68 : decode cX0_above 68 = .ok (.iload_n 2, 1) := by decide +kernel
theorem dX0_above_69 : decode cX0_above 69 = .ok (.iand, 1) := by decide +kernel
theorem dX0_above_70 : decode cX0_above 70 = .ok (.ior, 1) := by decide +kernel
theorem dX0_above_71 : decode cX0_above 71 = .ok (.istore 4, 2) := by decide +kernel
theorem dX0_above_73 : decode cX0_above 73 = .ok (.iinc 7 1, 3) := by decide +kernel
theorem dX0_above_76 : decode cX0_above 76 = .ok (.goto (-35), 3) := by decide +kernel
theorem dX0_above_79 : decode cX0_above 79 = .ok (.iinc 5 1, 3) := by decide +kernel
theorem dX0_above_82 : decode cX0_above 82 = .ok (.goto (-68), 3) := by decide +kernel
theorem dX0_above_85 : decode cX0_above 85 = .ok (.iload 4, 2) := by decide +kernel
theorem dX0_above_87 : decode cX0_above 87 = .ok (.ireturn, 1) := by decide +kernel
theorem dX0_faultOf_0 : decode cX0_faultOf 0 = .ok (.aload_n 0, 1) := by decide +kernel
theorem dX0_faultOf_1 : decode cX0_faultOf 1 = .ok (.aload_n 0, 1) := by decide +kernel
theorem dX0_faultOf_2 : decode cX0_faultOf 2 = .ok (.iload_n 1, 1) := by decide +kernel
theorem dX0_faultOf_3 : decode cX0_faultOf 3 = .ok (.aload_n 0, 1) := by decide +kernel
theorem dX0_faultOf_4 : decode cX0_faultOf 4 = .ok (.invokevirtual 75, 3) := by decide +kernel
theorem dX0_faultOf_7 : decode cX0_faultOf 7 = .ok (.invokevirtual 77, 3) := by decide +kernel
theorem dX0_faultOf_10 : decode cX0_faultOf 10 = .ok (.aload_n 0, 1) := by decide +kernel
theorem dX0_faultOf_11 : decode cX0_faultOf 11 = .ok (.getfield 26, 3) := by decide +kernel
theorem dX0_faultOf_14 : decode cX0_faultOf 14 = .ok (.iload_n 1, 1) := by decide +kernel
theorem dX0_faultOf_15 : decode cX0_faultOf 15 = .ok (.aaload, 1) := by decide +kernel
theorem dX0_faultOf_16 : decode cX0_faultOf 16 = .ok (.getfield 81, 3) := by decide +kernel
theorem dX0_faultOf_19 : decode cX0_faultOf 19 = .ok (.invokevirtual 84, 3) := by decide +kernel
theorem dX0_faultOf_22 : decode cX0_faultOf 22 = .ok (.ireturn, 1) := by decide +kernel
theorem dX0_faults_0 : decode cX0_faults 0 = .ok (.iconst 0, 1) := by decide +kernel
theorem dX0_faults_1 : decode cX0_faults 1 = .ok (.istore_n 1, 1) := by decide +kernel
theorem dX0_faults_2 : decode cX0_faults 2 = .ok (.aload_n 0, 1) := by decide +kernel
theorem dX0_faults_3 : decode cX0_faults 3 = .ok (.invokevirtual 75, 3) := by decide +kernel
theorem dX0_faults_6 : decode cX0_faults 6 = .ok (.istore_n 2, 1) := by decide +kernel
theorem dX0_faults_7 : decode cX0_faults 7 = .ok (.iconst 0, 1) := by decide +kernel
theorem dX0_faults_8 : decode cX0_faults 8 = .ok (.istore_n 3, 1) := by decide +kernel
theorem dX0_faults_9 : decode cX0_faults 9 = .ok (.iload_n 3, 1) := by decide +kernel
theorem dX0_faults_10 : decode cX0_faults 10 = .ok (.aload_n 0, 1) := by decide +kernel
theorem dX0_faults_11 : decode cX0_faults 11 = .ok (.getfield 35, 3) := by decide +kernel
theorem dX0_faults_14 : decode cX0_faults 14 = .ok (.if_icmp .ge 31, 3) := by decide +kernel
theorem dX0_faults_17 : decode cX0_faults 17 = .ok (.iload_n 1, 1) := by decide +kernel
theorem dX0_faults_18 : decode cX0_faults 18 = .ok (.aload_n 0, 1) := by decide +kernel
theorem dX0_faults_19 : decode cX0_faults 19 = .ok (.aload_n 0, 1) := by decide +kernel
theorem dX0_faults_20 : decode cX0_faults 20 = .ok (.iload_n 3, 1) := by decide +kernel
theorem dX0_faults_21 : decode cX0_faults 21 = .ok (.iload_n 2, 1) := by decide +kernel
theorem dX0_faults_22 : decode cX0_faults 22 = .ok (.invokevirtual 77, 3) := by decide +kernel
theorem dX0_faults_25 : decode cX0_faults 25 = .ok (.aload_n 0, 1) := by decide +kernel
theorem dX0_faults_26 : decode cX0_faults 26 = .ok (.getfield 26, 3) := by decide +kernel
theorem dX0_faults_29 : decode cX0_faults 29 = .ok (.iload_n 3, 1) := by decide +kernel
theorem dX0_faults_30 : decode cX0_faults 30 = .ok (.aaload, 1) := by decide +kernel
theorem dX0_faults_31 : decode cX0_faults 31 = .ok (.getfield 81, 3) := by decide +kernel
theorem dX0_faults_34 : decode cX0_faults 34 = .ok (.invokevirtual 84, 3) := by decide +kernel
theorem dX0_faults_37 : decode cX0_faults 37 = .ok (.iadd, 1) := by decide +kernel
theorem dX0_faults_38 : decode cX0_faults 38 = .ok (.istore_n 1, 1) := by decide +kernel
theorem dX0_faults_39 : decode cX0_faults 39 = .ok (.iinc 3 1, 3) := by decide +kernel
theorem dX0_faults_42 : decode cX0_faults 42 = .ok (.goto (-33), 3) := by decide +kernel
theorem dX0_faults_45 : decode cX0_faults 45 = .ok (.iload_n 1, 1) := by decide +kernel
theorem dX0_faults_46 : decode cX0_faults 46 = .ok (.ireturn, 1) := by decide +kernel
theorem dX0_lateOnes_0 : decode cX0_lateOnes 0 = .ok (.iconst 0, 1) := by decide +kernel
theorem dX0_lateOnes_1 : decode cX0_lateOnes 1 = .ok (.istore_n 3, 1) := by decide +kernel
theorem dX0_lateOnes_2 : decode cX0_lateOnes 2 = .ok (.iconst 0, 1) := by decide +kernel
theorem dX0_lateOnes_3 : decode cX0_lateOnes 3 = .ok (.istore 4, 2) := by decide +kernel
theorem dX0_lateOnes_5 : decode cX0_lateOnes 5 = .ok (.iload 4, 2) := by decide +kernel
theorem dX0_lateOnes_7 : decode cX0_lateOnes 7 = .ok (.aload_n 0, 1) := by decide +kernel
theorem dX0_lateOnes_8 : decode cX0_lateOnes 8 = .ok (.getfield 35, 3) := by decide +kernel
theorem dX0_lateOnes_11 : decode cX0_lateOnes 11 = .ok (.if_icmp .ge 35, 3) := by decide +kernel
theorem dX0_lateOnes_14 : decode cX0_lateOnes 14 = .ok (.iload_n 1, 1) := by decide +kernel
theorem dX0_lateOnes_15 : decode cX0_lateOnes 15 = .ok (.iconst 1, 1) := by decide +kernel
theorem dX0_lateOnes_16 : decode cX0_lateOnes 16 = .ok (.iload 4, 2) := by decide +kernel
theorem dX0_lateOnes_18 : decode cX0_lateOnes 18 = .ok (.ishl, 1) := by decide +kernel
theorem dX0_lateOnes_19 : decode cX0_lateOnes 19 = .ok (.iand, 1) := by decide +kernel
theorem dX0_lateOnes_20 : decode cX0_lateOnes 20 = .ok (.ifCond .eq 20, 3) := by decide +kernel
theorem dX0_lateOnes_23 : decode cX0_lateOnes 23 = .ok (.aload_n 0, 1) := by decide +kernel
theorem dX0_lateOnes_24 : decode cX0_lateOnes 24 = .ok (.getfield 26, 3) := by decide +kernel
theorem dX0_lateOnes_27 : decode cX0_lateOnes 27 = .ok (.iload 4, 2) := by decide +kernel
theorem dX0_lateOnes_29 : decode cX0_lateOnes 29 = .ok (.aaload, 1) := by decide +kernel
theorem dX0_lateOnes_30 : decode cX0_lateOnes 30 = .ok (.getfield 81, 3) := by decide +kernel
theorem dX0_lateOnes_33 : decode cX0_lateOnes 33 = .ok (.iload_n 2, 1) := by decide +kernel
theorem dX0_lateOnes_34 : decode cX0_lateOnes 34 = .ok (.if_icmp .le 6, 3) := by decide +kernel
theorem dX0_lateOnes_37 : decode cX0_lateOnes 37 = .ok (.iinc 3 1, 3) := by decide +kernel
theorem dX0_lateOnes_40 : decode cX0_lateOnes 40 = .ok (.iinc 4 1, 3) := by decide +kernel
theorem dX0_lateOnes_43 : decode cX0_lateOnes 43 = .ok (.goto (-38), 3) := by decide +kernel
theorem dX0_lateOnes_46 : decode cX0_lateOnes 46 = .ok (.iload_n 3, 1) := by decide +kernel
theorem dX0_lateOnes_47 : decode cX0_lateOnes 47 = .ok (.ireturn, 1) := by decide +kernel
theorem dX0_lifts_0 : decode cX0_lifts 0 = .ok (.iconst 0, 1) := by decide +kernel
theorem dX0_lifts_1 : decode cX0_lifts 1 = .ok (.istore_n 1, 1) := by decide +kernel
theorem dX0_lifts_2 : decode cX0_lifts 2 = .ok (.aload_n 0, 1) := by decide +kernel
theorem dX0_lifts_3 : decode cX0_lifts 3 = .ok (.invokevirtual 75, 3) := by decide +kernel
theorem dX0_lifts_6 : decode cX0_lifts 6 = .ok (.istore_n 2, 1) := by decide +kernel
theorem dX0_lifts_7 : decode cX0_lifts 7 = .ok (.iconst 0, 1) := by decide +kernel
theorem dX0_lifts_8 : decode cX0_lifts 8 = .ok (.istore_n 3, 1) := by decide +kernel
theorem dX0_lifts_9 : decode cX0_lifts 9 = .ok (.iload_n 3, 1) := by decide +kernel
theorem dX0_lifts_10 : decode cX0_lifts 10 = .ok (.aload_n 0, 1) := by decide +kernel
theorem dX0_lifts_11 : decode cX0_lifts 11 = .ok (.getfield 35, 3) := by decide +kernel
theorem dX0_lifts_14 : decode cX0_lifts 14 = .ok (.if_icmp .ge 21, 3) := by decide +kernel
theorem dX0_lifts_17 : decode cX0_lifts 17 = .ok (.iload_n 1, 1) := by decide +kernel
theorem dX0_lifts_18 : decode cX0_lifts 18 = .ok (.aload_n 0, 1) := by decide +kernel
theorem dX0_lifts_19 : decode cX0_lifts 19 = .ok (.iload_n 3, 1) := by decide +kernel
theorem dX0_lifts_20 : decode cX0_lifts 20 = .ok (.iload_n 2, 1) := by decide +kernel
theorem dX0_lifts_21 : decode cX0_lifts 21 = .ok (.invokevirtual 77, 3) := by decide +kernel
theorem dX0_lifts_24 : decode cX0_lifts 24 = .ok (.invokestatic 87, 3) := by decide +kernel
theorem dX0_lifts_27 : decode cX0_lifts 27 = .ok (.iadd, 1) := by decide +kernel
theorem dX0_lifts_28 : decode cX0_lifts 28 = .ok (.istore_n 1, 1) := by decide +kernel
theorem dX0_lifts_29 : decode cX0_lifts 29 = .ok (.iinc 3 1, 3) := by decide +kernel
theorem dX0_lifts_32 : decode cX0_lifts 32 = .ok (.goto (-23), 3) := by decide +kernel
theorem dX0_lifts_35 : decode cX0_lifts 35 = .ok (.iload_n 1, 1) := by decide +kernel
theorem dX0_lifts_36 : decode cX0_lifts 36 = .ok (.ireturn, 1) := by decide +kernel
theorem dX0_freeTrays_0 : decode cX0_freeTrays 0 = .ok (.iconst 0, 1) := by decide +kernel
theorem dX0_freeTrays_1 : decode cX0_freeTrays 1 = .ok (.istore_n 1, 1) := by decide +kernel
theorem dX0_freeTrays_2 : decode cX0_freeTrays 2 = .ok (.iconst 0, 1) := by decide +kernel
theorem dX0_freeTrays_3 : decode cX0_freeTrays 3 = .ok (.istore_n 2, 1) := by decide +kernel
theorem dX0_freeTrays_4 : decode cX0_freeTrays 4 = .ok (.iload_n 2, 1) := by decide +kernel
theorem dX0_freeTrays_5 : decode cX0_freeTrays 5 = .ok (.aload_n 0, 1) := by decide +kernel
theorem dX0_freeTrays_6 : decode cX0_freeTrays 6 = .ok (.getfield 35, 3) := by decide +kernel
theorem dX0_freeTrays_9 : decode cX0_freeTrays 9 = .ok (.if_icmp .ge 32, 3) := by decide +kernel
theorem dX0_freeTrays_12 : decode cX0_freeTrays 12 = .ok (.aload_n 0, 1) := by decide +kernel
theorem dX0_freeTrays_13 : decode cX0_freeTrays 13 = .ok (.getfield 26, 3) := by decide +kernel
theorem dX0_freeTrays_16 : decode cX0_freeTrays 16 = .ok (.iload_n 2, 1) := by decide +kernel
theorem dX0_freeTrays_17 : decode cX0_freeTrays 17 = .ok (.aaload, 1) := by decide +kernel
theorem dX0_freeTrays_18 : decode cX0_freeTrays 18 = .ok (.getfield 56, 3) := by decide +kernel
theorem dX0_freeTrays_21 : decode cX0_freeTrays 21 = .ok (.ifCond .eq 14, 3) := by decide +kernel
theorem dX0_freeTrays_24 : decode cX0_freeTrays 24 = .ok (.aload_n 0, 1) := by decide +kernel
theorem dX0_freeTrays_25 : decode cX0_freeTrays 25 = .ok (.iload_n 2, 1) := by decide +kernel
theorem dX0_freeTrays_26 : decode cX0_freeTrays 26 = .ok (.invokevirtual 92, 3) := by decide +kernel
theorem dX0_freeTrays_29 : decode cX0_freeTrays 29 = .ok (.ifCond .eq 6, 3) := by decide +kernel
theorem dX0_freeTrays_32 : decode cX0_freeTrays 32 = .ok (.iinc 1 1, 3) := by decide +kernel
theorem dX0_freeTrays_35 : decode cX0_freeTrays 35 = .ok (.iinc 2 1, 3) := by decide +kernel
theorem dX0_freeTrays_38 : decode cX0_freeTrays 38 = .ok (.goto (-34), 3) := by decide +kernel
theorem dX0_freeTrays_41 : decode cX0_freeTrays 41 = .ok (.iload_n 1, 1) := by decide +kernel
theorem dX0_freeTrays_42 : decode cX0_freeTrays 42 = .ok (.ireturn, 1) := by decide +kernel
theorem dX0_filledHeight_0 : decode cX0_filledHeight 0 = .ok (.iconst 0, 1) := by decide +kernel
theorem dX0_filledHeight_1 : decode cX0_filledHeight 1 = .ok (.istore_n 1, 1) := by decide +kernel
theorem dX0_filledHeight_2 : decode cX0_filledHeight 2 = .ok (.iconst 0, 1) := by decide +kernel
theorem dX0_filledHeight_3 : decode cX0_filledHeight 3 = .ok (.istore_n 2, 1) := by decide +kernel
theorem dX0_filledHeight_4 : decode cX0_filledHeight 4 = .ok (.iload_n 2, 1) := by decide +kernel
theorem dX0_filledHeight_5 : decode cX0_filledHeight 5 = .ok (.aload_n 0, 1) := by decide +kernel
theorem dX0_filledHeight_6 : decode cX0_filledHeight 6 = .ok (.getfield 35, 3) := by decide +kernel
theorem dX0_filledHeight_9 : decode cX0_filledHeight 9 = .ok (.if_icmp .ge 35, 3) := by decide +kernel
theorem dX0_filledHeight_12 : decode cX0_filledHeight 12 = .ok (.aload_n 0, 1) := by decide +kernel
theorem dX0_filledHeight_13 : decode cX0_filledHeight 13 = .ok (.getfield 26, 3) := by decide +kernel
theorem dX0_filledHeight_16 : decode cX0_filledHeight 16 = .ok (.iload_n 2, 1) := by decide +kernel
theorem dX0_filledHeight_17 : decode cX0_filledHeight 17 = .ok (.aaload, 1) := by decide +kernel
theorem dX0_filledHeight_18 : decode cX0_filledHeight 18 = .ok (.getfield 56, 3) := by decide +kernel
theorem dX0_filledHeight_21 : decode cX0_filledHeight 21 = .ok (.ifCond .eq 17, 3) := by decide +kernel
theorem dX0_filledHeight_24 : decode cX0_filledHeight 24 = .ok (.iload_n 1, 1) := by decide +kernel
theorem dX0_filledHeight_25 : decode cX0_filledHeight 25 = .ok (.aload_n 0, 1) := by decide +kernel
theorem dX0_filledHeight_26 : decode cX0_filledHeight 26 = .ok (.getfield 26, 3) := by decide +kernel
theorem dX0_filledHeight_29 : decode cX0_filledHeight 29 = .ok (.iload_n 2, 1) := by decide +kernel
theorem dX0_filledHeight_30 : decode cX0_filledHeight 30 = .ok (.aaload, 1) := by decide +kernel
theorem dX0_filledHeight_31 : decode cX0_filledHeight 31 = .ok (.getfield 64, 3) := by decide +kernel
theorem dX0_filledHeight_34 : decode cX0_filledHeight 34 = .ok (.invokestatic 96, 3) := by decide +kernel
theorem dX0_filledHeight_37 : decode cX0_filledHeight 37 = .ok (.istore_n 1, 1) := by decide +kernel
theorem dX0_filledHeight_38 : decode cX0_filledHeight 38 = .ok (.iinc 2 1, 3) := by decide +kernel
theorem dX0_filledHeight_41 : decode cX0_filledHeight 41 = .ok (.goto (-37), 3) := by decide +kernel
theorem dX0_filledHeight_44 : decode cX0_filledHeight 44 = .ok (.iload_n 1, 1) := by decide +kernel
theorem dX0_filledHeight_45 : decode cX0_filledHeight 45 = .ok (.ireturn, 1) := by decide +kernel
theorem dX0_air_0 : decode cX0_air 0 = .ok (.aload_n 0, 1) := by decide +kernel
theorem dX0_air_1 : decode cX0_air 1 = .ok (.getfield 9, 3) := by decide +kernel
theorem dX0_air_4 : decode cX0_air 4 = .ok (.aload_n 0, 1) := by decide +kernel
theorem dX0_air_5 : decode cX0_air 5 = .ok (.getfield 15, 3) := by decide +kernel
theorem dX0_air_8 : decode cX0_air 8 = .ok (.imul, 1) := by decide +kernel
theorem dX0_air_9 : decode cX0_air 9 = .ok (.aload_n 0, 1) := by decide +kernel
theorem dX0_air_10 : decode cX0_air 10 = .ok (.invokevirtual 101, 3) := by decide +kernel
theorem dX0_air_13 : decode cX0_air 13 = .ok (.imul, 1) := by decide +kernel
theorem dX0_air_14 : decode cX0_air 14 = .ok (.istore_n 1, 1) := by decide +kernel
theorem dX0_air_15 : decode cX0_air 15 = .ok (.iconst 0, 1) := by decide +kernel
theorem dX0_air_16 : decode cX0_air 16 = .ok (.istore_n 2, 1) := by decide +kernel
theorem dX0_air_17 : decode cX0_air 17 = .ok (.iload_n 2, 1) := by decide +kernel
theorem dX0_air_18 : decode cX0_air 18 = .ok (.aload_n 0, 1) := by decide +kernel
theorem dX0_air_19 : decode cX0_air 19 = .ok (.getfield 35, 3) := by decide +kernel
theorem dX0_air_22 : decode cX0_air 22 = .ok (.if_icmp .ge 43, 3) := by decide +kernel
theorem dX0_air_25 : decode cX0_air 25 = .ok (.aload_n 0, 1) := by decide +kernel
theorem dX0_air_26 : decode cX0_air 26 = .ok (.getfield 26, 3) := by decide +kernel
theorem dX0_air_29 : decode cX0_air 29 = .ok (.iload_n 2, 1) := by decide +kernel
theorem dX0_air_30 : decode cX0_air 30 = .ok (.aaload, 1) := by decide +kernel
theorem dX0_air_31 : decode cX0_air 31 = .ok (.getfield 56, 3) := by decide +kernel
theorem dX0_air_34 : decode cX0_air 34 = .ok (.ifCond .eq 25, 3) := by decide +kernel
theorem dX0_air_37 : decode cX0_air 37 = .ok (.iload_n 1, 1) := by decide +kernel
theorem dX0_air_38 : decode cX0_air 38 = .ok (.aload_n 0, 1) := by decide +kernel
theorem dX0_air_39 : decode cX0_air 39 = .ok (.getfield 26, 3) := by decide +kernel
theorem dX0_air_42 : decode cX0_air 42 = .ok (.iload_n 2, 1) := by decide +kernel
theorem dX0_air_43 : decode cX0_air 43 = .ok (.aaload, 1) := by decide +kernel
theorem dX0_air_44 : decode cX0_air 44 = .ok (.invokevirtual 104, 3) := by decide +kernel
theorem dX0_air_47 : decode cX0_air 47 = .ok (.aload_n 0, 1) := by decide +kernel
theorem dX0_air_48 : decode cX0_air 48 = .ok (.getfield 26, 3) := by decide +kernel
theorem dX0_air_51 : decode cX0_air 51 = .ok (.iload_n 2, 1) := by decide +kernel
theorem dX0_air_52 : decode cX0_air 52 = .ok (.aaload, 1) := by decide +kernel
theorem dX0_air_53 : decode cX0_air 53 = .ok (.invokevirtual 52, 3) := by decide +kernel
theorem dX0_air_56 : decode cX0_air 56 = .ok (.imul, 1) := by decide +kernel
theorem dX0_air_57 : decode cX0_air 57 = .ok (.isub, 1) := by decide +kernel
theorem dX0_air_58 : decode cX0_air 58 = .ok (.istore_n 1, 1) := by decide +kernel
theorem dX0_air_59 : decode cX0_air 59 = .ok (.iinc 2 1, 3) := by decide +kernel
theorem dX0_air_62 : decode cX0_air 62 = .ok (.goto (-45), 3) := by decide +kernel
theorem dX0_air_65 : decode cX0_air 65 = .ok (.iload_n 1, 1) := by decide +kernel
theorem dX0_air_66 : decode cX0_air 66 = .ok (.ireturn, 1) := by decide +kernel
theorem dX1_init_0 : decode cX1_init 0 = .ok (.aload_n 0, 1) := by decide +kernel
theorem dX1_init_1 : decode cX1_init 1 = .ok (.invokespecial 3, 3) := by decide +kernel
theorem dX1_init_4 : decode cX1_init 4 = .ok (.aload_n 0, 1) := by decide +kernel
theorem dX1_init_5 : decode cX1_init 5 = .ok (.bipush 100, 2) := by decide +kernel
theorem dX1_init_7 : decode cX1_init 7 = .ok (.newarray .int, 2) := by decide +kernel
theorem dX1_init_9 : decode cX1_init 9 = .ok (.putfield 9, 3) := by decide +kernel
theorem dX1_init_12 : decode cX1_init 12 = .ok (.return_, 1) := by decide +kernel
theorem dX1_survey_0 : decode cX1_survey 0 = .ok (.iconst 0, 1) := by decide +kernel
theorem dX1_survey_1 : decode cX1_survey 1 = .ok (.istore_n 2, 1) := by decide +kernel
theorem dX1_survey_2 : decode cX1_survey 2 = .ok (.iload_n 2, 1) := by decide +kernel
theorem dX1_survey_3 : decode cX1_survey 3 = .ok (.aload_n 0, 1) := by decide +kernel
theorem dX1_survey_4 : decode cX1_survey 4 = .ok (.getfield 9, 3) := by decide +kernel
theorem dX1_survey_7 : decode cX1_survey 7 = .ok (.arraylength, 1) := by decide +kernel
theorem dX1_survey_8 : decode cX1_survey 8 = .ok (.if_icmp .ge 16, 3) := by decide +kernel
theorem dX1_survey_11 : decode cX1_survey 11 = .ok (.aload_n 0, 1) := by decide +kernel
theorem dX1_survey_12 : decode cX1_survey 12 = .ok (.getfield 9, 3) := by decide +kernel
theorem dX1_survey_15 : decode cX1_survey 15 = .ok (.iload_n 2, 1) := by decide +kernel
theorem dX1_survey_16 : decode cX1_survey 16 = .ok (.iconst 0, 1) := by decide +kernel
theorem dX1_survey_17 : decode cX1_survey 17 = .ok (.iastore, 1) := by decide +kernel
theorem dX1_survey_18 : decode cX1_survey 18 = .ok (.iinc 2 1, 3) := by decide +kernel
theorem dX1_survey_21 : decode cX1_survey 21 = .ok (.goto (-19), 3) := by decide +kernel
theorem dX1_survey_24 : decode cX1_survey 24 = .ok (.iconst 0, 1) := by decide +kernel
theorem dX1_survey_25 : decode cX1_survey 25 = .ok (.istore_n 2, 1) := by decide +kernel
theorem dX1_survey_26 : decode cX1_survey 26 = .ok (.iload_n 2, 1) := by decide +kernel
theorem dX1_survey_27 : decode cX1_survey 27 = .ok (.aload_n 1, 1) := by decide +kernel
theorem dX1_survey_28 : decode cX1_survey 28 = .ok (.getfield 15, 3) := by decide +kernel
theorem dX1_survey_31 : decode cX1_survey 31 = .ok (.if_icmp .ge 20, 3) := by decide +kernel
theorem dX1_survey_34 : decode cX1_survey 34 = .ok (.aload_n 0, 1) := by decide +kernel
theorem dX1_survey_35 : decode cX1_survey 35 = .ok (.aload_n 1, 1) := by decide +kernel
theorem dX1_survey_36 : decode cX1_survey 36 = .ok (.aload_n 1, 1) := by decide +kernel
theorem dX1_survey_37 : decode cX1_survey 37 = .ok (.getfield 21, 3) := by decide +kernel
theorem dX1_survey_40 : decode cX1_survey 40 = .ok (.iload_n 2, 1) := by decide +kernel
theorem dX1_survey_41 : decode cX1_survey 41 = .ok (.aaload, 1) := by decide +kernel
theorem dX1_survey_42 : decode cX1_survey 42 = .ok (.invokevirtual 25, 3) := by decide +kernel
theorem dX1_survey_45 : decode cX1_survey 45 = .ok (.iinc 2 1, 3) := by decide +kernel
theorem dX1_survey_48 : decode cX1_survey 48 = .ok (.goto (-22), 3) := by decide +kernel
theorem dX1_survey_51 : decode cX1_survey 51 = .ok (.return_, 1) := by decide +kernel
theorem dX1_raise_0 : decode cX1_raise 0 = .ok (.aload_n 2, 1) := by decide +kernel
theorem dX1_raise_1 : decode cX1_raise 1 = .ok (.getfield 29, 3) := by decide +kernel
theorem dX1_raise_4 : decode cX1_raise 4 = .ok (.ifCond .eq 23, 3) := by decide +kernel
theorem dX1_raise_7 : decode cX1_raise 7 = .ok (.aload_n 1, 1) := by decide +kernel
theorem dX1_raise_8 : decode cX1_raise 8 = .ok (.aload_n 2, 1) := by decide +kernel
theorem dX1_raise_9 : decode cX1_raise 9 = .ok (.aload_n 2, 1) := by decide +kernel
theorem dX1_raise_10 : decode cX1_raise 10 = .ok (.getfield 35, 3) := by decide +kernel
theorem dX1_raise_13 : decode cX1_raise 13 = .ok (.aload_n 2, 1) := by decide +kernel
theorem dX1_raise_14 : decode cX1_raise 14 = .ok (.getfield 38, 3) := by decide +kernel
theorem dX1_raise_17 : decode cX1_raise 17 = .ok (.aload_n 2, 1) := by decide +kernel
theorem dX1_raise_18 : decode cX1_raise 18 = .ok (.getfield 41, 3) := by decide +kernel
theorem dX1_raise_21 : decode cX1_raise 21 = .ok (.invokevirtual 44, 3) := by decide +kernel
theorem dX1_raise_24 : decode cX1_raise 24 = .ok (.ifCond .ne 4, 3) := by decide +kernel
theorem dX1_raise_27 : decode cX1_raise 27 = .ok (.return_, 1) := by decide +kernel
theorem dX1_raise_28 : decode cX1_raise 28 = .ok (.aload_n 2, 1) := by decide +kernel
theorem dX1_raise_29 : decode cX1_raise 29 = .ok (.getfield 38, 3) := by decide +kernel
theorem dX1_raise_32 : decode cX1_raise 32 = .ok (.istore_n 3, 1) := by decide +kernel
theorem dX1_raise_33 : decode cX1_raise 33 = .ok (.iload_n 3, 1) := by decide +kernel
theorem dX1_raise_34 : decode cX1_raise 34 = .ok (.aload_n 2, 1) := by decide +kernel
theorem dX1_raise_35 : decode cX1_raise 35 = .ok (.getfield 48, 3) := by decide +kernel
theorem dX1_raise_38 : decode cX1_raise 38 = .ok (.if_icmp .ge 60, 3) := by decide +kernel
theorem dX1_raise_41 : decode cX1_raise 41 = .ok (.aload_n 2, 1) := by decide +kernel
theorem dX1_raise_42 : decode cX1_raise 42 = .ok (.getfield 35, 3) := by decide +kernel
theorem dX1_raise_45 : decode cX1_raise 45 = .ok (.istore 4, 2) := by decide +kernel
theorem dX1_raise_47 : decode cX1_raise 47 = .ok (.iload 4, 2) := by decide +kernel
theorem dX1_raise_49 : decode cX1_raise 49 = .ok (.aload_n 2, 1) := by decide +kernel
theorem dX1_raise_50 : decode cX1_raise 50 = .ok (.getfield 51, 3) := by decide +kernel
theorem dX1_raise_53 : decode cX1_raise 53 = .ok (.if_icmp .ge 39, 3) := by decide +kernel
theorem dX1_raise_56 : decode cX1_raise 56 = .ok (.iload_n 3, 1) := by decide +kernel
theorem dX1_raise_57 : decode cX1_raise 57 = .ok (.bipush 10, 2) := by decide +kernel
theorem dX1_raise_59 : decode cX1_raise 59 = .ok (.imul, 1) := by decide +kernel
theorem dX1_raise_60 : decode cX1_raise 60 = .ok (.iload 4, 2) := by decide +kernel
theorem dX1_raise_62 : decode cX1_raise 62 = .ok (.iadd, 1) := by decide +kernel
theorem dX1_raise_63 : decode cX1_raise 63 = .ok (.istore 5, 2) := by decide +kernel
theorem dX1_raise_65 : decode cX1_raise 65 = .ok (.aload_n 0, 1) := by decide +kernel
theorem dX1_raise_66 : decode cX1_raise 66 = .ok (.getfield 9, 3) := by decide +kernel
theorem dX1_raise_69 : decode cX1_raise 69 = .ok (.iload 5, 2) := by decide +kernel
theorem dX1_raise_71 : decode cX1_raise 71 = .ok (.aload_n 0, 1) := by decide +kernel
theorem dX1_raise_72 : decode cX1_raise 72 = .ok (.getfield 9, 3) := by decide +kernel
theorem dX1_raise_75 : decode cX1_raise 75 = .ok (.iload 5, 2) := by decide +kernel
theorem dX1_raise_77 : decode cX1_raise 77 = .ok (.iaload, 1) := by decide +kernel
theorem dX1_raise_78 : decode cX1_raise 78 = .ok (.aload_n 2, 1) := by decide +kernel
theorem dX1_raise_79 : decode cX1_raise 79 = .ok (.getfield 54, 3) := by decide +kernel
theorem dX1_raise_82 : decode cX1_raise 82 = .ok (.invokestatic 57, 3) := by decide +kernel
theorem dX1_raise_85 : decode cX1_raise 85 = .ok (.iastore, 1) := by decide +kernel
theorem dX1_raise_86 : decode cX1_raise 86 = .ok (.iinc 4 1, 3) := by decide +kernel
theorem dX1_raise_89 : decode cX1_raise 89 = .ok (.goto (-42), 3) := by decide +kernel
theorem dX1_raise_92 : decode cX1_raise 92 = .ok (.iinc 3 1, 3) := by decide +kernel
theorem dX1_raise_95 : decode cX1_raise 95 = .ok (.goto (-62), 3) := by decide +kernel
theorem dX1_raise_98 : decode cX1_raise 98 = .ok (.return_, 1) := by decide +kernel
theorem dX1_holds_0 : decode cX1_holds 0 = .ok (.aload_n 0, 1) := by decide +kernel
theorem dX1_holds_1 : decode cX1_holds 1 = .ok (.iconst 0, 1) := by decide +kernel
theorem dX1_holds_2 : decode cX1_holds 2 = .ok (.putfield 63, 3) := by decide +kernel
theorem dX1_holds_5 : decode cX1_holds 5 = .ok (.aload_n 0, 1) := by decide +kernel
theorem dX1_holds_6 : decode cX1_holds 6 = .ok (.iconst 0, 1) := by decide +kernel
theorem dX1_holds_7 : decode cX1_holds 7 = .ok (.putfield 66, 3) := by decide +kernel
theorem dX1_holds_10 : decode cX1_holds 10 = .ok (.aload_n 1, 1) := by decide +kernel
theorem dX1_holds_11 : decode cX1_holds 11 = .ok (.aload_n 2, 1) := by decide +kernel
theorem dX1_holds_12 : decode cX1_holds 12 = .ok (.iload_n 3, 1) := by decide +kernel
theorem dX1_holds_13 : decode cX1_holds 13 = .ok (.iload 4, 2) := by decide +kernel
theorem dX1_holds_15 : decode cX1_holds 15 = .ok (.iload 5, 2) := by decide +kernel
theorem dX1_holds_17 : decode cX1_holds 17 = .ok (.invokevirtual 44, 3) := by decide +kernel
theorem dX1_holds_20 : decode cX1_holds 20 = .ok (.ifCond .ne 5, 3) := by decide +kernel
theorem dX1_holds_23 : decode cX1_holds 23 = .ok (.iconst 0, 1) := by decide +kernel
theorem dX1_holds_24 : decode cX1_holds 24 = .ok (.ireturn, 1) := by decide +kernel
theorem dX1_holds_25 : decode cX1_holds 25 = .ok (.iload_n 3, 1) := by decide +kernel
theorem dX1_holds_26 : decode cX1_holds 26 = .ok (.aload_n 2, 1) := by decide +kernel
theorem dX1_holds_27 : decode cX1_holds 27 = .ok (.iload 5, 2) := by decide +kernel
theorem dX1_holds_29 : decode cX1_holds 29 = .ok (.invokevirtual 69, 3) := by decide +kernel
theorem dX1_holds_32 : decode cX1_holds 32 = .ok (.iadd, 1) := by decide +kernel
theorem dX1_holds_33 : decode cX1_holds 33 = .ok (.istore 7, 2) := by decide +kernel
theorem dX1_holds_35 : decode cX1_holds 35 = .ok (.iload 4, 2) := by decide +kernel
theorem dX1_holds_37 : decode cX1_holds 37 = .ok (.aload_n 2, 1) := by decide +kernel
theorem dX1_holds_38 : decode cX1_holds 38 = .ok (.iload 5, 2) := by decide +kernel
theorem dX1_holds_40 : decode cX1_holds 40 = .ok (.invokevirtual 73, 3) := by decide +kernel
theorem dX1_holds_43 : decode cX1_holds 43 = .ok (.iadd, 1) := by decide +kernel
theorem dX1_holds_44 : decode cX1_holds 44 = .ok (.istore 8, 2) := by decide +kernel
theorem dX1_holds_46 : decode cX1_holds 46 = .ok (.iload 4, 2) := by decide +kernel
theorem dX1_holds_48 : decode cX1_holds 48 = .ok (.istore 9, 2) := by decide +kernel
theorem dX1_holds_50 : decode cX1_holds 50 = .ok (.iload 9, 2) := by decide +kernel
theorem dX1_holds_52 : decode cX1_holds 52 = .ok (.iload 8, 2) := by decide +kernel
theorem dX1_holds_54 : decode cX1_holds 54 = .ok (.if_icmp .ge 91, 3) := by decide +kernel
theorem dX1_holds_57 : decode cX1_holds 57 = .ok (.iload_n 3, 1) := by decide +kernel
theorem dX1_holds_58 : decode cX1_holds 58 = .ok (.istore 10, 2) := by decide +kernel
theorem dX1_holds_60 : decode cX1_holds 60 = .ok (.iload 10, 2) := by decide +kernel
theorem dX1_holds_62 : decode cX1_holds 62 = .ok (.iload 7, 2) := by decide +kernel
theorem dX1_holds_64 : decode cX1_holds 64 = .ok (.if_icmp .ge 75, 3) := by decide +kernel
theorem dX1_holds_67 : decode cX1_holds 67 = .ok (.aload_n 0, 1) := by decide +kernel
theorem dX1_holds_68 : decode cX1_holds 68 = .ok (.getfield 9, 3) := by decide +kernel
theorem dX1_holds_71 : decode cX1_holds 71 = .ok (.iload 9, 2) := by decide +kernel
theorem dX1_holds_73 : decode cX1_holds 73 = .ok (.bipush 10, 2) := by decide +kernel
theorem dX1_holds_75 : decode cX1_holds 75 = .ok (.imul, 1) := by decide +kernel
theorem dX1_holds_76 : decode cX1_holds 76 = .ok (.iload 10, 2) := by decide +kernel
theorem dX1_holds_78 : decode cX1_holds 78 = .ok (.iadd, 1) := by decide +kernel
theorem dX1_holds_79 : decode cX1_holds 79 = .ok (.iaload, 1) := by decide +kernel
theorem dX1_holds_80 : decode cX1_holds 80 = .ok (.istore 11, 2) := by decide +kernel
theorem dX1_holds_82 : decode cX1_holds 82 = .ok (.iload 11, 2) := by decide +kernel
theorem dX1_holds_84 : decode cX1_holds 84 = .ok (.iload 6, 2) := by decide +kernel
theorem dX1_holds_86 : decode cX1_holds 86 = .ok (.if_icmp .le 5, 3) := by decide +kernel
theorem dX1_holds_89 : decode cX1_holds 89 = .ok (.iconst 0, 1) := by decide +kernel
theorem dX1_holds_90 : decode cX1_holds 90 = .ok (.ireturn, 1) := by decide +kernel
theorem dX1_holds_91 : decode cX1_holds 91 = .ok (.iload 11, 2) := by decide +kernel
theorem dX1_holds_93 : decode cX1_holds 93 = .ok (.aload_n 0, 1) := by decide +kernel
theorem dX1_holds_94 : decode cX1_holds 94 = .ok (.getfield 63, 3) := by decide +kernel
theorem dX1_holds_97 : decode cX1_holds 97 = .ok (.if_icmp .le 17, 3) := by decide +kernel
theorem dX1_holds_100 : decode cX1_holds 100 = .ok (.aload_n 0, 1) := by decide +kernel
theorem dX1_holds_101 : decode cX1_holds 101 = .ok (.iload 11, 2) := by decide +kernel
theorem dX1_holds_103 : decode cX1_holds 103 = .ok (.putfield 63, 3) := by decide +kernel
theorem dX1_holds_106 : decode cX1_holds 106 = .ok (.aload_n 0, 1) := by decide +kernel
theorem dX1_holds_107 : decode cX1_holds 107 = .ok (.iconst 1, 1) := by decide +kernel
theorem dX1_holds_108 : decode cX1_holds 108 = .ok (.putfield 66, 3) := by decide +kernel
theorem dX1_holds_111 : decode cX1_holds 111 = .ok (.goto 22, 3) := by decide +kernel
theorem dX1_holds_114 : decode cX1_holds 114 = .ok (.iload 11, 2) := by decide +kernel
theorem dX1_holds_116 : decode cX1_holds 116 = .ok (.aload_n 0, 1) := by decide +kernel
theorem dX1_holds_117 : decode cX1_holds 117 = .ok (.getfield 63, 3) := by decide +kernel
theorem dX1_holds_120 : decode cX1_holds 120 = .ok (.if_icmp .ne 13, 3) := by decide +kernel
theorem dX1_holds_123 : decode cX1_holds 123 = .ok (.aload_n 0, 1) := by decide +kernel
theorem dX1_holds_124 : decode cX1_holds 124 = .ok (.dup, 1) := by decide +kernel
theorem dX1_holds_125 : decode cX1_holds 125 = .ok (.getfield 66, 3) := by decide +kernel
theorem dX1_holds_128 : decode cX1_holds 128 = .ok (.iconst 1, 1) := by decide +kernel
theorem dX1_holds_129 : decode cX1_holds 129 = .ok (.iadd, 1) := by decide +kernel
theorem dX1_holds_130 : decode cX1_holds 130 = .ok (.putfield 66, 3) := by decide +kernel
theorem dX1_holds_133 : decode cX1_holds 133 = .ok (.iinc 10 1, 3) := by decide +kernel
theorem dX1_holds_136 : decode cX1_holds 136 = .ok (.goto (-76), 3) := by decide +kernel
theorem dX1_holds_139 : decode cX1_holds 139 = .ok (.iinc 9 1, 3) := by decide +kernel
theorem dX1_holds_142 : decode cX1_holds 142 = .ok (.goto (-92), 3) := by decide +kernel
theorem dX1_holds_145 : decode cX1_holds 145 = .ok (.bipush 100, 2) := by decide +kernel
theorem dX1_holds_147 : decode cX1_holds 147 = .ok (.aload_n 0, 1) := by decide +kernel
theorem dX1_holds_148 : decode cX1_holds 148 = .ok (.getfield 66, 3) := by decide +kernel
theorem dX1_holds_151 : decode cX1_holds 151 = .ok (.imul, 1) := by decide +kernel
theorem dX1_holds_152 : decode cX1_holds 152 = .ok (.aload_n 1, 1) := by decide +kernel
theorem dX1_holds_153 : decode cX1_holds 153 = .ok (.getfield 76, 3) := by decide +kernel
theorem dX1_holds_156 : decode cX1_holds 156 = .ok (.aload_n 2, 1) := by decide +kernel
theorem dX1_holds_157 : decode cX1_holds 157 = .ok (.invokevirtual 79, 3) := by decide +kernel
theorem dX1_holds_160 : decode cX1_holds 160 = .ok (.imul, 1) := by decide +kernel
theorem dX1_holds_161 : decode cX1_holds 161 = .ok (.if_icmp .lt 7, 3) := by decide +kernel
theorem dX1_holds_164 : decode cX1_holds 164 = .ok (.iconst 1, 1) := by decide +kernel
theorem dX1_holds_165 : decode cX1_holds 165 = .ok (.goto 4, 3) := by decide +kernel
theorem dX1_holds_168 : decode cX1_holds 168 = .ok (.iconst 0, 1) := by decide +kernel
theorem dX1_holds_169 : decode cX1_holds 169 = .ok (.ireturn, 1) := by decide +kernel
theorem dX1_search_0 : decode cX1_search 0 = .ok (.aload_n 0, 1) := by decide +kernel
theorem dX1_search_1 : decode cX1_search 1 = .ok (.iconst 0, 1) := by decide +kernel
theorem dX1_search_2 : decode cX1_search 2 = .ok (.putfield 83, 3) := by decide +kernel
theorem dX1_search_5 : decode cX1_search 5 = .ok (.aload_n 1, 1) := by decide +kernel
theorem dX1_search_6 : decode cX1_search 6 = .ok (.aload_n 2, 1) := by decide +kernel
theorem dX1_search_7 : decode cX1_search 7 = .ok (.invokevirtual 86, 3) := by decide +kernel
theorem dX1_search_10 : decode cX1_search 10 = .ok (.istore 4, 2) := by decide +kernel
theorem dX1_search_12 : decode cX1_search 12 = .ok (.aload_n 2, 1) := by decide +kernel
theorem dX1_search_13 : decode cX1_search 13 = .ok (.getfield 90, 3) := by decide +kernel
theorem dX1_search_16 : decode cX1_search 16 = .ok (.aload_n 2, 1) := by decide +kernel
theorem dX1_search_17 : decode cX1_search 17 = .ok (.getfield 93, 3) := by decide +kernel
theorem dX1_search_20 : decode cX1_search 20 = .ok (.if_icmp .ne 7, 3) := by decide +kernel
theorem dX1_search_23 : decode cX1_search 23 = .ok (.iconst 1, 1) := by decide +kernel
theorem dX1_search_24 : decode cX1_search 24 = .ok (.goto 4, 3) := by decide +kernel
theorem dX1_search_27 : decode cX1_search 27 = .ok (.iconst 2, 1) := by decide +kernel
theorem dX1_search_28 : decode cX1_search 28 = .ok (.istore 5, 2) := by decide +kernel
theorem dX1_search_30 : decode cX1_search 30 = .ok (.iconst 0, 1) := by decide +kernel
theorem dX1_search_31 : decode cX1_search 31 = .ok (.istore 6, 2) := by decide +kernel
theorem dX1_search_33 : decode cX1_search 33 = .ok (.iload 6, 2) := by decide +kernel
theorem dX1_search_35 : decode cX1_search 35 = .ok (.aload_n 1, 1) := by decide +kernel
theorem dX1_search_36 : decode cX1_search 36 = .ok (.getfield 96, 3) := by decide +kernel
theorem dX1_search_39 : decode cX1_search 39 = .ok (.if_icmp .ge 115, 3) := by decide +kernel
theorem dX1_search_42 : decode cX1_search 42 = .ok (.iload 4, 2) := by decide +kernel
theorem dX1_search_44 : decode cX1_search 44 = .ok (.ifCond .lt 110, 3) := by decide +kernel
theorem dX1_search_47 : decode cX1_search 47 = .ok (.iconst 0, 1) := by decide +kernel
theorem dX1_search_48 : decode cX1_search 48 = .ok (.istore 7, 2) := by decide +kernel
theorem dX1_search_50 : decode cX1_search 50 = .ok (.iload 7, 2) := by decide +kernel
theorem dX1_search_52 : decode cX1_search 52 = .ok (.aload_n 1, 1) := by decide +kernel
theorem dX1_search_53 : decode cX1_search 53 = .ok (.getfield 97, 3) := by decide +kernel
theorem dX1_search_56 : decode cX1_search 56 = .ok (.if_icmp .ge 92, 3) := by decide +kernel
theorem dX1_search_59 : decode cX1_search 59 = .ok (.iload 4, 2) := by decide +kernel
theorem dX1_search_61 : decode cX1_search 61 = .ok (.ifCond .lt 87, 3) := by decide +kernel
theorem dX1_search_64 : decode cX1_search 64 = .ok (.iconst 0, 1) := by decide +kernel
theorem dX1_search_65 : decode cX1_search 65 = .ok (.istore 8, 2) := by decide +kernel
theorem dX1_search_67 : decode cX1_search 67 = .ok (.iload 8, 2) := by decide +kernel
theorem dX1_search_69 : decode cX1_search 69 = .ok (.iload 5, 2) := by decide +kernel
theorem dX1_search_71 : decode cX1_search 71 = .ok (.if_icmp .ge 71, 3) := by decide +kernel
theorem dX1_search_74 : decode cX1_search 74 = .ok (.aload_n 0, 1) := by decide +kernel
theorem dX1_search_75 : decode cX1_search 75 = .ok (.aload_n 1, 1) := by decide +kernel
theorem dX1_search_76 : decode cX1_search 76 = .ok (.aload_n 2, 1) := by decide +kernel
theorem dX1_search_77 : decode cX1_search 77 = .ok (.iload 7, 2) := by decide +kernel
theorem dX1_search_79 : decode cX1_search 79 = .ok (.iload 6, 2) := by decide +kernel
theorem dX1_search_81 : decode cX1_search 81 = .ok (.iload 8, 2) := by decide +kernel
theorem dX1_search_83 : decode cX1_search 83 = .ok (.iconst 1, 1) := by decide +kernel
theorem dX1_search_84 : decode cX1_search 84 = .ok (.if_icmp .ne 7, 3) := by decide +kernel
theorem dX1_search_87 : decode cX1_search 87 = .ok (.iconst 1, 1) := by decide +kernel
theorem dX1_search_88 : decode cX1_search 88 = .ok (.goto 4, 3) := by decide +kernel
theorem dX1_search_91 : decode cX1_search 91 = .ok (.iconst 0, 1) := by decide +kernel
theorem dX1_search_92 : decode cX1_search 92 = .ok (.iload 4, 2) := by decide +kernel
theorem dX1_search_94 : decode cX1_search 94 = .ok (.invokevirtual 98, 3) := by decide +kernel
theorem dX1_search_97 : decode cX1_search 97 = .ok (.ifCond .eq 39, 3) := by decide +kernel
theorem dX1_search_100 : decode cX1_search 100 = .ok (.aload_n 0, 1) := by decide +kernel
theorem dX1_search_101 : decode cX1_search 101 = .ok (.iload 7, 2) := by decide +kernel
theorem dX1_search_103 : decode cX1_search 103 = .ok (.iload 6, 2) := by decide +kernel
theorem dX1_search_105 : decode cX1_search 105 = .ok (.iload 8, 2) := by decide +kernel
theorem dX1_search_107 : decode cX1_search 107 = .ok (.iconst 1, 1) := by decide +kernel
theorem dX1_search_108 : decode cX1_search 108 = .ok (.if_icmp .ne 7, 3) := by decide +kernel
theorem dX1_search_111 : decode cX1_search 111 = .ok (.iconst 1, 1) := by decide +kernel
theorem dX1_search_112 : decode cX1_search 112 = .ok (.goto 4, 3) := by decide +kernel
theorem dX1_search_115 : decode cX1_search 115 = .ok (.iconst 0, 1) := by decide +kernel
theorem dX1_search_116 : decode cX1_search 116 = .ok (.invokevirtual 102, 3) := by decide +kernel
theorem dX1_search_119 : decode cX1_search 119 = .ok (.iload_n 3, 1) := by decide +kernel
theorem dX1_search_120 : decode cX1_search 120 = .ok (.ifCond .eq 12, 3) := by decide +kernel
theorem dX1_search_123 : decode cX1_search 123 = .ok (.aload_n 0, 1) := by decide +kernel
theorem dX1_search_124 : decode cX1_search 124 = .ok (.getfield 63, 3) := by decide +kernel
theorem dX1_search_127 : decode cX1_search 127 = .ok (.iconst 1, 1) := by decide +kernel
theorem dX1_search_128 : decode cX1_search 128 = .ok (.isub, 1) := by decide +kernel
theorem dX1_search_129 : decode cX1_search 129 = .ok (.goto 5, 3) := by decide +kernel
theorem dX1_search_132 : decode cX1_search 132 = .ok (.iload 4, 2) := by decide +kernel
theorem dX1_search_134 : decode cX1_search 134 = .ok (.istore 4, 2) := by decide +kernel
theorem dX1_search_136 : decode cX1_search 136 = .ok (.iinc 8 1, 3) := by decide +kernel
theorem dX1_search_139 : decode cX1_search 139 = .ok (.goto (-72), 3) := by decide +kernel
theorem dX1_search_142 : decode cX1_search 142 = .ok (.iinc 7 1, 3) := by decide +kernel
theorem dX1_search_145 : decode cX1_search 145 = .ok (.goto (-95), 3) := by decide +kernel
theorem dX1_search_148 : decode cX1_search 148 = .ok (.iinc 6 1, 3) := by decide +kernel
theorem dX1_search_151 : decode cX1_search 151 = .ok (.goto (-118), 3) := by decide +kernel
theorem dX1_search_154 : decode cX1_search 154 = .ok (.return_, 1) := by decide +kernel
theorem dX1_keep_0 : decode cX1_keep 0 = .ok (.aload_n 0, 1) := by decide +kernel
theorem dX1_keep_1 : decode cX1_keep 1 = .ok (.dup, 1) := by decide +kernel
theorem dX1_keep_2 : decode cX1_keep 2 = .ok (.getfield 83, 3) := by decide +kernel
theorem dX1_keep_5 : decode cX1_keep 5 = .ok (.iconst 1, 1) := by decide +kernel
theorem dX1_keep_6 : decode cX1_keep 6 = .ok (.iadd, 1) := by decide +kernel
theorem dX1_keep_7 : decode cX1_keep 7 = .ok (.putfield 83, 3) := by decide +kernel
theorem dX1_keep_10 : decode cX1_keep 10 = .ok (.aload_n 0, 1) := by decide +kernel
theorem dX1_keep_11 : decode cX1_keep 11 = .ok (.iload_n 1, 1) := by decide +kernel
theorem dX1_keep_12 : decode cX1_keep 12 = .ok (.putfield 106, 3) := by decide +kernel
theorem dX1_keep_15 : decode cX1_keep 15 = .ok (.aload_n 0, 1) := by decide +kernel
theorem dX1_keep_16 : decode cX1_keep 16 = .ok (.iload_n 2, 1) := by decide +kernel
theorem dX1_keep_17 : decode cX1_keep 17 = .ok (.putfield 109, 3) := by decide +kernel
theorem dX1_keep_20 : decode cX1_keep 20 = .ok (.aload_n 0, 1) := by decide +kernel
theorem dX1_keep_21 : decode cX1_keep 21 = .ok (.iload_n 3, 1) := by decide +kernel
theorem dX1_keep_22 : decode cX1_keep 22 = .ok (.putfield 112, 3) := by decide +kernel
theorem dX1_keep_25 : decode cX1_keep 25 = .ok (.aload_n 0, 1) := by decide +kernel
theorem dX1_keep_26 : decode cX1_keep 26 = .ok (.aload_n 0, 1) := by decide +kernel
theorem dX1_keep_27 : decode cX1_keep 27 = .ok (.getfield 63, 3) := by decide +kernel
theorem dX1_keep_30 : decode cX1_keep 30 = .ok (.putfield 115, 3) := by decide +kernel
theorem dX1_keep_33 : decode cX1_keep 33 = .ok (.aload_n 0, 1) := by decide +kernel
theorem dX1_keep_34 : decode cX1_keep 34 = .ok (.aload_n 0, 1) := by decide +kernel
theorem dX1_keep_35 : decode cX1_keep 35 = .ok (.getfield 66, 3) := by decide +kernel
theorem dX1_keep_38 : decode cX1_keep 38 = .ok (.putfield 118, 3) := by decide +kernel
theorem dX1_keep_41 : decode cX1_keep 41 = .ok (.return_, 1) := by decide +kernel
theorem dX2_init_0 : decode cX2_init 0 = .ok (.aload_n 0, 1) := by decide +kernel
theorem dX2_init_1 : decode cX2_init 1 = .ok (.invokespecial 3, 3) := by decide +kernel
theorem dX2_init_4 : decode cX2_init 4 = .ok (.aload_n 0, 1) := by decide +kernel
theorem dX2_init_5 : decode cX2_init 5 = .ok (.bipush 8, 2) := by decide +kernel
theorem dX2_init_7 : decode cX2_init 7 = .ok (.anewarray 9, 3) := by decide +kernel
theorem dX2_init_10 : decode cX2_init 10 = .ok (.putfield 11, 3) := by decide +kernel
theorem dX2_init_13 : decode cX2_init 13 = .ok (.iconst 0, 1) := by decide +kernel
theorem dX2_init_14 : decode cX2_init 14 = .ok (.istore_n 1, 1) := by decide +kernel
theorem dX2_init_15 : decode cX2_init 15 = .ok (.iload_n 1, 1) := by decide +kernel
theorem dX2_init_16 : decode cX2_init 16 = .ok (.bipush 8, 2) := by decide +kernel
theorem dX2_init_18 : decode cX2_init 18 = .ok (.if_icmp .ge 22, 3) := by decide +kernel
theorem dX2_init_21 : decode cX2_init 21 = .ok (.aload_n 0, 1) := by decide +kernel
theorem dX2_init_22 : decode cX2_init 22 = .ok (.getfield 11, 3) := by decide +kernel
theorem dX2_init_25 : decode cX2_init 25 = .ok (.iload_n 1, 1) := by decide +kernel
theorem dX2_init_26 : decode cX2_init 26 = .ok (.new 9, 3) := by decide +kernel
theorem dX2_init_29 : decode cX2_init 29 = .ok (.dup, 1) := by decide +kernel
theorem dX2_init_30 : decode cX2_init 30 = .ok (.invokespecial 17, 3) := by decide +kernel
theorem dX2_init_33 : decode cX2_init 33 = .ok (.aastore, 1) := by decide +kernel
theorem dX2_init_34 : decode cX2_init 34 = .ok (.iinc 1 1, 3) := by decide +kernel
theorem dX2_init_37 : decode cX2_init 37 = .ok (.goto (-22), 3) := by decide +kernel
theorem dX2_init_40 : decode cX2_init 40 = .ok (.return_, 1) := by decide +kernel
theorem dX2_record_0 : decode cX2_record 0 = .ok (.aload_n 0, 1) := by decide +kernel
theorem dX2_record_1 : decode cX2_record 1 = .ok (.getfield 18, 3) := by decide +kernel
theorem dX2_record_4 : decode cX2_record 4 = .ok (.bipush 8, 2) := by decide +kernel
theorem dX2_record_6 : decode cX2_record 6 = .ok (.if_icmp .ne 26, 3) := by decide +kernel
theorem dX2_record_9 : decode cX2_record 9 = .ok (.aload_n 0, 1) := by decide +kernel
theorem dX2_record_10 : decode cX2_record 10 = .ok (.aload_n 0, 1) := by decide +kernel
theorem dX2_record_11 : decode cX2_record 11 = .ok (.getfield 22, 3) := by decide +kernel
theorem dX2_record_14 : decode cX2_record 14 = .ok (.iconst 1, 1) := by decide +kernel
theorem dX2_record_15 : decode cX2_record 15 = .ok (.iadd, 1) := by decide +kernel
theorem dX2_record_16 : decode cX2_record 16 = .ok (.bipush 8, 2) := by decide +kernel
theorem dX2_record_18 : decode cX2_record 18 = .ok (.irem, 1) := by decide +kernel
theorem dX2_record_19 : decode cX2_record 19 = .ok (.putfield 22, 3) := by decide +kernel
theorem dX2_record_22 : decode cX2_record 22 = .ok (.aload_n 0, 1) := by decide +kernel
theorem dX2_record_23 : decode cX2_record 23 = .ok (.dup, 1) := by decide +kernel
theorem dX2_record_24 : decode cX2_record 24 = .ok (.getfield 18, 3) := by decide +kernel
theorem dX2_record_27 : decode cX2_record 27 = .ok (.iconst 1, 1) := by decide +kernel
theorem dX2_record_28 : decode cX2_record 28 = .ok (.isub, 1) := by decide +kernel
theorem dX2_record_29 : decode cX2_record 29 = .ok (.putfield 18, 3) := by decide +kernel
theorem dX2_record_32 : decode cX2_record 32 = .ok (.aload_n 0, 1) := by decide +kernel
theorem dX2_record_33 : decode cX2_record 33 = .ok (.getfield 11, 3) := by decide +kernel
theorem dX2_record_36 : decode cX2_record 36 = .ok (.aload_n 0, 1) := by decide +kernel
theorem dX2_record_37 : decode cX2_record 37 = .ok (.getfield 22, 3) := by decide +kernel
theorem dX2_record_40 : decode cX2_record 40 = .ok (.aload_n 0, 1) := by decide +kernel
theorem dX2_record_41 : decode cX2_record 41 = .ok (.getfield 18, 3) := by decide +kernel
theorem dX2_record_44 : decode cX2_record 44 = .ok (.iadd, 1) := by decide +kernel
theorem dX2_record_45 : decode cX2_record 45 = .ok (.bipush 8, 2) := by decide +kernel
theorem dX2_record_47 : decode cX2_record 47 = .ok (.irem, 1) := by decide +kernel
theorem dX2_record_48 : decode cX2_record 48 = .ok (.aaload, 1) := by decide +kernel
theorem dX2_record_49 : decode cX2_record 49 = .ok (.aload_n 1, 1) := by decide +kernel
theorem dX2_record_50 : decode cX2_record 50 = .ok (.invokevirtual 25, 3) := by decide +kernel
theorem dX2_record_53 : decode cX2_record 53 = .ok (.aload_n 0, 1) := by decide +kernel
theorem dX2_record_54 : decode cX2_record 54 = .ok (.dup, 1) := by decide +kernel
theorem dX2_record_55 : decode cX2_record 55 = .ok (.getfield 18, 3) := by decide +kernel
theorem dX2_record_58 : decode cX2_record 58 = .ok (.iconst 1, 1) := by decide +kernel
theorem dX2_record_59 : decode cX2_record 59 = .ok (.iadd, 1) := by decide +kernel
theorem dX2_record_60 : decode cX2_record 60 = .ok (.putfield 18, 3) := by decide +kernel
theorem dX2_record_63 : decode cX2_record 63 = .ok (.return_, 1) := by decide +kernel
theorem dX2_restore_0 : decode cX2_restore 0 = .ok (.aload_n 0, 1) := by decide +kernel
theorem dX2_restore_1 : decode cX2_restore 1 = .ok (.getfield 18, 3) := by decide +kernel
theorem dX2_restore_4 : decode cX2_restore 4 = .ok (.ifCond .le 34, 3) := by decide +kernel
theorem dX2_restore_7 : decode cX2_restore 7 = .ok (.aload_n 0, 1) := by decide +kernel
theorem dX2_restore_8 : decode cX2_restore 8 = .ok (.dup, 1) := by decide +kernel
theorem dX2_restore_9 : decode cX2_restore 9 = .ok (.getfield 18, 3) := by decide +kernel
theorem dX2_restore_12 : decode cX2_restore 12 = .ok (.iconst 1, 1) := by decide +kernel
theorem dX2_restore_13 : decode cX2_restore 13 = .ok (.isub, 1) := by decide +kernel
theorem dX2_restore_14 : decode cX2_restore 14 = .ok (.putfield 18, 3) := by decide +kernel
theorem dX2_restore_17 : decode cX2_restore 17 = .ok (.aload_n 1, 1) := by decide +kernel
theorem dX2_restore_18 : decode cX2_restore 18 = .ok (.aload_n 0, 1) := by decide +kernel
theorem dX2_restore_19 : decode cX2_restore 19 = .ok (.getfield 11, 3) := by decide +kernel
theorem dX2_restore_22 : decode cX2_restore 22 = .ok (.aload_n 0, 1) := by decide +kernel
theorem dX2_restore_23 : decode cX2_restore 23 = .ok (.getfield 22, 3) := by decide +kernel
theorem dX2_restore_26 : decode cX2_restore 26 = .ok (.aload_n 0, 1) := by decide +kernel
theorem dX2_restore_27 : decode cX2_restore 27 = .ok (.getfield 18, 3) := by decide +kernel
theorem dX2_restore_30 : decode cX2_restore 30 = .ok (.iadd, 1) := by decide +kernel
theorem dX2_restore_31 : decode cX2_restore 31 = .ok (.bipush 8, 2) := by decide +kernel
theorem dX2_restore_33 : decode cX2_restore 33 = .ok (.irem, 1) := by decide +kernel
theorem dX2_restore_34 : decode cX2_restore 34 = .ok (.aaload, 1) := by decide +kernel
theorem dX2_restore_35 : decode cX2_restore 35 = .ok (.invokevirtual 25, 3) := by decide +kernel
theorem dX2_restore_38 : decode cX2_restore 38 = .ok (.return_, 1) := by decide +kernel
theorem dX3_init_0 : decode cX3_init 0 = .ok (.aload_n 0, 1) := by decide +kernel
theorem dX3_init_1 : decode cX3_init 1 = .ok (.invokespecial 3, 3) := by decide +kernel
theorem dX3_init_4 : decode cX3_init 4 = .ok (.aload_n 0, 1) := by decide +kernel
theorem dX3_init_5 : decode cX3_init 5 = .ok (.bipush 12, 2) := by decide +kernel
theorem dX3_init_7 : decode cX3_init 7 = .ok (.newarray .int, 2) := by decide +kernel
theorem dX3_init_9 : decode cX3_init 9 = .ok (.putfield 9, 3) := by decide +kernel
theorem dX3_init_12 : decode cX3_init 12 = .ok (.aload_n 0, 1) := by decide +kernel
theorem dX3_init_13 : decode cX3_init 13 = .ok (.iconst 4, 1) := by decide +kernel
theorem dX3_init_14 : decode cX3_init 14 = .ok (.newarray .int, 2) := by decide +kernel
theorem dX3_init_16 : decode cX3_init 16 = .ok (.putfield 15, 3) := by decide +kernel
theorem dX3_init_19 : decode cX3_init 19 = .ok (.aload_n 0, 1) := by decide +kernel
theorem dX3_init_20 : decode cX3_init 20 = .ok (.new 18, 3) := by decide +kernel
theorem dX3_init_23 : decode cX3_init 23 = .ok (.dup, 1) := by decide +kernel
theorem dX3_init_24 : decode cX3_init 24 = .ok (.invokespecial 20, 3) := by decide +kernel
theorem dX3_init_27 : decode cX3_init 27 = .ok (.putfield 21, 3) := by decide +kernel
theorem dX3_init_30 : decode cX3_init 30 = .ok (.aload_n 0, 1) := by decide +kernel
theorem dX3_init_31 : decode cX3_init 31 = .ok (.bipush 12, 2) := by decide +kernel
theorem dX3_init_33 : decode cX3_init 33 = .ok (.newarray .int, 2) := by decide +kernel
theorem dX3_init_35 : decode cX3_init 35 = .ok (.putfield 25, 3) := by decide +kernel
theorem dX3_init_38 : decode cX3_init 38 = .ok (.aload_n 0, 1) := by decide +kernel
theorem dX3_init_39 : decode cX3_init 39 = .ok (.iconst 4, 1) := by decide +kernel
theorem dX3_init_40 : decode cX3_init 40 = .ok (.newarray .int, 2) := by decide +kernel
theorem dX3_init_42 : decode cX3_init 42 = .ok (.putfield 28, 3) := by decide +kernel
theorem dX3_init_45 : decode cX3_init 45 = .ok (.aload_n 0, 1) := by decide +kernel
theorem dX3_init_46 : decode cX3_init 46 = .ok (.new 31, 3) := by decide +kernel
theorem dX3_init_49 : decode cX3_init 49 = .ok (.dup, 1) := by decide +kernel
theorem dX3_init_50 : decode cX3_init 50 = .ok (.invokespecial 33, 3) := by decide +kernel
theorem dX3_init_53 : decode cX3_init 53 = .ok (.putfield 34, 3) := by decide +kernel
theorem dX3_init_56 : decode cX3_init 56 = .ok (.return_, 1) := by decide +kernel
theorem dX3_packUsually_0 : decode cX3_packUsually 0 = .ok (.aload_n 0, 1) := by decide +kernel
theorem dX3_packUsually_1 : decode cX3_packUsually 1 = .ok (.getfield 21, 3) := by decide +kernel
theorem dX3_packUsually_4 : decode cX3_packUsually 4 = .ok (.aload_n 1, 1) := by decide +kernel
theorem dX3_packUsually_5 : decode cX3_packUsually 5 = .ok (.invokevirtual 38, 3) := by decide +kernel
theorem dX3_packUsually_8 : decode cX3_packUsually 8 = .ok (.iconst 0, 1) := by decide +kernel
theorem dX3_packUsually_9 : decode cX3_packUsually 9 = .ok (.istore_n 2, 1) := by decide +kernel
theorem dX3_packUsually_10 : decode cX3_packUsually 10 = .ok (.iload_n 2, 1) := by decide +kernel
theorem dX3_packUsually_11 : decode cX3_packUsually 11 = .ok (.aload_n 0, 1) := by decide +kernel
theorem dX3_packUsually_12 : decode cX3_packUsually 12 = .ok (.getfield 21, 3) := by decide +kernel
theorem dX3_packUsually_15 : decode cX3_packUsually 15 = .ok (.getfield 42, 3) := by decide +kernel
theorem dX3_packUsually_18 : decode cX3_packUsually 18 = .ok (.if_icmp .ge 73, 3) := by decide +kernel
theorem dX3_packUsually_21 : decode cX3_packUsually 21 = .ok (.iload_n 2, 1) := by decide +kernel
theorem dX3_packUsually_22 : decode cX3_packUsually 22 = .ok (.istore_n 3, 1) := by decide +kernel
theorem dX3_packUsually_23 : decode cX3_packUsually 23 = .ok (.iload_n 3, 1) := by decide +kernel
theorem dX3_packUsually_24 : decode cX3_packUsually 24 = .ok (.ifCond .le 54, 3) := by decide +kernel
theorem dX3_packUsually_27 : decode cX3_packUsually 27 = .ok (.aload_n 0, 1) := by decide +kernel
theorem dX3_packUsually_28 : decode cX3_packUsually 28 = .ok (.getfield 21, 3) := by decide +kernel
theorem dX3_packUsually_31 : decode cX3_packUsually 31 = .ok (.getfield 46, 3) := by decide +kernel
theorem dX3_packUsually_34 : decode cX3_packUsually 34 = .ok (.iload_n 2, 1) := by decide +kernel
theorem dX3_packUsually_35 : decode cX3_packUsually 35 = .ok (.aaload, 1) := by decide +kernel
theorem dX3_packUsually_36 : decode cX3_packUsually 36 = .ok (.aload_n 0, 1) := by decide +kernel
theorem dX3_packUsually_37 : decode cX3_packUsually 37 = .ok (.getfield 21, 3) := by decide +kernel
theorem dX3_packUsually_40 : decode cX3_packUsually 40 = .ok (.getfield 46, 3) := by decide +kernel
theorem dX3_packUsually_43 : decode cX3_packUsually 43 = .ok (.aload_n 0, 1) := by decide +kernel
theorem dX3_packUsually_44 : decode cX3_packUsually 44 = .ok (.getfield 9, 3) := by decide +kernel
theorem dX3_packUsually_47 : decode cX3_packUsually 47 = .ok (.iload_n 3, 1) := by decide +kernel
theorem dX3_packUsually_48 : decode cX3_packUsually 48 = .ok (.iconst 1, 1) := by decide +kernel
theorem dX3_packUsually_49 : decode cX3_packUsually 49 = .ok (.isub, 1) := by decide +kernel
theorem dX3_packUsually_50 : decode cX3_packUsually 50 = .ok (.iaload, 1) := by decide +kernel
theorem dX3_packUsually_51 : decode cX3_packUsually 51 = .ok (.aaload, 1) := by decide +kernel
theorem dX3_packUsually_52 : decode cX3_packUsually 52 = .ok (.invokestatic 50, 3) := by decide +kernel
theorem dX3_packUsually_55 : decode cX3_packUsually 55 = .ok (.ifCond .eq 23, 3) := by decide +kernel
theorem dX3_packUsually_58 : decode cX3_packUsually 58 = .ok (.aload_n 0, 1) := by decide +kernel
theorem dX3_packUsually_59 : decode cX3_packUsually 59 = .ok (.getfield 9, 3) := by decide +kernel
theorem dX3_packUsually_62 : decode cX3_packUsually 62 = .ok (.iload_n 3, 1) := by decide +kernel
theorem dX3_packUsually_63 : decode cX3_packUsually 63 = .ok (.aload_n 0, 1) := by decide +kernel
theorem dX3_packUsually_64 : decode cX3_packUsually 64 = .ok (.getfield 9, 3) := by decide +kernel
theorem dX3_packUsually_67 : decode cX3_packUsually 67 = .ok (.iload_n 3, 1) := by decide +kernel
theorem dX3_packUsually_68 : decode cX3_packUsually 68 = .ok (.iconst 1, 1) := by decide +kernel
theorem dX3_packUsually_69 : decode cX3_packUsually 69 = .ok (.isub, 1) := by decide +kernel
theorem dX3_packUsually_70 : decode cX3_packUsually 70 = .ok (.iaload, 1) := by decide +kernel
theorem dX3_packUsually_71 : decode cX3_packUsually 71 = .ok (.iastore, 1) := by decide +kernel
theorem dX3_packUsually_72 : decode cX3_packUsually 72 = .ok (.iinc 3 (-1), 3) := by decide +kernel
theorem dX3_packUsually_75 : decode cX3_packUsually 75 = .ok (.goto (-52), 3) := by decide +kernel
theorem dX3_packUsually_78 : decode cX3_packUsually 78 = .ok (.aload_n 0, 1) := by decide +kernel
theorem dX3_packUsually_79 : decode cX3_packUsually 79 = .ok (.getfield 9, 3) := by decide +kernel
theorem dX3_packUsually_82 : decode cX3_packUsually 82 = .ok (.iload_n 3, 1) := by decide +kernel
theorem dX3_packUsually_83 : decode cX3_packUsually 83 = .ok (.iload_n 2, 1) := by decide +kernel
theorem dX3_packUsually_84 : decode cX3_packUsually 84 = .ok (.iastore, 1) := by decide +kernel
theorem dX3_packUsually_85 : decode cX3_packUsually 85 = .ok (.iinc 2 1, 3) := by decide +kernel
theorem dX3_packUsually_88 : decode cX3_packUsually 88 = .ok (.goto (-78), 3) := by decide +kernel
theorem dX3_packUsually_91 : decode cX3_packUsually 91 = .ok (.aload_n 0, 1) := by decide +kernel
theorem dX3_packUsually_92 : decode cX3_packUsually 92 = .ok (.aload_n 0, 1) := by decide +kernel
theorem dX3_packUsually_93 : decode cX3_packUsually 93 = .ok (.getfield 9, 3) := by decide +kernel
theorem dX3_packUsually_96 : decode cX3_packUsually 96 = .ok (.iconst 0, 1) := by decide +kernel
theorem dX3_packUsually_97 : decode cX3_packUsually 97 = .ok (.invokevirtual 54, 3) := by decide +kernel
theorem dX3_packUsually_100 : decode cX3_packUsually 100 = .ok (.aload_n 0, 1) := by decide +kernel
theorem dX3_packUsually_101 : decode cX3_packUsually 101 = .ok (.aload_n 0, 1) := by decide +kernel
theorem dX3_packUsually_102 : decode cX3_packUsually 102 = .ok (.getfield 15, 3) := by decide +kernel
theorem dX3_packUsually_105 : decode cX3_packUsually 105 = .ok (.invokevirtual 58, 3) := by decide +kernel
theorem dX3_packUsually_108 : decode cX3_packUsually 108 = .ok (.return_, 1) := by decide +kernel
theorem dX3_isBefore_0 : decode cX3_isBefore 0 = .ok (.aload_n 0, 1) := by decide +kernel
theorem dX3_isBefore_1 : decode cX3_isBefore 1 = .ok (.getfield 62, 3) := by decide +kernel
theorem dX3_isBefore_4 : decode cX3_isBefore 4 = .ok (.aload_n 1, 1) := by decide +kernel
theorem dX3_isBefore_5 : decode cX3_isBefore 5 = .ok (.getfield 62, 3) := by decide +kernel
theorem dX3_isBefore_8 : decode cX3_isBefore 8 = .ok (.if_icmp .gt 25, 3) := by decide +kernel
theorem dX3_isBefore_11 : decode cX3_isBefore 11 = .ok (.aload_n 0, 1) := by decide +kernel
theorem dX3_isBefore_12 : decode cX3_isBefore 12 = .ok (.getfield 62, 3) := by decide +kernel
theorem dX3_isBefore_15 : decode cX3_isBefore 15 = .ok (.aload_n 1, 1) := by decide +kernel
theorem dX3_isBefore_16 : decode cX3_isBefore 16 = .ok (.getfield 62, 3) := by decide +kernel
theorem dX3_isBefore_19 : decode cX3_isBefore 19 = .ok (.if_icmp .ne 18, 3) := by decide +kernel
theorem dX3_isBefore_22 : decode cX3_isBefore 22 = .ok (.aload_n 0, 1) := by decide +kernel
theorem dX3_isBefore_23 : decode cX3_isBefore 23 = .ok (.invokevirtual 67, 3) := by decide +kernel
theorem dX3_isBefore_26 : decode cX3_isBefore 26 = .ok (.aload_n 1, 1) := by decide +kernel
theorem dX3_isBefore_27 : decode cX3_isBefore 27 = .ok (.invokevirtual 67, 3) := by decide +kernel
theorem dX3_isBefore_30 : decode cX3_isBefore 30 = .ok (.if_icmp .le 7, 3) := by decide +kernel
theorem dX3_isBefore_33 : decode cX3_isBefore 33 = .ok (.iconst 1, 1) := by decide +kernel
theorem dX3_isBefore_34 : decode cX3_isBefore 34 = .ok (.goto 4, 3) := by decide +kernel
theorem dX3_isBefore_37 : decode cX3_isBefore 37 = .ok (.iconst 0, 1) := by decide +kernel
theorem dX3_isBefore_38 : decode cX3_isBefore 38 = .ok (.ireturn, 1) := by decide +kernel
theorem dX3_packByBest_0 : decode cX3_packByBest 0 = .ok (.aload_n 0, 1) := by decide +kernel
theorem dX3_packByBest_1 : decode cX3_packByBest 1 = .ok (.getfield 21, 3) := by decide +kernel
theorem dX3_packByBest_4 : decode cX3_packByBest 4 = .ok (.aload_n 1, 1) := by decide +kernel
theorem dX3_packByBest_5 : decode cX3_packByBest 5 = .ok (.invokevirtual 38, 3) := by decide +kernel
theorem dX3_packByBest_8 : decode cX3_packByBest 8 = .ok (.iconst 0, 1) := by decide +kernel
theorem dX3_packByBest_9 : decode cX3_packByBest 9 = .ok (.istore_n 2, 1) := by decide +kernel
theorem dX3_packByBest_10 : decode cX3_packByBest 10 = .ok (.iload_n 2, 1) := by decide +kernel
theorem dX3_packByBest_11 : decode cX3_packByBest 11 = .ok (.aload_n 0, 1) := by decide +kernel
theorem dX3_packByBest_12 : decode cX3_packByBest 12 = .ok (.getfield 21, 3) := by decide +kernel
theorem dX3_packByBest_15 : decode cX3_packByBest 15 = .ok (.getfield 42, 3) := by decide +kernel
theorem dX3_packByBest_18 : decode cX3_packByBest 18 = .ok (.if_icmp .ge 16, 3) := by decide +kernel
theorem dX3_packByBest_21 : decode cX3_packByBest 21 = .ok (.aload_n 0, 1) := by decide +kernel
theorem dX3_packByBest_22 : decode cX3_packByBest 22 = .ok (.getfield 25, 3) := by decide +kernel
theorem dX3_packByBest_25 : decode cX3_packByBest 25 = .ok (.iload_n 2, 1) := by decide +kernel
theorem dX3_packByBest_26 : decode cX3_packByBest 26 = .ok (.iload_n 2, 1) := by decide +kernel
theorem dX3_packByBest_27 : decode cX3_packByBest 27 = .ok (.iastore, 1) := by decide +kernel
theorem dX3_packByBest_28 : decode cX3_packByBest 28 = .ok (.iinc 2 1, 3) := by decide +kernel
theorem dX3_packByBest_31 : decode cX3_packByBest 31 = .ok (.goto (-21), 3) := by decide +kernel
theorem dX3_packByBest_34 : decode cX3_packByBest 34 = .ok (.iconst 0, 1) := by decide +kernel
theorem dX3_packByBest_35 : decode cX3_packByBest 35 = .ok (.istore_n 2, 1) := by decide +kernel
