theorem dX0_init_0 : decode cX0_init 0 = .ok (.aload_n 0, 1) := by decide +kernel
theorem dX0_init_1 : decode cX0_init 1 = .ok (.invokespecial 3, 3) := by decide +kernel
theorem dX0_init_4 : decode cX0_init 4 = .ok (.aload_n 0, 1) := by decide +kernel
theorem dX0_init_5 : decode cX0_init 5 = .ok (.sipush 1608, 3) := by decide +kernel
theorem dX0_init_8 : decode cX0_init 8 = .ok (.newarray .int, 2) := by decide +kernel
theorem dX0_init_10 : decode cX0_init 10 = .ok (.putfield 9, 3) := by decide +kernel
theorem dX0_init_13 : decode cX0_init 13 = .ok (.aload_n 0, 1) := by decide +kernel
theorem dX0_init_14 : decode cX0_init 14 = .ok (.iconst 3, 1) := by decide +kernel
theorem dX0_init_15 : decode cX0_init 15 = .ok (.newarray .int, 2) := by decide +kernel
theorem dX0_init_17 : decode cX0_init 17 = .ok (.putfield 15, 3) := by decide +kernel
theorem dX0_init_20 : decode cX0_init 20 = .ok (.aload_n 0, 1) := by decide +kernel
theorem dX0_init_21 : decode cX0_init 21 = .ok (.iconst 3, 1) := by decide +kernel
theorem dX0_init_22 : decode cX0_init 22 = .ok (.newarray .int, 2) := by decide +kernel
theorem dX0_init_24 : decode cX0_init 24 = .ok (.putfield 18, 3) := by decide +kernel
theorem dX0_init_27 : decode cX0_init 27 = .ok (.aload_n 0, 1) := by decide +kernel
theorem dX0_init_28 : decode cX0_init 28 = .ok (.iconst 3, 1) := by decide +kernel
theorem dX0_init_29 : decode cX0_init 29 = .ok (.newarray .int, 2) := by decide +kernel
theorem dX0_init_31 : decode cX0_init 31 = .ok (.putfield 21, 3) := by decide +kernel
theorem dX0_init_34 : decode cX0_init 34 = .ok (.aload_n 0, 1) := by decide +kernel
theorem dX0_init_35 : decode cX0_init 35 = .ok (.iconst 0, 1) := by decide +kernel
theorem dX0_init_36 : decode cX0_init 36 = .ok (.putfield 24, 3) := by decide +kernel
theorem dX0_init_39 : decode cX0_init 39 = .ok (.aload_n 0, 1) := by decide +kernel
theorem dX0_init_40 : decode cX0_init 40 = .ok (.iconst 0, 1) := by decide +kernel
theorem dX0_init_41 : decode cX0_init 41 = .ok (.putfield 28, 3) := by decide +kernel
theorem dX0_init_44 : decode cX0_init 44 = .ok (.return_, 1) := by decide +kernel
theorem dX0_clear_0 : decode cX0_clear 0 = .ok (.aload_n 0, 1) := by decide +kernel
theorem dX0_clear_1 : decode cX0_clear 1 = .ok (.iconst 0, 1) := by decide +kernel
theorem dX0_clear_2 : decode cX0_clear 2 = .ok (.putfield 24, 3) := by decide +kernel
theorem dX0_clear_5 : decode cX0_clear 5 = .ok (.iconst 0, 1) := by decide +kernel
theorem dX0_clear_6 : decode cX0_clear 6 = .ok (.istore_n 1, 1) := by decide +kernel
theorem dX0_clear_7 : decode cX0_clear 7 = .ok (.iload_n 1, 1) := by decide +kernel
theorem dX0_clear_8 : decode cX0_clear 8 = .ok (.iconst 3, 1) := by decide +kernel
theorem dX0_clear_9 : decode cX0_clear 9 = .ok (.if_icmp .ge 30, 3) := by decide +kernel
theorem dX0_clear_12 : decode cX0_clear 12 = .ok (.aload_n 0, 1) := by decide +kernel
theorem dX0_clear_13 : decode cX0_clear 13 = .ok (.getfield 15, 3) := by decide +kernel
theorem dX0_clear_16 : decode cX0_clear 16 = .ok (.iload_n 1, 1) := by decide +kernel
theorem dX0_clear_17 : decode cX0_clear 17 = .ok (.iconst 0, 1) := by decide +kernel
theorem dX0_clear_18 : decode cX0_clear 18 = .ok (.iastore, 1) := by decide +kernel
theorem dX0_clear_19 : decode cX0_clear 19 = .ok (.aload_n 0, 1) := by decide +kernel
theorem dX0_clear_20 : decode cX0_clear 20 = .ok (.getfield 18, 3) := by decide +kernel
theorem dX0_clear_23 : decode cX0_clear 23 = .ok (.iload_n 1, 1) := by decide +kernel
theorem dX0_clear_24 : decode cX0_clear 24 = .ok (.iconst 0, 1) := by decide +kernel
theorem dX0_clear_25 : decode cX0_clear 25 = .ok (.iastore, 1) := by decide +kernel
theorem dX0_clear_26 : decode cX0_clear 26 = .ok (.aload_n 0, 1) := by decide +kernel
theorem dX0_clear_27 : decode cX0_clear 27 = .ok (.getfield 21, 3) := by decide +kernel
theorem dX0_clear_30 : decode cX0_clear 30 = .ok (.iload_n 1, 1) := by decide +kernel
theorem dX0_clear_31 : decode cX0_clear 31 = .ok (.iconst 0, 1) := by decide +kernel
theorem dX0_clear_32 : decode cX0_clear 32 = .ok (.iastore, 1) := by decide +kernel
theorem dX0_clear_33 : decode cX0_clear 33 = .ok (.iinc 1 1, 3) := by decide +kernel
theorem dX0_clear_36 : decode cX0_clear 36 = .ok (.goto (-29), 3) := by decide +kernel
theorem dX0_clear_39 : decode cX0_clear 39 = .ok (.return_, 1) := by decide +kernel
theorem dX0_isTold_0 : decode cX0_isTold 0 = .ok (.aload_n 0, 1) := by decide +kernel
theorem dX0_isTold_1 : decode cX0_isTold 1 = .ok (.getfield 18, 3) := by decide +kernel
theorem dX0_isTold_4 : decode cX0_isTold 4 = .ok (.iload_n 1, 1) := by decide +kernel
theorem dX0_isTold_5 : decode cX0_isTold 5 = .ok (.iaload, 1) := by decide +kernel
theorem dX0_isTold_6 : decode cX0_isTold 6 = .ok (.aload_n 0, 1) := by decide +kernel
theorem dX0_isTold_7 : decode cX0_isTold 7 = .ok (.getfield 15, 3) := by decide +kernel
theorem dX0_isTold_10 : decode cX0_isTold 10 = .ok (.iload_n 1, 1) := by decide +kernel
theorem dX0_isTold_11 : decode cX0_isTold 11 = .ok (.iaload, 1) := by decide +kernel
theorem dX0_isTold_12 : decode cX0_isTold 12 = .ok (.if_icmp .le 7, 3) := by decide +kernel
theorem dX0_isTold_15 : decode cX0_isTold 15 = .ok (.iconst 1, 1) := by decide +kernel
theorem dX0_isTold_16 : decode cX0_isTold 16 = .ok (.goto 4, 3) := by decide +kernel
theorem dX0_isTold_19 : decode cX0_isTold 19 = .ok (.iconst 0, 1) := by decide +kernel
theorem dX0_isTold_20 : decode cX0_isTold 20 = .ok (.ireturn, 1) := by decide +kernel
theorem dX0_start_0 : decode cX0_start 0 = .ok (.aload_n 0, 1) := by decide +kernel
theorem dX0_start_1 : decode cX0_start 1 = .ok (.iload_n 1, 1) := by decide +kernel
theorem dX0_start_2 : decode cX0_start 2 = .ok (.putfield 28, 3) := by decide +kernel
theorem dX0_start_5 : decode cX0_start 5 = .ok (.aload_n 0, 1) := by decide +kernel
theorem dX0_start_6 : decode cX0_start 6 = .ok (.getfield 15, 3) := by decide +kernel
theorem dX0_start_9 : decode cX0_start 9 = .ok (.iload_n 1, 1) := by decide +kernel
theorem dX0_start_10 : decode cX0_start 10 = .ok (.aload_n 0, 1) := by decide +kernel
theorem dX0_start_11 : decode cX0_start 11 = .ok (.getfield 24, 3) := by decide +kernel
theorem dX0_start_14 : decode cX0_start 14 = .ok (.iastore, 1) := by decide +kernel
theorem dX0_start_15 : decode cX0_start 15 = .ok (.aload_n 0, 1) := by decide +kernel
theorem dX0_start_16 : decode cX0_start 16 = .ok (.getfield 18, 3) := by decide +kernel
theorem dX0_start_19 : decode cX0_start 19 = .ok (.iload_n 1, 1) := by decide +kernel
theorem dX0_start_20 : decode cX0_start 20 = .ok (.aload_n 0, 1) := by decide +kernel
theorem dX0_start_21 : decode cX0_start 21 = .ok (.getfield 24, 3) := by decide +kernel
theorem dX0_start_24 : decode cX0_start 24 = .ok (.iastore, 1) := by decide +kernel
theorem dX0_start_25 : decode cX0_start 25 = .ok (.aload_n 0, 1) := by decide +kernel
theorem dX0_start_26 : decode cX0_start 26 = .ok (.getfield 21, 3) := by decide +kernel
theorem dX0_start_29 : decode cX0_start 29 = .ok (.iload_n 1, 1) := by decide +kernel
theorem dX0_start_30 : decode cX0_start 30 = .ok (.iconst 0, 1) := by decide +kernel
theorem dX0_start_31 : decode cX0_start 31 = .ok (.iastore, 1) := by decide +kernel
theorem dX0_start_32 : decode cX0_start 32 = .ok (.return_, 1) := by decide +kernel
theorem dX0_put_0 : decode cX0_put 0 = .ok (.aload_n 0, 1) := by decide +kernel
theorem dX0_put_1 : decode cX0_put 1 = .ok (.getfield 24, 3) := by decide +kernel
theorem dX0_put_4 : decode cX0_put 4 = .ok (.sipush 1608, 3) := by decide +kernel
theorem dX0_put_7 : decode cX0_put 7 = .ok (.if_icmp .ge 33, 3) := by decide +kernel
theorem dX0_put_10 : decode cX0_put 10 = .ok (.aload_n 0, 1) := by decide +kernel
theorem dX0_put_11 : decode cX0_put 11 = .ok (.getfield 9, 3) := by decide +kernel
theorem dX0_put_14 : decode cX0_put 14 = .ok (.aload_n 0, 1) := by decide +kernel
theorem dX0_put_15 : decode cX0_put 15 = .ok (.dup, 1) := by decide +kernel
theorem dX0_put_16 : decode cX0_put 16 = .ok (.getfield 24, 3) := by decide +kernel
theorem dX0_put_19 : decode cX0_put 19 = .ok (.dup_x1, 1) := by decide +kernel
theorem dX0_put_20 : decode cX0_put 20 = .ok (.iconst 1, 1) := by decide +kernel
theorem dX0_put_21 : decode cX0_put 21 = .ok (.iadd, 1) := by decide +kernel
theorem dX0_put_22 : decode cX0_put 22 = .ok (.putfield 24, 3) := by decide +kernel
theorem dX0_put_25 : decode cX0_put 25 = .ok (.iload_n 1, 1) := by decide +kernel
theorem dX0_put_26 : decode cX0_put 26 = .ok (.iastore, 1) := by decide +kernel
theorem dX0_put_27 : decode cX0_put 27 = .ok (.aload_n 0, 1) := by decide +kernel
theorem dX0_put_28 : decode cX0_put 28 = .ok (.getfield 18, 3) := by decide +kernel
theorem dX0_put_31 : decode cX0_put 31 = .ok (.aload_n 0, 1) := by decide +kernel
theorem dX0_put_32 : decode cX0_put 32 = .ok (.getfield 28, 3) := by decide +kernel
theorem dX0_put_35 : decode cX0_put 35 = .ok (.aload_n 0, 1) := by decide +kernel
theorem dX0_put_36 : decode cX0_put 36 = .ok (.getfield 24, 3) := by decide +kernel
theorem dX0_put_39 : decode cX0_put 39 = .ok (.iastore, 1) := by decide +kernel
theorem dX0_put_40 : decode cX0_put 40 = .ok (.return_, 1) := by decide +kernel
theorem dX0_putWord_0 : decode cX0_putWord 0 = .ok (.aload_n 0, 1) := by decide +kernel
theorem dX0_putWord_1 : decode cX0_putWord 1 = .ok (.getfield 21, 3) := by decide +kernel
theorem dX0_putWord_4 : decode cX0_putWord 4 = .ok (.aload_n 0, 1) := by decide +kernel
theorem dX0_putWord_5 : decode cX0_putWord 5 = .ok (.getfield 28, 3) := by decide +kernel
theorem dX0_putWord_8 : decode cX0_putWord 8 = .ok (.dup2, 1) := by decide +kernel
theorem dX0_putWord_9 : decode cX0_putWord 9 = .ok (.iaload, 1) := by decide +kernel
theorem dX0_putWord_10 : decode cX0_putWord 10 = .ok (.iconst 1, 1) := by decide +kernel
theorem dX0_putWord_11 : decode cX0_putWord 11 = .ok (.iload_n 1, 1) := by decide +kernel
theorem dX0_putWord_12 : decode cX0_putWord 12 = .ok (.ishl, 1) := by decide +kernel
theorem dX0_putWord_13 : decode cX0_putWord 13 = .ok (.ior, 1) := by decide +kernel
theorem dX0_putWord_14 : decode cX0_putWord 14 = .ok (.iastore, 1) := by decide +kernel
theorem dX0_putWord_15 : decode cX0_putWord 15 = .ok (.aload_n 0, 1) := by decide +kernel
theorem dX0_putWord_16 : decode cX0_putWord 16 = .ok (.iload_n 1, 1) := by decide +kernel
theorem dX0_putWord_17 : decode cX0_putWord 17 = .ok (.iconst (-1), 1) := by decide +kernel
theorem dX0_putWord_18 : decode cX0_putWord 18 = .ok (.ixor, 1) := by decide +kernel
theorem dX0_putWord_19 : decode cX0_putWord 19 = .ok (.invokevirtual 31, 3) := by decide +kernel
theorem dX0_putWord_22 : decode cX0_putWord 22 = .ok (.return_, 1) := by decide +kernel
theorem dX0_putUntold_0 : decode cX0_putUntold 0 = .ok (.aload_n 0, 1) := by decide +kernel
theorem dX0_putUntold_1 : decode cX0_putUntold 1 = .ok (.iconst 0, 1) := by decide +kernel
theorem dX0_putUntold_2 : decode cX0_putUntold 2 = .ok (.invokevirtual 35, 3) := by decide +kernel
theorem dX0_putUntold_5 : decode cX0_putUntold 5 = .ok (.ifCond .ne 13, 3) := by decide +kernel
theorem dX0_putUntold_8 : decode cX0_putUntold 8 = .ok (.aload_n 0, 1) := by decide +kernel
theorem dX0_putUntold_9 : decode cX0_putUntold 9 = .ok (.iconst 0, 1) := by decide +kernel
theorem dX0_putUntold_10 : decode cX0_putUntold 10 = .ok (.invokevirtual 39, 3) := by decide +kernel
theorem dX0_putUntold_13 : decode cX0_putUntold 13 = .ok (.aload_n 0, 1) := by decide +kernel
theorem dX0_putUntold_14 : decode cX0_putUntold 14 = .ok (.iconst 0, 1) := by decide +kernel
theorem dX0_putUntold_15 : decode cX0_putUntold 15 = .ok (.invokevirtual 31, 3) := by decide +kernel
theorem dX0_putUntold_18 : decode cX0_putUntold 18 = .ok (.aload_n 0, 1) := by decide +kernel
theorem dX0_putUntold_19 : decode cX0_putUntold 19 = .ok (.iconst 1, 1) := by decide +kernel
theorem dX0_putUntold_20 : decode cX0_putUntold 20 = .ok (.invokevirtual 35, 3) := by decide +kernel
theorem dX0_putUntold_23 : decode cX0_putUntold 23 = .ok (.ifCond .ne 25, 3) := by decide +kernel
theorem dX0_putUntold_26 : decode cX0_putUntold 26 = .ok (.aload_n 0, 1) := by decide +kernel
theorem dX0_putUntold_27 : decode cX0_putUntold 27 = .ok (.iconst 1, 1) := by decide +kernel
theorem dX0_putUntold_28 : decode cX0_putUntold 28 = .ok (.invokevirtual 39, 3) := by decide +kernel
theorem dX0_putUntold_31 : decode cX0_putUntold 31 = .ok (.aload_n 0, 1) := by decide +kernel
theorem dX0_putUntold_32 : decode cX0_putUntold 32 = .ok (.iconst 1, 1) := by decide +kernel
theorem dX0_putUntold_33 : decode cX0_putUntold 33 = .ok (.invokevirtual 31, 3) := by decide +kernel
theorem dX0_putUntold_36 : decode cX0_putUntold 36 = .ok (.aload_n 0, 1) := by decide +kernel
theorem dX0_putUntold_37 : decode cX0_putUntold 37 = .ok (.bipush 16, 2) := by decide +kernel
theorem dX0_putUntold_39 : decode cX0_putUntold 39 = .ok (.invokevirtual 42, 3) := by decide +kernel
theorem dX0_putUntold_42 : decode cX0_putUntold 42 = .ok (.aload_n 0, 1) := by decide +kernel
theorem dX0_putUntold_43 : decode cX0_putUntold 43 = .ok (.bipush (-44), 2) := by decide +kernel
theorem dX0_putUntold_45 : decode cX0_putUntold 45 = .ok (.invokevirtual 31, 3) := by decide +kernel
theorem dX0_putUntold_48 : decode cX0_putUntold 48 = .ok (.aload_n 0, 1) := by decide +kernel
theorem dX0_putUntold_49 : decode cX0_putUntold 49 = .ok (.iconst 2, 1) := by decide +kernel
theorem dX0_putUntold_50 : decode cX0_putUntold 50 = .ok (.invokevirtual 35, 3) := by decide +kernel
theorem dX0_putUntold_53 : decode cX0_putUntold 53 = .ok (.ifCond .ne 13, 3) := by decide +kernel
theorem dX0_putUntold_56 : decode cX0_putUntold 56 = .ok (.aload_n 0, 1) := by decide +kernel
theorem dX0_putUntold_57 : decode cX0_putUntold 57 = .ok (.iconst 2, 1) := by decide +kernel
theorem dX0_putUntold_58 : decode cX0_putUntold 58 = .ok (.invokevirtual 39, 3) := by decide +kernel
theorem dX0_putUntold_61 : decode cX0_putUntold 61 = .ok (.aload_n 0, 1) := by decide +kernel
theorem dX0_putUntold_62 : decode cX0_putUntold 62 = .ok (.iconst 1, 1) := by decide +kernel
theorem dX0_putUntold_63 : decode cX0_putUntold 63 = .ok (.invokevirtual 31, 3) := by decide +kernel
theorem dX0_putUntold_66 : decode cX0_putUntold 66 = .ok (.return_, 1) := by decide +kernel
theorem dX1_init_0 : decode cX1_init 0 = .ok (.aload_n 0, 1) := by decide +kernel
theorem dX1_init_1 : decode cX1_init 1 = .ok (.invokespecial 3, 3) := by decide +kernel
theorem dX1_init_4 : decode cX1_init 4 = .ok (.aload_n 0, 1) := by decide +kernel
theorem dX1_init_5 : decode cX1_init 5 = .ok (.new 9, 3) := by decide +kernel
theorem dX1_init_8 : decode cX1_init 8 = .ok (.dup, 1) := by decide +kernel
theorem dX1_init_9 : decode cX1_init 9 = .ok (.invokespecial 11, 3) := by decide +kernel
theorem dX1_init_12 : decode cX1_init 12 = .ok (.putfield 12, 3) := by decide +kernel
theorem dX1_init_15 : decode cX1_init 15 = .ok (.aload_n 0, 1) := by decide +kernel
theorem dX1_init_16 : decode cX1_init 16 = .ok (.iconst (-1), 1) := by decide +kernel
theorem dX1_init_17 : decode cX1_init 17 = .ok (.putfield 18, 3) := by decide +kernel
theorem dX1_init_20 : decode cX1_init 20 = .ok (.aload_n 0, 1) := by decide +kernel
theorem dX1_init_21 : decode cX1_init 21 = .ok (.iconst 0, 1) := by decide +kernel
theorem dX1_init_22 : decode cX1_init 22 = .ok (.putfield 22, 3) := by decide +kernel
theorem dX1_init_25 : decode cX1_init 25 = .ok (.aload_n 0, 1) := by decide +kernel
theorem dX1_init_26 : decode cX1_init 26 = .ok (.iconst (-1), 1) := by decide +kernel
theorem dX1_init_27 : decode cX1_init 27 = .ok (.putfield 25, 3) := by decide +kernel
theorem dX1_init_30 : decode cX1_init 30 = .ok (.aload_n 0, 1) := by decide +kernel
theorem dX1_init_31 : decode cX1_init 31 = .ok (.iconst (-1), 1) := by decide +kernel
theorem dX1_init_32 : decode cX1_init 32 = .ok (.putfield 28, 3) := by decide +kernel
theorem dX1_init_35 : decode cX1_init 35 = .ok (.aload_n 0, 1) := by decide +kernel
theorem dX1_init_36 : decode cX1_init 36 = .ok (.iconst 0, 1) := by decide +kernel
theorem dX1_init_37 : decode cX1_init 37 = .ok (.putfield 31, 3) := by decide +kernel
theorem dX1_init_40 : decode cX1_init 40 = .ok (.aload_n 0, 1) := by decide +kernel
theorem dX1_init_41 : decode cX1_init 41 = .ok (.aload_n 1, 1) := by decide +kernel
theorem dX1_init_42 : decode cX1_init 42 = .ok (.putfield 34, 3) := by decide +kernel
theorem dX1_init_45 : decode cX1_init 45 = .ok (.aload_n 0, 1) := by decide +kernel
theorem dX1_init_46 : decode cX1_init 46 = .ok (.aload_n 2, 1) := by decide +kernel
theorem dX1_init_47 : decode cX1_init 47 = .ok (.putfield 38, 3) := by decide +kernel
theorem dX1_init_50 : decode cX1_init 50 = .ok (.return_, 1) := by decide +kernel
theorem dX1_reach_0 : decode cX1_reach 0 = .ok (.iload_n 1, 1) := by decide +kernel
theorem dX1_reach_1 : decode cX1_reach 1 = .ok (.sipush 999, 3) := by decide +kernel
theorem dX1_reach_4 : decode cX1_reach 4 = .ok (.aload_n 0, 1) := by decide +kernel
theorem dX1_reach_5 : decode cX1_reach 5 = .ok (.getfield 38, 3) := by decide +kernel
theorem dX1_reach_8 : decode cX1_reach 8 = .ok (.getfield 41, 3) := by decide +kernel
theorem dX1_reach_11 : decode cX1_reach 11 = .ok (.isub, 1) := by decide +kernel
theorem dX1_reach_12 : decode cX1_reach 12 = .ok (.invokestatic 44, 3) := by decide +kernel
theorem dX1_reach_15 : decode cX1_reach 15 = .ok (.ireturn, 1) := by decide +kernel
theorem dX1_comes_0 : decode cX1_comes 0 = .ok (.iload_n 1, 1) := by decide +kernel
theorem dX1_comes_1 : decode cX1_comes 1 = .ok (.iload_n 2, 1) := by decide +kernel
theorem dX1_comes_2 : decode cX1_comes 2 = .ok (.if_icmp .lt 16, 3) := by decide +kernel
theorem dX1_comes_5 : decode cX1_comes 5 = .ok (.iload_n 1, 1) := by decide +kernel
theorem dX1_comes_6 : decode cX1_comes 6 = .ok (.aload_n 0, 1) := by decide +kernel
theorem dX1_comes_7 : decode cX1_comes 7 = .ok (.iload_n 3, 1) := by decide +kernel
theorem dX1_comes_8 : decode cX1_comes 8 = .ok (.invokevirtual 50, 3) := by decide +kernel
theorem dX1_comes_11 : decode cX1_comes 11 = .ok (.if_icmp .gt 7, 3) := by decide +kernel
theorem dX1_comes_14 : decode cX1_comes 14 = .ok (.iconst 1, 1) := by decide +kernel
theorem dX1_comes_15 : decode cX1_comes 15 = .ok (.goto 4, 3) := by decide +kernel
theorem dX1_comes_18 : decode cX1_comes 18 = .ok (.iconst 0, 1) := by decide +kernel
theorem dX1_comes_19 : decode cX1_comes 19 = .ok (.ireturn, 1) := by decide +kernel
theorem dX1_restart_0 : decode cX1_restart 0 = .ok (.aload_n 0, 1) := by decide +kernel
theorem dX1_restart_1 : decode cX1_restart 1 = .ok (.getfield 12, 3) := by decide +kernel
theorem dX1_restart_4 : decode cX1_restart 4 = .ok (.aload_n 0, 1) := by decide +kernel
theorem dX1_restart_5 : decode cX1_restart 5 = .ok (.getfield 38, 3) := by decide +kernel
theorem dX1_restart_8 : decode cX1_restart 8 = .ok (.invokevirtual 54, 3) := by decide +kernel
theorem dX1_restart_11 : decode cX1_restart 11 = .ok (.aload_n 0, 1) := by decide +kernel
theorem dX1_restart_12 : decode cX1_restart 12 = .ok (.getfield 12, 3) := by decide +kernel
theorem dX1_restart_15 : decode cX1_restart 15 = .ok (.areturn, 1) := by decide +kernel
theorem dX1_believedBehind_0 : decode cX1_believedBehind 0 = .ok (.iconst 0, 1) := by decide +kernel
theorem dX1_believedBehind_1 : decode cX1_believedBehind 1 = .ok (.istore_n 2, 1) := by decide +kernel
theorem dX1_believedBehind_2 : decode cX1_believedBehind 2 = .ok (.iload_n 2, 1) := by decide +kernel
theorem dX1_believedBehind_3 : decode cX1_believedBehind 3 = .ok (.iload_n 1, 1) := by decide +kernel
theorem dX1_believedBehind_4 : decode cX1_believedBehind 4 = .ok (.if_icmp .ge 21, 3) := by decide +kernel
theorem dX1_believedBehind_7 : decode cX1_believedBehind 7 = .ok (.aload_n 0, 1) := by decide +kernel
theorem dX1_believedBehind_8 : decode cX1_believedBehind 8 = .ok (.getfield 34, 3) := by decide +kernel
theorem dX1_believedBehind_11 : decode cX1_believedBehind 11 = .ok (.aload_n 0, 1) := by decide +kernel
theorem dX1_believedBehind_12 : decode cX1_believedBehind 12 = .ok (.getfield 12, 3) := by decide +kernel
theorem dX1_believedBehind_15 : decode cX1_believedBehind 15 = .ok (.invokevirtual 58, 3) := by decide +kernel
theorem dX1_believedBehind_18 : decode cX1_believedBehind 18 = .ok (.pop, 1) := by decide +kernel
theorem dX1_believedBehind_19 : decode cX1_believedBehind 19 = .ok (.iinc 2 1, 3) := by decide +kernel
theorem dX1_believedBehind_22 : decode cX1_believedBehind 22 = .ok (.goto (-20), 3) := by decide +kernel
theorem dX1_believedBehind_25 : decode cX1_believedBehind 25 = .ok (.aload_n 0, 1) := by decide +kernel
theorem dX1_believedBehind_26 : decode cX1_believedBehind 26 = .ok (.getfield 34, 3) := by decide +kernel
theorem dX1_believedBehind_29 : decode cX1_believedBehind 29 = .ok (.aload_n 0, 1) := by decide +kernel
theorem dX1_believedBehind_30 : decode cX1_believedBehind 30 = .ok (.getfield 12, 3) := by decide +kernel
theorem dX1_believedBehind_33 : decode cX1_believedBehind 33 = .ok (.invokevirtual 64, 3) := by decide +kernel
theorem dX1_believedBehind_36 : decode cX1_believedBehind 36 = .ok (.ireturn, 1) := by decide +kernel
theorem dX1_firstUnlit_0 : decode cX1_firstUnlit 0 = .ok (.aload_n 0, 1) := by decide +kernel
theorem dX1_firstUnlit_1 : decode cX1_firstUnlit 1 = .ok (.invokevirtual 67, 3) := by decide +kernel
theorem dX1_firstUnlit_4 : decode cX1_firstUnlit 4 = .ok (.pop, 1) := by decide +kernel
theorem dX1_firstUnlit_5 : decode cX1_firstUnlit 5 = .ok (.aload_n 0, 1) := by decide +kernel
theorem dX1_firstUnlit_6 : decode cX1_firstUnlit 6 = .ok (.bipush 60, 2) := by decide +kernel
theorem dX1_firstUnlit_8 : decode cX1_firstUnlit 8 = .ok (.invokevirtual 50, 3) := by decide +kernel
theorem dX1_firstUnlit_11 : decode cX1_firstUnlit 11 = .ok (.istore_n 2, 1) := by decide +kernel
theorem dX1_firstUnlit_12 : decode cX1_firstUnlit 12 = .ok (.iconst 1, 1) := by decide +kernel
theorem dX1_firstUnlit_13 : decode cX1_firstUnlit 13 = .ok (.istore_n 3, 1) := by decide +kernel
theorem dX1_firstUnlit_14 : decode cX1_firstUnlit 14 = .ok (.iload_n 3, 1) := by decide +kernel
theorem dX1_firstUnlit_15 : decode cX1_firstUnlit 15 = .ok (.iload_n 2, 1) := by decide +kernel
theorem dX1_firstUnlit_16 : decode cX1_firstUnlit 16 = .ok (.if_icmp .gt 35, 3) := by decide +kernel
theorem dX1_firstUnlit_19 : decode cX1_firstUnlit 19 = .ok (.aload_n 0, 1) := by decide +kernel
theorem dX1_firstUnlit_20 : decode cX1_firstUnlit 20 = .ok (.getfield 34, 3) := by decide +kernel
theorem dX1_firstUnlit_23 : decode cX1_firstUnlit 23 = .ok (.aload_n 0, 1) := by decide +kernel
theorem dX1_firstUnlit_24 : decode cX1_firstUnlit 24 = .ok (.getfield 12, 3) := by decide +kernel
theorem dX1_firstUnlit_27 : decode cX1_firstUnlit 27 = .ok (.invokevirtual 58, 3) := by decide +kernel
theorem dX1_firstUnlit_30 : decode cX1_firstUnlit 30 = .ok (.pop, 1) := by decide +kernel
theorem dX1_firstUnlit_31 : decode cX1_firstUnlit 31 = .ok (.aload_n 0, 1) := by decide +kernel
theorem dX1_firstUnlit_32 : decode cX1_firstUnlit 32 = .ok (.getfield 12, 3) := by decide +kernel
theorem dX1_firstUnlit_35 : decode cX1_firstUnlit 35 = .ok (.getfield 71, 3) := by decide +kernel
theorem dX1_firstUnlit_38 : decode cX1_firstUnlit 38 = .ok (.iload_n 1, 1) := by decide +kernel
theorem dX1_firstUnlit_39 : decode cX1_firstUnlit 39 = .ok (.iaload, 1) := by decide +kernel
theorem dX1_firstUnlit_40 : decode cX1_firstUnlit 40 = .ok (.ifCond .ne 5, 3) := by decide +kernel
theorem dX1_firstUnlit_43 : decode cX1_firstUnlit 43 = .ok (.iload_n 3, 1) := by decide +kernel
theorem dX1_firstUnlit_44 : decode cX1_firstUnlit 44 = .ok (.ireturn, 1) := by decide +kernel
theorem dX1_firstUnlit_45 : decode cX1_firstUnlit 45 = .ok (.iinc 3 1, 3) := by decide +kernel
theorem dX1_firstUnlit_48 : decode cX1_firstUnlit 48 = .ok (.goto (-34), 3) := by decide +kernel
theorem dX1_firstUnlit_51 : decode cX1_firstUnlit 51 = .ok (.iconst (-1), 1) := by decide +kernel
theorem dX1_firstUnlit_52 : decode cX1_firstUnlit 52 = .ok (.ireturn, 1) := by decide +kernel
theorem dX1_firstTrust_0 : decode cX1_firstTrust 0 = .ok (.aload_n 0, 1) := by decide +kernel
theorem dX1_firstTrust_1 : decode cX1_firstTrust 1 = .ok (.invokevirtual 67, 3) := by decide +kernel
theorem dX1_firstTrust_4 : decode cX1_firstTrust 4 = .ok (.pop, 1) := by decide +kernel
theorem dX1_firstTrust_5 : decode cX1_firstTrust 5 = .ok (.aload_n 0, 1) := by decide +kernel
theorem dX1_firstTrust_6 : decode cX1_firstTrust 6 = .ok (.bipush 60, 2) := by decide +kernel
theorem dX1_firstTrust_8 : decode cX1_firstTrust 8 = .ok (.invokevirtual 50, 3) := by decide +kernel
theorem dX1_firstTrust_11 : decode cX1_firstTrust 11 = .ok (.istore_n 3, 1) := by decide +kernel
theorem dX1_firstTrust_12 : decode cX1_firstTrust 12 = .ok (.iconst 0, 1) := by decide +kernel
theorem dX1_firstTrust_13 : decode cX1_firstTrust 13 = .ok (.istore 4, 2) := by decide +kernel
theorem dX1_firstTrust_15 : decode cX1_firstTrust 15 = .ok (.iconst 0, 1) := by decide +kernel
theorem dX1_firstTrust_16 : decode cX1_firstTrust 16 = .ok (.istore 5, 2) := by decide +kernel
theorem dX1_firstTrust_18 : decode cX1_firstTrust 18 = .ok (.iload 5, 2) := by decide +kernel
theorem dX1_firstTrust_20 : decode cX1_firstTrust 20 = .ok (.iload_n 3, 1) := by decide +kernel
theorem dX1_firstTrust_21 : decode cX1_firstTrust 21 = .ok (.if_icmp .gt 89, 3) := by decide +kernel
theorem dX1_firstTrust_24 : decode cX1_firstTrust 24 = .ok (.aload_n 0, 1) := by decide +kernel
theorem dX1_firstTrust_25 : decode cX1_firstTrust 25 = .ok (.getfield 34, 3) := by decide +kernel
theorem dX1_firstTrust_28 : decode cX1_firstTrust 28 = .ok (.aload_n 0, 1) := by decide +kernel
theorem dX1_firstTrust_29 : decode cX1_firstTrust 29 = .ok (.getfield 12, 3) := by decide +kernel
theorem dX1_firstTrust_32 : decode cX1_firstTrust 32 = .ok (.invokevirtual 64, 3) := by decide +kernel
theorem dX1_firstTrust_35 : decode cX1_firstTrust 35 = .ok (.iload_n 1, 1) := by decide +kernel
theorem dX1_firstTrust_36 : decode cX1_firstTrust 36 = .ok (.ishr, 1) := by decide +kernel
theorem dX1_firstTrust_37 : decode cX1_firstTrust 37 = .ok (.iconst 1, 1) := by decide +kernel
theorem dX1_firstTrust_38 : decode cX1_firstTrust 38 = .ok (.iand, 1) := by decide +kernel
theorem dX1_firstTrust_39 : decode cX1_firstTrust 39 = .ok (.iconst 1, 1) := by decide +kernel
theorem dX1_firstTrust_40 : decode cX1_firstTrust 40 = .ok (.if_icmp .ne 7, 3) := by decide +kernel
theorem dX1_firstTrust_43 : decode cX1_firstTrust 43 = .ok (.iconst 1, 1) := by decide +kernel
theorem dX1_firstTrust_44 : decode cX1_firstTrust 44 = .ok (.goto 4, 3) := by decide +kernel
theorem dX1_firstTrust_47 : decode cX1_firstTrust 47 = .ok (.iconst 0, 1) := by decide +kernel
theorem dX1_firstTrust_48 : decode cX1_firstTrust 48 = .ok (.istore 6, 2) := by decide +kernel
theorem dX1_firstTrust_50 : decode cX1_firstTrust 50 = .ok (.iload_n 2, 1) := by decide +kernel
theorem dX1_firstTrust_51 : decode cX1_firstTrust 51 = .ok (.ifCond .eq 16, 3) := by decide +kernel
theorem dX1_firstTrust_54 : decode cX1_firstTrust 54 = .ok (.iload 4, 2) := by decide +kernel
theorem dX1_firstTrust_56 : decode cX1_firstTrust 56 = .ok (.ifCond .eq 19, 3) := by decide +kernel
theorem dX1_firstTrust_59 : decode cX1_firstTrust 59 = .ok (.iload 6, 2) := by decide +kernel
theorem dX1_firstTrust_61 : decode cX1_firstTrust 61 = .ok (.ifCond .ne 14, 3) := by decide +kernel
theorem dX1_firstTrust_64 : decode cX1_firstTrust 64 = .ok (.goto 8, 3) := by decide +kernel
theorem dX1_firstTrust_67 : decode cX1_firstTrust 67 = .ok (.iload 6, 2) := by decide +kernel
theorem dX1_firstTrust_69 : decode cX1_firstTrust 69 = .ok (.ifCond .eq 6, 3) := by decide +kernel
theorem dX1_firstTrust_72 : decode cX1_firstTrust 72 = .ok (.iload 5, 2) := by decide +kernel
theorem dX1_firstTrust_74 : decode cX1_firstTrust 74 = .ok (.ireturn, 1) := by decide +kernel
theorem dX1_firstTrust_75 : decode cX1_firstTrust 75 = .ok (.iload 4, 2) := by decide +kernel
theorem dX1_firstTrust_77 : decode cX1_firstTrust 77 = .ok (.ifCond .ne 8, 3) := by decide +kernel
theorem dX1_firstTrust_80 : decode cX1_firstTrust 80 = .ok (.iload 6, 2) := by decide +kernel
theorem dX1_firstTrust_82 : decode cX1_firstTrust 82 = .ok (.ifCond .eq 7, 3) := by decide +kernel
theorem dX1_firstTrust_85 : decode cX1_firstTrust 85 = .ok (.iconst 1, 1) := by decide +kernel
theorem dX1_firstTrust_86 : decode cX1_firstTrust 86 = .ok (.goto 4, 3) := by decide +kernel
theorem dX1_firstTrust_89 : decode cX1_firstTrust 89 = .ok (.iconst 0, 1) := by decide +kernel
theorem dX1_firstTrust_90 : decode cX1_firstTrust 90 = .ok (.istore 4, 2) := by decide +kernel
theorem dX1_firstTrust_92 : decode cX1_firstTrust 92 = .ok (.aload_n 0, 1) := by decide +kernel
theorem dX1_firstTrust_93 : decode cX1_firstTrust 93 = .ok (.getfield 34, 3) := by decide +kernel
theorem dX1_firstTrust_96 : decode cX1_firstTrust 96 = .ok (.aload_n 0, 1) := by decide +kernel
theorem dX1_firstTrust_97 : decode cX1_firstTrust 97 = .ok (.getfield 12, 3) := by decide +kernel
theorem dX1_firstTrust_100 : decode cX1_firstTrust 100 = .ok (.invokevirtual 58, 3) := by decide +kernel
theorem dX1_firstTrust_103 : decode cX1_firstTrust 103 = .ok (.pop, 1) := by decide +kernel
theorem dX1_firstTrust_104 : decode cX1_firstTrust 104 = .ok (.iinc 5 1, 3) := by decide +kernel
theorem dX1_firstTrust_107 : decode cX1_firstTrust 107 = .ok (.goto (-89), 3) := by decide +kernel
theorem dX1_firstTrust_110 : decode cX1_firstTrust 110 = .ok (.iconst (-1), 1) := by decide +kernel
theorem dX1_firstTrust_111 : decode cX1_firstTrust 111 = .ok (.ireturn, 1) := by decide +kernel
theorem dX1_shortCandle_0 : decode cX1_shortCandle 0 = .ok (.iload_n 1, 1) := by decide +kernel
theorem dX1_shortCandle_1 : decode cX1_shortCandle 1 = .ok (.aload_n 0, 1) := by decide +kernel
theorem dX1_shortCandle_2 : decode cX1_shortCandle 2 = .ok (.getfield 34, 3) := by decide +kernel
theorem dX1_shortCandle_5 : decode cX1_shortCandle 5 = .ok (.aload_n 0, 1) := by decide +kernel
theorem dX1_shortCandle_6 : decode cX1_shortCandle 6 = .ok (.getfield 38, 3) := by decide +kernel
theorem dX1_shortCandle_9 : decode cX1_shortCandle 9 = .ok (.invokevirtual 75, 3) := by decide +kernel
theorem dX1_shortCandle_12 : decode cX1_shortCandle 12 = .ok (.iconst (-1), 1) := by decide +kernel
theorem dX1_shortCandle_13 : decode cX1_shortCandle 13 = .ok (.ixor, 1) := by decide +kernel
theorem dX1_shortCandle_14 : decode cX1_shortCandle 14 = .ok (.iand, 1) := by decide +kernel
theorem dX1_shortCandle_15 : decode cX1_shortCandle 15 = .ok (.istore_n 3, 1) := by decide +kernel
theorem dX1_shortCandle_16 : decode cX1_shortCandle 16 = .ok (.iload_n 3, 1) := by decide +kernel
theorem dX1_shortCandle_17 : decode cX1_shortCandle 17 = .ok (.ifCond .ne 7, 3) := by decide +kernel
theorem dX1_shortCandle_20 : decode cX1_shortCandle 20 = .ok (.iconst 1, 1) := by decide +kernel
theorem dX1_shortCandle_21 : decode cX1_shortCandle 21 = .ok (.goto 5, 3) := by decide +kernel
theorem dX1_shortCandle_24 : decode cX1_shortCandle 24 = .ok (.bipush 99, 2) := by decide +kernel
theorem dX1_shortCandle_26 : decode cX1_shortCandle 26 = .ok (.istore 4, 2) := by decide +kernel
theorem dX1_shortCandle_28 : decode cX1_shortCandle 28 = .ok (.iconst 1, 1) := by decide +kernel
theorem dX1_shortCandle_29 : decode cX1_shortCandle 29 = .ok (.istore 5, 2) := by decide +kernel
theorem dX1_shortCandle_31 : decode cX1_shortCandle 31 = .ok (.iload 5, 2) := by decide +kernel
theorem dX1_shortCandle_33 : decode cX1_shortCandle 33 = .ok (.iload 4, 2) := by decide +kernel
theorem dX1_shortCandle_35 : decode cX1_shortCandle 35 = .ok (.if_icmp .gt 65, 3) := by decide +kernel
theorem dX1_shortCandle_38 : decode cX1_shortCandle 38 = .ok (.aload_n 0, 1) := by decide +kernel
theorem dX1_shortCandle_39 : decode cX1_shortCandle 39 = .ok (.invokevirtual 67, 3) := by decide +kernel
theorem dX1_shortCandle_42 : decode cX1_shortCandle 42 = .ok (.pop, 1) := by decide +kernel
theorem dX1_shortCandle_43 : decode cX1_shortCandle 43 = .ok (.iconst 0, 1) := by decide +kernel
theorem dX1_shortCandle_44 : decode cX1_shortCandle 44 = .ok (.istore 6, 2) := by decide +kernel
theorem dX1_shortCandle_46 : decode cX1_shortCandle 46 = .ok (.iload 6, 2) := by decide +kernel
theorem dX1_shortCandle_48 : decode cX1_shortCandle 48 = .ok (.bipush 8, 2) := by decide +kernel
theorem dX1_shortCandle_50 : decode cX1_shortCandle 50 = .ok (.if_icmp .ge 30, 3) := by decide +kernel
theorem dX1_shortCandle_53 : decode cX1_shortCandle 53 = .ok (.iload_n 3, 1) := by decide +kernel
theorem dX1_shortCandle_54 : decode cX1_shortCandle 54 = .ok (.iload 6, 2) := by decide +kernel
theorem dX1_shortCandle_56 : decode cX1_shortCandle 56 = .ok (.ishr, 1) := by decide +kernel
theorem dX1_shortCandle_57 : decode cX1_shortCandle 57 = .ok (.iconst 1, 1) := by decide +kernel
theorem dX1_shortCandle_58 : decode cX1_shortCandle 58 = .ok (.iand, 1) := by decide +kernel
theorem dX1_shortCandle_59 : decode cX1_shortCandle 59 = .ok (.iconst 1, 1) := by decide +kernel
theorem dX1_shortCandle_60 : decode cX1_shortCandle 60 = .ok (.if_icmp .ne 14, 3) := by decide +kernel
theorem dX1_shortCandle_63 : decode cX1_shortCandle 63 = .ok (.aload_n 0, 1) := by decide +kernel
theorem dX1_shortCandle_64 : decode cX1_shortCandle 64 = .ok (.getfield 12, 3) := by decide +kernel
theorem dX1_shortCandle_67 : decode cX1_shortCandle 67 = .ok (.iload 6, 2) := by decide +kernel
theorem dX1_shortCandle_69 : decode cX1_shortCandle 69 = .ok (.iload 5, 2) := by decide +kernel
theorem dX1_shortCandle_71 : decode cX1_shortCandle 71 = .ok (.invokevirtual 78, 3) := by decide +kernel
theorem dX1_shortCandle_74 : decode cX1_shortCandle 74 = .ok (.iinc 6 1, 3) := by decide +kernel
theorem dX1_shortCandle_77 : decode cX1_shortCandle 77 = .ok (.goto (-31), 3) := by decide +kernel
theorem dX1_shortCandle_80 : decode cX1_shortCandle 80 = .ok (.aload_n 0, 1) := by decide +kernel
theorem dX1_shortCandle_81 : decode cX1_shortCandle 81 = .ok (.iload_n 2, 1) := by decide +kernel
theorem dX1_shortCandle_82 : decode cX1_shortCandle 82 = .ok (.invokevirtual 82, 3) := by decide +kernel
theorem dX1_shortCandle_85 : decode cX1_shortCandle 85 = .ok (.iload_n 1, 1) := by decide +kernel
theorem dX1_shortCandle_86 : decode cX1_shortCandle 86 = .ok (.iand, 1) := by decide +kernel
theorem dX1_shortCandle_87 : decode cX1_shortCandle 87 = .ok (.iload_n 1, 1) := by decide +kernel
theorem dX1_shortCandle_88 : decode cX1_shortCandle 88 = .ok (.if_icmp .ne 6, 3) := by decide +kernel
theorem dX1_shortCandle_91 : decode cX1_shortCandle 91 = .ok (.iload 5, 2) := by decide +kernel
theorem dX1_shortCandle_93 : decode cX1_shortCandle 93 = .ok (.ireturn, 1) := by decide +kernel
theorem dX1_shortCandle_94 : decode cX1_shortCandle 94 = .ok (.iinc 5 1, 3) := by decide +kernel
theorem dX1_shortCandle_97 : decode cX1_shortCandle 97 = .ok (.goto (-66), 3) := by decide +kernel
theorem dX1_shortCandle_100 : decode cX1_shortCandle 100 = .ok (.iconst (-1), 1) := by decide +kernel
theorem dX1_shortCandle_101 : decode cX1_shortCandle 101 = .ok (.ireturn, 1) := by decide +kernel
theorem dX1_searchKeystone_0 : decode cX1_searchKeystone 0 = .ok (.aload_n 0, 1) := by decide +kernel
theorem dX1_searchKeystone_1 : decode cX1_searchKeystone 1 = .ok (.iconst (-1), 1) := by decide +kernel
theorem dX1_searchKeystone_2 : decode cX1_searchKeystone 2 = .ok (.putfield 18, 3) := by decide +kernel
theorem dX1_searchKeystone_5 : decode cX1_searchKeystone 5 = .ok (.aload_n 0, 1) := by decide +kernel
theorem dX1_searchKeystone_6 : decode cX1_searchKeystone 6 = .ok (.bipush 9, 2) := by decide +kernel
theorem dX1_searchKeystone_8 : decode cX1_searchKeystone 8 = .ok (.putfield 22, 3) := by decide +kernel
theorem dX1_searchKeystone_11 : decode cX1_searchKeystone 11 = .ok (.iconst 0, 1) := by decide +kernel
theorem dX1_searchKeystone_12 : decode cX1_searchKeystone 12 = .ok (.istore_n 2, 1) := by decide +kernel
theorem dX1_searchKeystone_13 : decode cX1_searchKeystone 13 = .ok (.iload_n 2, 1) := by decide +kernel
theorem dX1_searchKeystone_14 : decode cX1_searchKeystone 14 = .ok (.bipush 8, 2) := by decide +kernel
theorem dX1_searchKeystone_16 : decode cX1_searchKeystone 16 = .ok (.if_icmp .ge 57, 3) := by decide +kernel
theorem dX1_searchKeystone_19 : decode cX1_searchKeystone 19 = .ok (.aload_n 0, 1) := by decide +kernel
theorem dX1_searchKeystone_20 : decode cX1_searchKeystone 20 = .ok (.getfield 38, 3) := by decide +kernel
theorem dX1_searchKeystone_23 : decode cX1_searchKeystone 23 = .ok (.getfield 71, 3) := by decide +kernel
theorem dX1_searchKeystone_26 : decode cX1_searchKeystone 26 = .ok (.iload_n 2, 1) := by decide +kernel
theorem dX1_searchKeystone_27 : decode cX1_searchKeystone 27 = .ok (.iaload, 1) := by decide +kernel
theorem dX1_searchKeystone_28 : decode cX1_searchKeystone 28 = .ok (.ifCond .le 39, 3) := by decide +kernel
theorem dX1_searchKeystone_31 : decode cX1_searchKeystone 31 = .ok (.aload_n 0, 1) := by decide +kernel
theorem dX1_searchKeystone_32 : decode cX1_searchKeystone 32 = .ok (.invokevirtual 67, 3) := by decide +kernel
theorem dX1_searchKeystone_35 : decode cX1_searchKeystone 35 = .ok (.iload_n 2, 1) := by decide +kernel
theorem dX1_searchKeystone_36 : decode cX1_searchKeystone 36 = .ok (.invokevirtual 85, 3) := by decide +kernel
theorem dX1_searchKeystone_39 : decode cX1_searchKeystone 39 = .ok (.pop, 1) := by decide +kernel
theorem dX1_searchKeystone_40 : decode cX1_searchKeystone 40 = .ok (.aload_n 0, 1) := by decide +kernel
theorem dX1_searchKeystone_41 : decode cX1_searchKeystone 41 = .ok (.iload_n 1, 1) := by decide +kernel
theorem dX1_searchKeystone_42 : decode cX1_searchKeystone 42 = .ok (.invokevirtual 82, 3) := by decide +kernel
theorem dX1_searchKeystone_45 : decode cX1_searchKeystone 45 = .ok (.invokestatic 88, 3) := by decide +kernel
theorem dX1_searchKeystone_48 : decode cX1_searchKeystone 48 = .ok (.istore_n 3, 1) := by decide +kernel
theorem dX1_searchKeystone_49 : decode cX1_searchKeystone 49 = .ok (.iload_n 3, 1) := by decide +kernel
theorem dX1_searchKeystone_50 : decode cX1_searchKeystone 50 = .ok (.aload_n 0, 1) := by decide +kernel
theorem dX1_searchKeystone_51 : decode cX1_searchKeystone 51 = .ok (.getfield 22, 3) := by decide +kernel
theorem dX1_searchKeystone_54 : decode cX1_searchKeystone 54 = .ok (.if_icmp .ge 13, 3) := by decide +kernel
theorem dX1_searchKeystone_57 : decode cX1_searchKeystone 57 = .ok (.aload_n 0, 1) := by decide +kernel
theorem dX1_searchKeystone_58 : decode cX1_searchKeystone 58 = .ok (.iload_n 2, 1) := by decide +kernel
theorem dX1_searchKeystone_59 : decode cX1_searchKeystone 59 = .ok (.putfield 18, 3) := by decide +kernel
theorem dX1_searchKeystone_62 : decode cX1_searchKeystone 62 = .ok (.aload_n 0, 1) := by decide +kernel
theorem dX1_searchKeystone_63 : decode cX1_searchKeystone 63 = .ok (.iload_n 3, 1) := by decide +kernel
theorem dX1_searchKeystone_64 : decode cX1_searchKeystone 64 = .ok (.putfield 22, 3) := by decide +kernel
theorem dX1_searchKeystone_67 : decode cX1_searchKeystone 67 = .ok (.iinc 2 1, 3) := by decide +kernel
theorem dX1_searchKeystone_70 : decode cX1_searchKeystone 70 = .ok (.goto (-57), 3) := by decide +kernel
theorem dX1_searchKeystone_73 : decode cX1_searchKeystone 73 = .ok (.return_, 1) := by decide +kernel
theorem dX1_searchChange_0 : decode cX1_searchChange 0 = .ok (.aload_n 0, 1) := by decide +kernel
theorem dX1_searchChange_1 : decode cX1_searchChange 1 = .ok (.invokevirtual 67, 3) := by decide +kernel
theorem dX1_searchChange_4 : decode cX1_searchChange 4 = .ok (.pop, 1) := by decide +kernel
theorem dX1_searchChange_5 : decode cX1_searchChange 5 = .ok (.aload_n 0, 1) := by decide +kernel
theorem dX1_searchChange_6 : decode cX1_searchChange 6 = .ok (.iconst (-1), 1) := by decide +kernel
theorem dX1_searchChange_7 : decode cX1_searchChange 7 = .ok (.putfield 25, 3) := by decide +kernel
theorem dX1_searchChange_10 : decode cX1_searchChange 10 = .ok (.aload_n 0, 1) := by decide +kernel
theorem dX1_searchChange_11 : decode cX1_searchChange 11 = .ok (.iconst (-1), 1) := by decide +kernel
theorem dX1_searchChange_12 : decode cX1_searchChange 12 = .ok (.putfield 28, 3) := by decide +kernel
theorem dX1_searchChange_15 : decode cX1_searchChange 15 = .ok (.aload_n 0, 1) := by decide +kernel
theorem dX1_searchChange_16 : decode cX1_searchChange 16 = .ok (.aload_n 0, 1) := by decide +kernel
theorem dX1_searchChange_17 : decode cX1_searchChange 17 = .ok (.iload_n 1, 1) := by decide +kernel
theorem dX1_searchChange_18 : decode cX1_searchChange 18 = .ok (.invokevirtual 82, 3) := by decide +kernel
theorem dX1_searchChange_21 : decode cX1_searchChange 21 = .ok (.invokestatic 88, 3) := by decide +kernel
theorem dX1_searchChange_24 : decode cX1_searchChange 24 = .ok (.putfield 31, 3) := by decide +kernel
theorem dX1_searchChange_27 : decode cX1_searchChange 27 = .ok (.aload_n 0, 1) := by decide +kernel
theorem dX1_searchChange_28 : decode cX1_searchChange 28 = .ok (.getfield 34, 3) := by decide +kernel
theorem dX1_searchChange_31 : decode cX1_searchChange 31 = .ok (.getfield 93, 3) := by decide +kernel
theorem dX1_searchChange_34 : decode cX1_searchChange 34 = .ok (.getfield 97, 3) := by decide +kernel
theorem dX1_searchChange_37 : decode cX1_searchChange 37 = .ok (.istore_n 2, 1) := by decide +kernel
theorem dX1_searchChange_38 : decode cX1_searchChange 38 = .ok (.iconst 0, 1) := by decide +kernel
theorem dX1_searchChange_39 : decode cX1_searchChange 39 = .ok (.istore_n 3, 1) := by decide +kernel
theorem dX1_searchChange_40 : decode cX1_searchChange 40 = .ok (.iload_n 3, 1) := by decide +kernel
theorem dX1_searchChange_41 : decode cX1_searchChange 41 = .ok (.iload_n 2, 1) := by decide +kernel
theorem dX1_searchChange_42 : decode cX1_searchChange 42 = .ok (.if_icmp .ge 77, 3) := by decide +kernel
theorem dX1_searchChange_45 : decode cX1_searchChange 45 = .ok (.iload_n 3, 1) := by decide +kernel
theorem dX1_searchChange_46 : decode cX1_searchChange 46 = .ok (.iconst 1, 1) := by decide +kernel
theorem dX1_searchChange_47 : decode cX1_searchChange 47 = .ok (.iadd, 1) := by decide +kernel
theorem dX1_searchChange_48 : decode cX1_searchChange 48 = .ok (.istore 4, 2) := by decide +kernel
theorem dX1_searchChange_50 : decode cX1_searchChange 50 = .ok (.iload 4, 2) := by decide +kernel
theorem dX1_searchChange_52 : decode cX1_searchChange 52 = .ok (.iload_n 2, 1) := by decide +kernel
theorem dX1_searchChange_53 : decode cX1_searchChange 53 = .ok (.if_icmp .ge 60, 3) := by decide +kernel
theorem dX1_searchChange_56 : decode cX1_searchChange 56 = .ok (.aload_n 0, 1) := by decide +kernel
theorem dX1_searchChange_57 : decode cX1_searchChange 57 = .ok (.invokevirtual 67, 3) := by decide +kernel
theorem dX1_searchChange_60 : decode cX1_searchChange 60 = .ok (.pop, 1) := by decide +kernel
theorem dX1_searchChange_61 : decode cX1_searchChange 61 = .ok (.aload_n 0, 1) := by decide +kernel
theorem dX1_searchChange_62 : decode cX1_searchChange 62 = .ok (.getfield 12, 3) := by decide +kernel
theorem dX1_searchChange_65 : decode cX1_searchChange 65 = .ok (.iload_n 3, 1) := by decide +kernel
theorem dX1_searchChange_66 : decode cX1_searchChange 66 = .ok (.iload 4, 2) := by decide +kernel
theorem dX1_searchChange_68 : decode cX1_searchChange 68 = .ok (.invokevirtual 102, 3) := by decide +kernel
theorem dX1_searchChange_71 : decode cX1_searchChange 71 = .ok (.aload_n 0, 1) := by decide +kernel
theorem dX1_searchChange_72 : decode cX1_searchChange 72 = .ok (.iload_n 1, 1) := by decide +kernel
theorem dX1_searchChange_73 : decode cX1_searchChange 73 = .ok (.invokevirtual 82, 3) := by decide +kernel
theorem dX1_searchChange_76 : decode cX1_searchChange 76 = .ok (.invokestatic 88, 3) := by decide +kernel
theorem dX1_searchChange_79 : decode cX1_searchChange 79 = .ok (.istore 5, 2) := by decide +kernel
theorem dX1_searchChange_81 : decode cX1_searchChange 81 = .ok (.iload 5, 2) := by decide +kernel
theorem dX1_searchChange_83 : decode cX1_searchChange 83 = .ok (.aload_n 0, 1) := by decide +kernel
theorem dX1_searchChange_84 : decode cX1_searchChange 84 = .ok (.getfield 31, 3) := by decide +kernel
theorem dX1_searchChange_87 : decode cX1_searchChange 87 = .ok (.if_icmp .le 20, 3) := by decide +kernel
theorem dX1_searchChange_90 : decode cX1_searchChange 90 = .ok (.aload_n 0, 1) := by decide +kernel
theorem dX1_searchChange_91 : decode cX1_searchChange 91 = .ok (.iload_n 3, 1) := by decide +kernel
theorem dX1_searchChange_92 : decode cX1_searchChange 92 = .ok (.putfield 25, 3) := by decide +kernel
theorem dX1_searchChange_95 : decode cX1_searchChange 95 = .ok (.aload_n 0, 1) := by decide +kernel
theorem dX1_searchChange_96 : decode cX1_searchChange 96 = .ok (.iload 4, 2) := by decide +kernel
theorem dX1_searchChange_98 : decode cX1_searchChange 98 = .ok (.putfield 28, 3) := by decide +kernel
theorem dX1_searchChange_101 : decode cX1_searchChange 101 = .ok (.aload_n 0, 1) := by decide +kernel
theorem dX1_searchChange_102 : decode cX1_searchChange 102 = .ok (.iload 5, 2) := by decide +kernel
theorem dX1_searchChange_104 : decode cX1_searchChange 104 = .ok (.putfield 31, 3) := by decide +kernel
theorem dX1_searchChange_107 : decode cX1_searchChange 107 = .ok (.iinc 4 1, 3) := by decide +kernel
theorem dX1_searchChange_110 : decode cX1_searchChange 110 = .ok (.goto (-60), 3) := by decide +kernel
theorem dX1_searchChange_113 : decode cX1_searchChange 113 = .ok (.iinc 3 1, 3) := by decide +kernel
theorem dX1_searchChange_116 : decode cX1_searchChange 116 = .ok (.goto (-76), 3) := by decide +kernel
theorem dX1_searchChange_119 : decode cX1_searchChange 119 = .ok (.return_, 1) := by decide +kernel
theorem dX1_oddsOf_0 : decode cX1_oddsOf 0 = .ok (.aload_n 0, 1) := by decide +kernel
theorem dX1_oddsOf_1 : decode cX1_oddsOf 1 = .ok (.getfield 34, 3) := by decide +kernel
theorem dX1_oddsOf_4 : decode cX1_oddsOf 4 = .ok (.getfield 93, 3) := by decide +kernel
theorem dX1_oddsOf_7 : decode cX1_oddsOf 7 = .ok (.getfield 105, 3) := by decide +kernel
theorem dX1_oddsOf_10 : decode cX1_oddsOf 10 = .ok (.istore_n 2, 1) := by decide +kernel
theorem dX1_oddsOf_11 : decode cX1_oddsOf 11 = .ok (.aload_n 0, 1) := by decide +kernel
theorem dX1_oddsOf_12 : decode cX1_oddsOf 12 = .ok (.getfield 34, 3) := by decide +kernel
theorem dX1_oddsOf_15 : decode cX1_oddsOf 15 = .ok (.getfield 93, 3) := by decide +kernel
theorem dX1_oddsOf_18 : decode cX1_oddsOf 18 = .ok (.getfield 108, 3) := by decide +kernel
theorem dX1_oddsOf_21 : decode cX1_oddsOf 21 = .ok (.istore_n 3, 1) := by decide +kernel
theorem dX1_oddsOf_22 : decode cX1_oddsOf 22 = .ok (.aload_n 0, 1) := by decide +kernel
theorem dX1_oddsOf_23 : decode cX1_oddsOf 23 = .ok (.invokevirtual 67, 3) := by decide +kernel
theorem dX1_oddsOf_26 : decode cX1_oddsOf 26 = .ok (.pop, 1) := by decide +kernel
theorem dX1_oddsOf_27 : decode cX1_oddsOf 27 = .ok (.bipush 100, 2) := by decide +kernel
theorem dX1_oddsOf_29 : decode cX1_oddsOf 29 = .ok (.iload_n 3, 1) := by decide +kernel
theorem dX1_oddsOf_30 : decode cX1_oddsOf 30 = .ok (.isub, 1) := by decide +kernel
theorem dX1_oddsOf_31 : decode cX1_oddsOf 31 = .ok (.iload_n 2, 1) := by decide +kernel
theorem dX1_oddsOf_32 : decode cX1_oddsOf 32 = .ok (.imul, 1) := by decide +kernel
theorem dX1_oddsOf_33 : decode cX1_oddsOf 33 = .ok (.aload_n 0, 1) := by decide +kernel
theorem dX1_oddsOf_34 : decode cX1_oddsOf 34 = .ok (.iconst 1, 1) := by decide +kernel
theorem dX1_oddsOf_35 : decode cX1_oddsOf 35 = .ok (.invokevirtual 82, 3) := by decide +kernel
theorem dX1_oddsOf_38 : decode cX1_oddsOf 38 = .ok (.iload_n 1, 1) := by decide +kernel
theorem dX1_oddsOf_39 : decode cX1_oddsOf 39 = .ok (.ishr, 1) := by decide +kernel
theorem dX1_oddsOf_40 : decode cX1_oddsOf 40 = .ok (.iconst 1, 1) := by decide +kernel
theorem dX1_oddsOf_41 : decode cX1_oddsOf 41 = .ok (.iand, 1) := by decide +kernel
theorem dX1_oddsOf_42 : decode cX1_oddsOf 42 = .ok (.imul, 1) := by decide +kernel
theorem dX1_oddsOf_43 : decode cX1_oddsOf 43 = .ok (.istore 4, 2) := by decide +kernel
theorem dX1_oddsOf_45 : decode cX1_oddsOf 45 = .ok (.iconst 0, 1) := by decide +kernel
theorem dX1_oddsOf_46 : decode cX1_oddsOf 46 = .ok (.istore 5, 2) := by decide +kernel
theorem dX1_oddsOf_48 : decode cX1_oddsOf 48 = .ok (.iload 5, 2) := by decide +kernel
theorem dX1_oddsOf_50 : decode cX1_oddsOf 50 = .ok (.iload_n 2, 1) := by decide +kernel
theorem dX1_oddsOf_51 : decode cX1_oddsOf 51 = .ok (.if_icmp .ge 44, 3) := by decide +kernel
theorem dX1_oddsOf_54 : decode cX1_oddsOf 54 = .ok (.aload_n 0, 1) := by decide +kernel
theorem dX1_oddsOf_55 : decode cX1_oddsOf 55 = .ok (.invokevirtual 67, 3) := by decide +kernel
theorem dX1_oddsOf_58 : decode cX1_oddsOf 58 = .ok (.pop, 1) := by decide +kernel
theorem dX1_oddsOf_59 : decode cX1_oddsOf 59 = .ok (.aload_n 0, 1) := by decide +kernel
theorem dX1_oddsOf_60 : decode cX1_oddsOf 60 = .ok (.getfield 34, 3) := by decide +kernel
theorem dX1_oddsOf_63 : decode cX1_oddsOf 63 = .ok (.aload_n 0, 1) := by decide +kernel
theorem dX1_oddsOf_64 : decode cX1_oddsOf 64 = .ok (.getfield 12, 3) := by decide +kernel
theorem dX1_oddsOf_67 : decode cX1_oddsOf 67 = .ok (.iload 5, 2) := by decide +kernel
theorem dX1_oddsOf_69 : decode cX1_oddsOf 69 = .ok (.invokevirtual 111, 3) := by decide +kernel
theorem dX1_oddsOf_72 : decode cX1_oddsOf 72 = .ok (.pop, 1) := by decide +kernel
theorem dX1_oddsOf_73 : decode cX1_oddsOf 73 = .ok (.iload 4, 2) := by decide +kernel
theorem dX1_oddsOf_75 : decode cX1_oddsOf 75 = .ok (.iload_n 3, 1) := by decide +kernel
theorem dX1_oddsOf_76 : decode cX1_oddsOf 76 = .ok (.aload_n 0, 1) := by decide +kernel
theorem dX1_oddsOf_77 : decode cX1_oddsOf 77 = .ok (.iconst 1, 1) := by decide +kernel
theorem dX1_oddsOf_78 : decode cX1_oddsOf 78 = .ok (.invokevirtual 82, 3) := by decide +kernel
theorem dX1_oddsOf_81 : decode cX1_oddsOf 81 = .ok (.iload_n 1, 1) := by decide +kernel
theorem dX1_oddsOf_82 : decode cX1_oddsOf 82 = .ok (.ishr, 1) := by decide +kernel
theorem dX1_oddsOf_83 : decode cX1_oddsOf 83 = .ok (.iconst 1, 1) := by decide +kernel
theorem dX1_oddsOf_84 : decode cX1_oddsOf 84 = .ok (.iand, 1) := by decide +kernel
theorem dX1_oddsOf_85 : decode cX1_oddsOf 85 = .ok (.imul, 1) := by decide +kernel
theorem dX1_oddsOf_86 : decode cX1_oddsOf 86 = .ok (.iadd, 1) := by decide +kernel
theorem dX1_oddsOf_87 : decode cX1_oddsOf 87 = .ok (.istore 4, 2) := by decide +kernel
theorem dX1_oddsOf_89 : decode cX1_oddsOf 89 = .ok (.iinc 5 1, 3) := by decide +kernel
theorem dX1_oddsOf_92 : decode cX1_oddsOf 92 = .ok (.goto (-44), 3) := by decide +kernel
theorem dX1_oddsOf_95 : decode cX1_oddsOf 95 = .ok (.iload 4, 2) := by decide +kernel
theorem dX1_oddsOf_97 : decode cX1_oddsOf 97 = .ok (.ireturn, 1) := by decide +kernel
theorem dX2_init_0 : decode cX2_init 0 = .ok (.aload_n 0, 1) := by decide +kernel
theorem dX2_init_1 : decode cX2_init 1 = .ok (.invokespecial 3, 3) := by decide +kernel
theorem dX2_init_4 : decode cX2_init 4 = .ok (.aload_n 0, 1) := by decide +kernel
theorem dX2_init_5 : decode cX2_init 5 = .ok (.bipush 40, 2) := by decide +kernel
theorem dX2_init_7 : decode cX2_init 7 = .ok (.newarray .int, 2) := by decide +kernel
theorem dX2_init_9 : decode cX2_init 9 = .ok (.putfield 9, 3) := by decide +kernel
theorem dX2_init_12 : decode cX2_init 12 = .ok (.aload_n 0, 1) := by decide +kernel
theorem dX2_init_13 : decode cX2_init 13 = .ok (.bipush 40, 2) := by decide +kernel
theorem dX2_init_15 : decode cX2_init 15 = .ok (.newarray .int, 2) := by decide +kernel
theorem dX2_init_17 : decode cX2_init 17 = .ok (.putfield 15, 3) := by decide +kernel
theorem dX2_init_20 : decode cX2_init 20 = .ok (.aload_n 0, 1) := by decide +kernel
theorem dX2_init_21 : decode cX2_init 21 = .ok (.iconst 0, 1) := by decide +kernel
theorem dX2_init_22 : decode cX2_init 22 = .ok (.putfield 18, 3) := by decide +kernel
theorem dX2_init_25 : decode cX2_init 25 = .ok (.aload_n 0, 1) := by decide +kernel
theorem dX2_init_26 : decode cX2_init 26 = .ok (.iconst 0, 1) := by decide +kernel
theorem dX2_init_27 : decode cX2_init 27 = .ok (.putfield 22, 3) := by decide +kernel
theorem dX2_init_30 : decode cX2_init 30 = .ok (.return_, 1) := by decide +kernel
theorem dX2_copyFrom_0 : decode cX2_copyFrom 0 = .ok (.aload_n 0, 1) := by decide +kernel
theorem dX2_copyFrom_1 : decode cX2_copyFrom 1 = .ok (.aload_n 1, 1) := by decide +kernel
theorem dX2_copyFrom_2 : decode cX2_copyFrom 2 = .ok (.getfield 18, 3) := by decide +kernel
theorem dX2_copyFrom_5 : decode cX2_copyFrom 5 = .ok (.putfield 18, 3) := by decide +kernel
theorem dX2_copyFrom_8 : decode cX2_copyFrom 8 = .ok (.aload_n 0, 1) := by decide +kernel
theorem dX2_copyFrom_9 : decode cX2_copyFrom 9 = .ok (.aload_n 1, 1) := by decide +kernel
theorem dX2_copyFrom_10 : decode cX2_copyFrom 10 = .ok (.getfield 22, 3) := by decide +kernel
theorem dX2_copyFrom_13 : decode cX2_copyFrom 13 = .ok (.putfield 22, 3) := by decide +kernel
theorem dX2_copyFrom_16 : decode cX2_copyFrom 16 = .ok (.aload_n 1, 1) := by decide +kernel
theorem dX2_copyFrom_17 : decode cX2_copyFrom 17 = .ok (.getfield 9, 3) := by decide +kernel
theorem dX2_copyFrom_20 : decode cX2_copyFrom 20 = .ok (.iconst 0, 1) := by decide +kernel
theorem dX2_copyFrom_21 : decode cX2_copyFrom 21 = .ok (.aload_n 0, 1) := by decide +kernel
theorem dX2_copyFrom_22 : decode cX2_copyFrom 22 = .ok (.getfield 9, 3) := by decide +kernel
theorem dX2_copyFrom_25 : decode cX2_copyFrom 25 = .ok (.iconst 0, 1) := by decide +kernel
theorem dX2_copyFrom_26 : decode cX2_copyFrom 26 = .ok (.bipush 40, 2) := by decide +kernel
theorem dX2_copyFrom_28 : decode cX2_copyFrom 28 = .ok (.invokestatic 25, 3) := by decide +kernel
theorem dX2_copyFrom_31 : decode cX2_copyFrom 31 = .ok (.aload_n 1, 1) := by decide +kernel
theorem dX2_copyFrom_32 : decode cX2_copyFrom 32 = .ok (.getfield 15, 3) := by decide +kernel
theorem dX2_copyFrom_35 : decode cX2_copyFrom 35 = .ok (.iconst 0, 1) := by decide +kernel
theorem dX2_copyFrom_36 : decode cX2_copyFrom 36 = .ok (.aload_n 0, 1) := by decide +kernel
theorem dX2_copyFrom_37 : decode cX2_copyFrom 37 = .ok (.getfield 15, 3) := by decide +kernel
theorem dX2_copyFrom_40 : decode cX2_copyFrom 40 = .ok (.iconst 0, 1) := by decide +kernel
theorem dX2_copyFrom_41 : decode cX2_copyFrom 41 = .ok (.bipush 40, 2) := by decide +kernel
theorem dX2_copyFrom_43 : decode cX2_copyFrom 43 = .ok (.invokestatic 25, 3) := by decide +kernel
theorem dX2_copyFrom_46 : decode cX2_copyFrom 46 = .ok (.return_, 1) := by decide +kernel
theorem dX2_addAll_0 : decode cX2_addAll 0 = .ok (.iconst 0, 1) := by decide +kernel
theorem dX2_addAll_1 : decode cX2_addAll 1 = .ok (.istore_n 3, 1) := by decide +kernel
theorem dX2_addAll_2 : decode cX2_addAll 2 = .ok (.iload_n 3, 1) := by decide +kernel
theorem dX2_addAll_3 : decode cX2_addAll 3 = .ok (.bipush 8, 2) := by decide +kernel
theorem dX2_addAll_5 : decode cX2_addAll 5 = .ok (.if_icmp .ge 24, 3) := by decide +kernel
theorem dX2_addAll_8 : decode cX2_addAll 8 = .ok (.iload_n 2, 1) := by decide +kernel
theorem dX2_addAll_9 : decode cX2_addAll 9 = .ok (.iload_n 3, 1) := by decide +kernel
theorem dX2_addAll_10 : decode cX2_addAll 10 = .ok (.ishr, 1) := by decide +kernel
theorem dX2_addAll_11 : decode cX2_addAll 11 = .ok (.iconst 1, 1) := by decide +kernel
theorem dX2_addAll_12 : decode cX2_addAll 12 = .ok (.iand, 1) := by decide +kernel
theorem dX2_addAll_13 : decode cX2_addAll 13 = .ok (.iconst 1, 1) := by decide +kernel
theorem dX2_addAll_14 : decode cX2_addAll 14 = .ok (.if_icmp .ne 9, 3) := by decide +kernel
theorem dX2_addAll_17 : decode cX2_addAll 17 = .ok (.aload_n 0, 1) := by decide +kernel
theorem dX2_addAll_18 : decode cX2_addAll 18 = .ok (.iload_n 1, 1) := by decide +kernel
theorem dX2_addAll_19 : decode cX2_addAll 19 = .ok (.iload_n 3, 1) := by decide +kernel
theorem dX2_addAll_20 : decode cX2_addAll 20 = .ok (.invokevirtual 31, 3) := by decide +kernel
theorem dX2_addAll_23 : decode cX2_addAll 23 = .ok (.iinc 3 1, 3) := by decide +kernel
theorem dX2_addAll_26 : decode cX2_addAll 26 = .ok (.goto (-24), 3) := by decide +kernel
theorem dX2_addAll_29 : decode cX2_addAll 29 = .ok (.return_, 1) := by decide +kernel
theorem dX2_add_0 : decode cX2_add 0 = .ok (.aload_n 0, 1) := by decide +kernel
theorem dX2_add_1 : decode cX2_add 1 = .ok (.getfield 18, 3) := by decide +kernel
theorem dX2_add_4 : decode cX2_add 4 = .ok (.aload_n 0, 1) := by decide +kernel
theorem dX2_add_5 : decode cX2_add 5 = .ok (.getfield 22, 3) := by decide +kernel
theorem dX2_add_8 : decode cX2_add 8 = .ok (.iadd, 1) := by decide +kernel
theorem dX2_add_9 : decode cX2_add 9 = .ok (.bipush 40, 2) := by decide +kernel
theorem dX2_add_11 : decode cX2_add 11 = .ok (.irem, 1) := by decide +kernel
theorem dX2_add_12 : decode cX2_add 12 = .ok (.istore_n 3, 1) := by decide +kernel
theorem dX2_add_13 : decode cX2_add 13 = .ok (.aload_n 0, 1) := by decide +kernel
theorem dX2_add_14 : decode cX2_add 14 = .ok (.getfield 9, 3) := by decide +kernel
theorem dX2_add_17 : decode cX2_add 17 = .ok (.iload_n 3, 1) := by decide +kernel
theorem dX2_add_18 : decode cX2_add 18 = .ok (.iload_n 1, 1) := by decide +kernel
theorem dX2_add_19 : decode cX2_add 19 = .ok (.iastore, 1) := by decide +kernel
theorem dX2_add_20 : decode cX2_add 20 = .ok (.aload_n 0, 1) := by decide +kernel
theorem dX2_add_21 : decode cX2_add 21 = .ok (.getfield 15, 3) := by decide +kernel
theorem dX2_add_24 : decode cX2_add 24 = .ok (.iload_n 3, 1) := by decide +kernel
theorem dX2_add_25 : decode cX2_add 25 = .ok (.iload_n 2, 1) := by decide +kernel
theorem dX2_add_26 : decode cX2_add 26 = .ok (.iastore, 1) := by decide +kernel
theorem dX2_add_27 : decode cX2_add 27 = .ok (.aload_n 0, 1) := by decide +kernel
theorem dX2_add_28 : decode cX2_add 28 = .ok (.getfield 22, 3) := by decide +kernel
theorem dX2_add_31 : decode cX2_add 31 = .ok (.bipush 40, 2) := by decide +kernel
theorem dX2_add_33 : decode cX2_add 33 = .ok (.if_icmp .ge 16, 3) := by decide +kernel
theorem dX2_add_36 : decode cX2_add 36 = .ok (.aload_n 0, 1) := by decide +kernel
theorem dX2_add_37 : decode cX2_add 37 = .ok (.dup, 1) := by decide +kernel
theorem dX2_add_38 : decode cX2_add 38 = .ok (.getfield 22, 3) := by decide +kernel
theorem dX2_add_41 : decode cX2_add 41 = .ok (.iconst 1, 1) := by decide +kernel
theorem dX2_add_42 : decode cX2_add 42 = .ok (.iadd, 1) := by decide +kernel
theorem dX2_add_43 : decode cX2_add 43 = .ok (.putfield 22, 3) := by decide +kernel
theorem dX2_add_46 : decode cX2_add 46 = .ok (.goto 16, 3) := by decide +kernel
theorem dX2_add_49 : decode cX2_add 49 = .ok (.aload_n 0, 1) := by decide +kernel
theorem dX2_add_50 : decode cX2_add 50 = .ok (.aload_n 0, 1) := by decide +kernel
theorem dX2_add_51 : decode cX2_add 51 = .ok (.getfield 18, 3) := by decide +kernel
theorem dX2_add_54 : decode cX2_add 54 = .ok (.iconst 1, 1) := by decide +kernel
theorem dX2_add_55 : decode cX2_add 55 = .ok (.iadd, 1) := by decide +kernel
theorem dX2_add_56 : decode cX2_add 56 = .ok (.bipush 40, 2) := by decide +kernel
theorem dX2_add_58 : decode cX2_add 58 = .ok (.irem, 1) := by decide +kernel
theorem dX2_add_59 : decode cX2_add 59 = .ok (.putfield 18, 3) := by decide +kernel
theorem dX2_add_62 : decode cX2_add 62 = .ok (.return_, 1) := by decide +kernel
theorem dX2_hourOf_0 : decode cX2_hourOf 0 = .ok (.aload_n 0, 1) := by decide +kernel
theorem dX2_hourOf_1 : decode cX2_hourOf 1 = .ok (.getfield 9, 3) := by decide +kernel
theorem dX2_hourOf_4 : decode cX2_hourOf 4 = .ok (.aload_n 0, 1) := by decide +kernel
theorem dX2_hourOf_5 : decode cX2_hourOf 5 = .ok (.getfield 18, 3) := by decide +kernel
theorem dX2_hourOf_8 : decode cX2_hourOf 8 = .ok (.iload_n 1, 1) := by decide +kernel
theorem dX2_hourOf_9 : decode cX2_hourOf 9 = .ok (.iadd, 1) := by decide +kernel
theorem dX2_hourOf_10 : decode cX2_hourOf 10 = .ok (.bipush 40, 2) := by decide +kernel
theorem dX2_hourOf_12 : decode cX2_hourOf 12 = .ok (.irem, 1) := by decide +kernel
theorem dX2_hourOf_13 : decode cX2_hourOf 13 = .ok (.iaload, 1) := by decide +kernel
theorem dX2_hourOf_14 : decode cX2_hourOf 14 = .ok (.ireturn, 1) := by decide +kernel
theorem dX2_lieOf_0 : decode cX2_lieOf 0 = .ok (.aload_n 0, 1) := by decide +kernel
theorem dX2_lieOf_1 : decode cX2_lieOf 1 = .ok (.getfield 15, 3) := by decide +kernel
theorem dX2_lieOf_4 : decode cX2_lieOf 4 = .ok (.aload_n 0, 1) := by decide +kernel
theorem dX2_lieOf_5 : decode cX2_lieOf 5 = .ok (.getfield 18, 3) := by decide +kernel
theorem dX2_lieOf_8 : decode cX2_lieOf 8 = .ok (.iload_n 1, 1) := by decide +kernel
theorem dX2_lieOf_9 : decode cX2_lieOf 9 = .ok (.iadd, 1) := by decide +kernel
theorem dX2_lieOf_10 : decode cX2_lieOf 10 = .ok (.bipush 40, 2) := by decide +kernel
theorem dX2_lieOf_12 : decode cX2_lieOf 12 = .ok (.irem, 1) := by decide +kernel
theorem dX2_lieOf_13 : decode cX2_lieOf 13 = .ok (.iaload, 1) := by decide +kernel
theorem dX2_lieOf_14 : decode cX2_lieOf 14 = .ok (.ireturn, 1) := by decide +kernel
theorem dX3_init_0 : decode cX3_init 0 = .ok (.aload_n 0, 1) := by decide +kernel
theorem dX3_init_1 : decode cX3_init 1 = .ok (.invokespecial 3, 3) := by decide +kernel
theorem dX3_init_4 : decode cX3_init 4 = .ok (.aload_n 0, 1) := by decide +kernel
theorem dX3_init_5 : decode cX3_init 5 = .ok (.bipush 20, 2) := by decide +kernel
theorem dX3_init_7 : decode cX3_init 7 = .ok (.anewarray 9, 3) := by decide +kernel
theorem dX3_init_10 : decode cX3_init 10 = .ok (.putfield 11, 3) := by decide +kernel
theorem dX3_init_13 : decode cX3_init 13 = .ok (.aload_n 0, 1) := by decide +kernel
theorem dX3_init_14 : decode cX3_init 14 = .ok (.bipush 20, 2) := by decide +kernel
theorem dX3_init_16 : decode cX3_init 16 = .ok (.anewarray 17, 3) := by decide +kernel
theorem dX3_init_19 : decode cX3_init 19 = .ok (.putfield 19, 3) := by decide +kernel
theorem dX3_init_22 : decode cX3_init 22 = .ok (.aload_n 0, 1) := by decide +kernel
theorem dX3_init_23 : decode cX3_init 23 = .ok (.iconst 0, 1) := by decide +kernel
theorem dX3_init_24 : decode cX3_init 24 = .ok (.putfield 23, 3) := by decide +kernel
theorem dX3_init_27 : decode cX3_init 27 = .ok (.aload_n 0, 1) := by decide +kernel
theorem dX3_init_28 : decode cX3_init 28 = .ok (.iconst 0, 1) := by decide +kernel
theorem dX3_init_29 : decode cX3_init 29 = .ok (.putfield 27, 3) := by decide +kernel
theorem dX3_init_32 : decode cX3_init 32 = .ok (.iconst 0, 1) := by decide +kernel
theorem dX3_init_33 : decode cX3_init 33 = .ok (.istore_n 1, 1) := by decide +kernel
theorem dX3_init_34 : decode cX3_init 34 = .ok (.iload_n 1, 1) := by decide +kernel
theorem dX3_init_35 : decode cX3_init 35 = .ok (.bipush 20, 2) := by decide +kernel
theorem dX3_init_37 : decode cX3_init 37 = .ok (.if_icmp .ge 35, 3) := by decide +kernel
theorem dX3_init_40 : decode cX3_init 40 = .ok (.aload_n 0, 1) := by decide +kernel
theorem dX3_init_41 : decode cX3_init 41 = .ok (.getfield 11, 3) := by decide +kernel
theorem dX3_init_44 : decode cX3_init 44 = .ok (.iload_n 1, 1) := by decide +kernel
theorem dX3_init_45 : decode cX3_init 45 = .ok (.new 9, 3) := by decide +kernel
theorem dX3_init_48 : decode cX3_init 48 = .ok (.dup, 1) := by decide +kernel
theorem dX3_init_49 : decode cX3_init 49 = .ok (.invokespecial 30, 3) := by decide +kernel
theorem dX3_init_52 : decode cX3_init 52 = .ok (.aastore, 1) := by decide +kernel
theorem dX3_init_53 : decode cX3_init 53 = .ok (.aload_n 0, 1) := by decide +kernel
theorem dX3_init_54 : decode cX3_init 54 = .ok (.getfield 19, 3) := by decide +kernel
theorem dX3_init_57 : decode cX3_init 57 = .ok (.iload_n 1, 1) := by decide +kernel
theorem dX3_init_58 : decode cX3_init 58 = .ok (.new 17, 3) := by decide +kernel
theorem dX3_init_61 : decode cX3_init 61 = .ok (.dup, 1) := by decide +kernel
theorem dX3_init_62 : decode cX3_init 62 = .ok (.invokespecial 31, 3) := by decide +kernel
theorem dX3_init_65 : decode cX3_init 65 = .ok (.aastore, 1) := by decide +kernel
theorem dX3_init_66 : decode cX3_init 66 = .ok (.iinc 1 1, 3) := by decide +kernel
theorem dX3_init_69 : decode cX3_init 69 = .ok (.goto (-35), 3) := by decide +kernel
theorem dX3_init_72 : decode cX3_init 72 = .ok (.return_, 1) := by decide +kernel
theorem dX3_remember_0 : decode cX3_remember 0 = .ok (.aload_n 0, 1) := by decide +kernel
theorem dX3_remember_1 : decode cX3_remember 1 = .ok (.getfield 11, 3) := by decide +kernel
theorem dX3_remember_4 : decode cX3_remember 4 = .ok (.aload_n 0, 1) := by decide +kernel
theorem dX3_remember_5 : decode cX3_remember 5 = .ok (.getfield 23, 3) := by decide +kernel
theorem dX3_remember_8 : decode cX3_remember 8 = .ok (.aaload, 1) := by decide +kernel
theorem dX3_remember_9 : decode cX3_remember 9 = .ok (.aload_n 1, 1) := by decide +kernel
theorem dX3_remember_10 : decode cX3_remember 10 = .ok (.invokevirtual 32, 3) := by decide +kernel
theorem dX3_remember_13 : decode cX3_remember 13 = .ok (.aload_n 0, 1) := by decide +kernel
theorem dX3_remember_14 : decode cX3_remember 14 = .ok (.getfield 19, 3) := by decide +kernel
theorem dX3_remember_17 : decode cX3_remember 17 = .ok (.aload_n 0, 1) := by decide +kernel
theorem dX3_remember_18 : decode cX3_remember 18 = .ok (.getfield 23, 3) := by decide +kernel
theorem dX3_remember_21 : decode cX3_remember 21 = .ok (.aaload, 1) := by decide +kernel
theorem dX3_remember_22 : decode cX3_remember 22 = .ok (.aload_n 2, 1) := by decide +kernel
theorem dX3_remember_23 : decode cX3_remember 23 = .ok (.invokevirtual 36, 3) := by decide +kernel
theorem dX3_remember_26 : decode cX3_remember 26 = .ok (.aload_n 0, 1) := by decide +kernel
theorem dX3_remember_27 : decode cX3_remember 27 = .ok (.aload_n 0, 1) := by decide +kernel
theorem dX3_remember_28 : decode cX3_remember 28 = .ok (.getfield 23, 3) := by decide +kernel
theorem dX3_remember_31 : decode cX3_remember 31 = .ok (.iconst 1, 1) := by decide +kernel
theorem dX3_remember_32 : decode cX3_remember 32 = .ok (.iadd, 1) := by decide +kernel
theorem dX3_remember_33 : decode cX3_remember 33 = .ok (.bipush 20, 2) := by decide +kernel
theorem dX3_remember_35 : decode cX3_remember 35 = .ok (.irem, 1) := by decide +kernel
theorem dX3_remember_36 : decode cX3_remember 36 = .ok (.putfield 23, 3) := by decide +kernel
theorem dX3_remember_39 : decode cX3_remember 39 = .ok (.aload_n 0, 1) := by decide +kernel
theorem dX3_remember_40 : decode cX3_remember 40 = .ok (.bipush 20, 2) := by decide +kernel
theorem dX3_remember_42 : decode cX3_remember 42 = .ok (.aload_n 0, 1) := by decide +kernel
theorem dX3_remember_43 : decode cX3_remember 43 = .ok (.getfield 27, 3) := by decide +kernel
theorem dX3_remember_46 : decode cX3_remember 46 = .ok (.iconst 1, 1) := by decide +kernel
theorem dX3_remember_47 : decode cX3_remember 47 = .ok (.iadd, 1) := by decide +kernel
theorem dX3_remember_48 : decode cX3_remember 48 = .ok (.invokestatic 39, 3) := by decide +kernel
theorem dX3_remember_51 : decode cX3_remember 51 = .ok (.putfield 27, 3) := by decide +kernel
theorem dX3_remember_54 : decode cX3_remember 54 = .ok (.return_, 1) := by decide +kernel
theorem dX3_recall_0 : decode cX3_recall 0 = .ok (.aload_n 0, 1) := by decide +kernel
theorem dX3_recall_1 : decode cX3_recall 1 = .ok (.getfield 27, 3) := by decide +kernel
theorem dX3_recall_4 : decode cX3_recall 4 = .ok (.ifCond .ne 5, 3) := by decide +kernel
theorem dX3_recall_7 : decode cX3_recall 7 = .ok (.iconst 0, 1) := by decide +kernel
theorem dX3_recall_8 : decode cX3_recall 8 = .ok (.ireturn, 1) := by decide +kernel
theorem dX3_recall_9 : decode cX3_recall 9 = .ok (.aload_n 0, 1) := by decide +kernel
theorem dX3_recall_10 : decode cX3_recall 10 = .ok (.dup, 1) := by decide +kernel
theorem dX3_recall_11 : decode cX3_recall 11 = .ok (.getfield 27, 3) := by decide +kernel
theorem dX3_recall_14 : decode cX3_recall 14 = .ok (.iconst 1, 1) := by decide +kernel
theorem dX3_recall_15 : decode cX3_recall 15 = .ok (.isub, 1) := by decide +kernel
theorem dX3_recall_16 : decode cX3_recall 16 = .ok (.putfield 27, 3) := by decide +kernel
theorem dX3_recall_19 : decode cX3_recall 19 = .ok (.aload_n 0, 1) := by decide +kernel
theorem dX3_recall_20 : decode cX3_recall 20 = .ok (.aload_n 0, 1) := by decide +kernel
theorem dX3_recall_21 : decode cX3_recall 21 = .ok (.getfield 23, 3) := by decide +kernel
theorem dX3_recall_24 : decode cX3_recall 24 = .ok (.bipush 20, 2) := by decide +kernel
theorem dX3_recall_26 : decode cX3_recall 26 = .ok (.iadd, 1) := by decide +kernel
theorem dX3_recall_27 : decode cX3_recall 27 = .ok (.iconst 1, 1) := by decide +kernel
theorem dX3_recall_28 : decode cX3_recall 28 = .ok (.isub, 1) := by decide +kernel
theorem dX3_recall_29 : decode cX3_recall 29 = .ok (.bipush 20, 2) := by decide +kernel
theorem dX3_recall_31 : decode cX3_recall 31 = .ok (.irem, 1) := by decide +kernel
theorem dX3_recall_32 : decode cX3_recall 32 = .ok (.putfield 23, 3) := by decide +kernel
theorem dX3_recall_35 : decode cX3_recall 35 = .ok (.aload_n 1, 1) := by decide +kernel
theorem dX3_recall_36 : decode cX3_recall 36 = .ok (.aload_n 0, 1) := by decide +kernel
theorem dX3_recall_37 : decode cX3_recall 37 = .ok (.getfield 11, 3) := by decide +kernel
theorem dX3_recall_40 : decode cX3_recall 40 = .ok (.aload_n 0, 1) := by decide +kernel
theorem dX3_recall_41 : decode cX3_recall 41 = .ok (.getfield 23, 3) := by decide +kernel
theorem dX3_recall_44 : decode cX3_recall 44 = .ok (.aaload, 1) := by decide +kernel
theorem dX3_recall_45 : decode cX3_recall 45 = .ok (.invokevirtual 32, 3) := by decide +kernel
theorem dX3_recall_48 : decode cX3_recall 48 = .ok (.aload_n 2, 1) := by decide +kernel
theorem dX3_recall_49 : decode cX3_recall 49 = .ok (.aload_n 0, 1) := by decide +kernel
theorem dX3_recall_50 : decode cX3_recall 50 = .ok (.getfield 19, 3) := by decide +kernel
theorem dX3_recall_53 : decode cX3_recall 53 = .ok (.aload_n 0, 1) := by decide +kernel
theorem dX3_recall_54 : decode cX3_recall 54 = .ok (.getfield 23, 3) := by decide +kernel
theorem dX3_recall_57 : decode cX3_recall 57 = .ok (.aaload, 1) := by decide +kernel
theorem dX3_recall_58 : decode cX3_recall 58 = .ok (.invokevirtual 36, 3) := by decide +kernel
theorem dX3_recall_61 : decode cX3_recall 61 = .ok (.iconst 1, 1) := by decide +kernel
theorem dX3_recall_62 : decode cX3_recall 62 = .ok (.ireturn, 1) := by decide +kernel
theorem dX4_init_0 : decode cX4_init 0 = .ok (.aload_n 0, 1) := by decide +kernel
theorem dX4_init_1 : decode cX4_init 1 = .ok (.invokespecial 3, 3) := by decide +kernel
theorem dX4_init_4 : decode cX4_init 4 = .ok (.aload_n 0, 1) := by decide +kernel
theorem dX4_init_5 : decode cX4_init 5 = .ok (.iconst 0, 1) := by decide +kernel
theorem dX4_init_6 : decode cX4_init 6 = .ok (.putfield 9, 3) := by decide +kernel
theorem dX4_init_9 : decode cX4_init 9 = .ok (.aload_n 0, 1) := by decide +kernel
theorem dX4_init_10 : decode cX4_init 10 = .ok (.iconst 0, 1) := by decide +kernel
theorem dX4_init_11 : decode cX4_init 11 = .ok (.putfield 15, 3) := by decide +kernel
theorem dX4_init_14 : decode cX4_init 14 = .ok (.aload_n 0, 1) := by decide +kernel
theorem dX4_init_15 : decode cX4_init 15 = .ok (.iconst 0, 1) := by decide +kernel
theorem dX4_init_16 : decode cX4_init 16 = .ok (.putfield 18, 3) := by decide +kernel
theorem dX4_init_19 : decode cX4_init 19 = .ok (.aload_n 0, 1) := by decide +kernel
theorem dX4_init_20 : decode cX4_init 20 = .ok (.iconst 0, 1) := by decide +kernel
theorem dX4_init_21 : decode cX4_init 21 = .ok (.putfield 21, 3) := by decide +kernel
theorem dX4_init_24 : decode cX4_init 24 = .ok (.aload_n 0, 1) := by decide +kernel
theorem dX4_init_25 : decode cX4_init 25 = .ok (.iconst 0, 1) := by decide +kernel
theorem dX4_init_26 : decode cX4_init 26 = .ok (.putfield 24, 3) := by decide +kernel
theorem dX4_init_29 : decode cX4_init 29 = .ok (.aload_n 0, 1) := by decide +kernel
theorem dX4_init_30 : decode cX4_init 30 = .ok (.iconst 0, 1) := by decide +kernel
theorem dX4_init_31 : decode cX4_init 31 = .ok (.putfield 27, 3) := by decide +kernel
theorem dX4_init_34 : decode cX4_init 34 = .ok (.aload_n 0, 1) := by decide +kernel
theorem dX4_init_35 : decode cX4_init 35 = .ok (.iconst (-1), 1) := by decide +kernel
theorem dX4_init_36 : decode cX4_init 36 = .ok (.putfield 30, 3) := by decide +kernel
theorem dX4_init_39 : decode cX4_init 39 = .ok (.aload_n 0, 1) := by decide +kernel
theorem dX4_init_40 : decode cX4_init 40 = .ok (.aload_n 1, 1) := by decide +kernel
theorem dX4_init_41 : decode cX4_init 41 = .ok (.putfield 33, 3) := by decide +kernel
theorem dX4_init_44 : decode cX4_init 44 = .ok (.aload_n 0, 1) := by decide +kernel
theorem dX4_init_45 : decode cX4_init 45 = .ok (.aload_n 2, 1) := by decide +kernel
theorem dX4_init_46 : decode cX4_init 46 = .ok (.putfield 37, 3) := by decide +kernel
theorem dX4_init_49 : decode cX4_init 49 = .ok (.return_, 1) := by decide +kernel
theorem dX4_start_0 : decode cX4_start 0 = .ok (.aload_n 0, 1) := by decide +kernel
theorem dX4_start_1 : decode cX4_start 1 = .ok (.aload_n 1, 1) := by decide +kernel
theorem dX4_start_2 : decode cX4_start 2 = .ok (.putfield 37, 3) := by decide +kernel
theorem dX4_start_5 : decode cX4_start 5 = .ok (.aload_n 1, 1) := by decide +kernel
theorem dX4_start_6 : decode cX4_start 6 = .ok (.invokevirtual 41, 3) := by decide +kernel
theorem dX4_start_9 : decode cX4_start 9 = .ok (.aload_n 0, 1) := by decide +kernel
theorem dX4_start_10 : decode cX4_start 10 = .ok (.iconst 0, 1) := by decide +kernel
theorem dX4_start_11 : decode cX4_start 11 = .ok (.putfield 15, 3) := by decide +kernel
theorem dX4_start_14 : decode cX4_start 14 = .ok (.aload_n 0, 1) := by decide +kernel
theorem dX4_start_15 : decode cX4_start 15 = .ok (.iconst 0, 1) := by decide +kernel
theorem dX4_start_16 : decode cX4_start 16 = .ok (.putfield 18, 3) := by decide +kernel
theorem dX4_start_19 : decode cX4_start 19 = .ok (.aload_n 0, 1) := by decide +kernel
theorem dX4_start_20 : decode cX4_start 20 = .ok (.iconst 0, 1) := by decide +kernel
theorem dX4_start_21 : decode cX4_start 21 = .ok (.putfield 27, 3) := by decide +kernel
theorem dX4_start_24 : decode cX4_start 24 = .ok (.aload_n 0, 1) := by decide +kernel
theorem dX4_start_25 : decode cX4_start 25 = .ok (.iconst (-1), 1) := by decide +kernel
theorem dX4_start_26 : decode cX4_start 26 = .ok (.putfield 30, 3) := by decide +kernel
theorem dX4_start_29 : decode cX4_start 29 = .ok (.return_, 1) := by decide +kernel
theorem dX4_fail_0 : decode cX4_fail 0 = .ok (.aload_n 0, 1) := by decide +kernel
theorem dX4_fail_1 : decode cX4_fail 1 = .ok (.getfield 27, 3) := by decide +kernel
theorem dX4_fail_4 : decode cX4_fail 4 = .ok (.ifCond .ne 13, 3) := by decide +kernel
theorem dX4_fail_7 : decode cX4_fail 7 = .ok (.aload_n 0, 1) := by decide +kernel
theorem dX4_fail_8 : decode cX4_fail 8 = .ok (.iload_n 1, 1) := by decide +kernel
theorem dX4_fail_9 : decode cX4_fail 9 = .ok (.putfield 27, 3) := by decide +kernel
theorem dX4_fail_12 : decode cX4_fail 12 = .ok (.aload_n 0, 1) := by decide +kernel
theorem dX4_fail_13 : decode cX4_fail 13 = .ok (.iload_n 2, 1) := by decide +kernel
theorem dX4_fail_14 : decode cX4_fail 14 = .ok (.putfield 30, 3) := by decide +kernel
theorem dX4_fail_17 : decode cX4_fail 17 = .ok (.aload_n 0, 1) := by decide +kernel
theorem dX4_fail_18 : decode cX4_fail 18 = .ok (.aload_n 0, 1) := by decide +kernel
theorem dX4_fail_19 : decode cX4_fail 19 = .ok (.getfield 33, 3) := by decide +kernel
theorem dX4_fail_22 : decode cX4_fail 22 = .ok (.getfield 46, 3) := by decide +kernel
theorem dX4_fail_25 : decode cX4_fail 25 = .ok (.putfield 18, 3) := by decide +kernel
theorem dX4_fail_28 : decode cX4_fail 28 = .ok (.return_, 1) := by decide +kernel
theorem dX4_peek_0 : decode cX4_peek 0 = .ok (.aload_n 0, 1) := by decide +kernel
theorem dX4_peek_1 : decode cX4_peek 1 = .ok (.getfield 18, 3) := by decide +kernel
theorem dX4_peek_4 : decode cX4_peek 4 = .ok (.aload_n 0, 1) := by decide +kernel
theorem dX4_peek_5 : decode cX4_peek 5 = .ok (.getfield 33, 3) := by decide +kernel
theorem dX4_peek_8 : decode cX4_peek 8 = .ok (.getfield 46, 3) := by decide +kernel
theorem dX4_peek_11 : decode cX4_peek 11 = .ok (.if_icmp .ge 43, 3) := by decide +kernel
theorem dX4_peek_14 : decode cX4_peek 14 = .ok (.aload_n 0, 1) := by decide +kernel
theorem dX4_peek_15 : decode cX4_peek 15 = .ok (.getfield 33, 3) := by decide +kernel
theorem dX4_peek_18 : decode cX4_peek 18 = .ok (.getfield 51, 3) := by decide +kernel
theorem dX4_peek_21 : decode cX4_peek 21 = .ok (.aload_n 0, 1) := by decide +kernel
theorem dX4_peek_22 : decode cX4_peek 22 = .ok (.getfield 18, 3) := by decide +kernel
theorem dX4_peek_25 : decode cX4_peek 25 = .ok (.iaload, 1) := by decide +kernel
theorem dX4_peek_26 : decode cX4_peek 26 = .ok (.istore_n 1, 1) := by decide +kernel
theorem dX4_peek_27 : decode cX4_peek 27 = .ok (.iload_n 1, 1) := by decide +kernel
theorem dX4_peek_28 : decode cX4_peek 28 = .ok (.bipush 32, 2) := by decide +kernel
theorem dX4_peek_30 : decode cX4_peek 30 = .ok (.if_icmp .eq 11, 3) := by decide +kernel
theorem dX4_peek_33 : decode cX4_peek 33 = .ok (.iload_n 1, 1) := by decide +kernel
theorem dX4_peek_34 : decode cX4_peek 34 = .ok (.bipush 10, 2) := by decide +kernel
theorem dX4_peek_36 : decode cX4_peek 36 = .ok (.if_icmp .eq 5, 3) := by decide +kernel
theorem dX4_peek_39 : decode cX4_peek 39 = .ok (.iload_n 1, 1) := by decide +kernel
theorem dX4_peek_40 : decode cX4_peek 40 = .ok (.ireturn, 1) := by decide +kernel
theorem dX4_peek_41 : decode cX4_peek 41 = .ok (.aload_n 0, 1) := by decide +kernel
theorem dX4_peek_42 : decode cX4_peek 42 = .ok (.dup, 1) := by decide +kernel
theorem dX4_peek_43 : decode cX4_peek 43 = .ok (.getfield 18, 3) := by decide +kernel
theorem dX4_peek_46 : decode cX4_peek 46 = .ok (.iconst 1, 1) := by decide +kernel
theorem dX4_peek_47 : decode cX4_peek 47 = .ok (.iadd, 1) := by decide +kernel
theorem dX4_peek_48 : decode cX4_peek 48 = .ok (.putfield 18, 3) := by decide +kernel
theorem dX4_peek_51 : decode cX4_peek 51 = .ok (.goto (-51), 3) := by decide +kernel
theorem dX4_peek_54 : decode cX4_peek 54 = .ok (.iconst (-1), 1) := by decide +kernel
theorem dX4_peek_55 : decode cX4_peek 55 = .ok (.ireturn, 1) := by decide +kernel
theorem dX4_peekWord_0 : decode cX4_peekWord 0 = .ok (.aload_n 0, 1) := by decide +kernel
theorem dX4_peekWord_1 : decode cX4_peekWord 1 = .ok (.invokevirtual 55, 3) := by decide +kernel
theorem dX4_peekWord_4 : decode cX4_peekWord 4 = .ok (.invokestatic 59, 3) := by decide +kernel
theorem dX4_peekWord_7 : decode cX4_peekWord 7 = .ok (.ifCond .eq 26, 3) := by decide +kernel
theorem dX4_peekWord_10 : decode cX4_peekWord 10 = .ok (.aload_n 0, 1) := by decide +kernel
theorem dX4_peekWord_11 : decode cX4_peekWord 11 = .ok (.getfield 33, 3) := by decide +kernel
theorem dX4_peekWord_14 : decode cX4_peekWord 14 = .ok (.aload_n 0, 1) := by decide +kernel
theorem dX4_peekWord_15 : decode cX4_peekWord 15 = .ok (.getfield 18, 3) := by decide +kernel
theorem dX4_peekWord_18 : decode cX4_peekWord 18 = .ok (.iconst 1, 1) := by decide +kernel
theorem dX4_peekWord_19 : decode cX4_peekWord 19 = .ok (.isub, 1) := by decide +kernel
theorem dX4_peekWord_20 : decode cX4_peekWord 20 = .ok (.invokevirtual 63, 3) := by decide +kernel
theorem dX4_peekWord_23 : decode cX4_peekWord 23 = .ok (.invokestatic 67, 3) := by decide +kernel
theorem dX4_peekWord_26 : decode cX4_peekWord 26 = .ok (.ifCond .ne 7, 3) := by decide +kernel
theorem dX4_peekWord_29 : decode cX4_peekWord 29 = .ok (.iconst 1, 1) := by decide +kernel
theorem dX4_peekWord_30 : decode cX4_peekWord 30 = .ok (.goto 4, 3) := by decide +kernel
theorem dX4_peekWord_33 : decode cX4_peekWord 33 = .ok (.iconst 0, 1) := by decide +kernel
theorem dX4_peekWord_34 : decode cX4_peekWord 34 = .ok (.istore_n 1, 1) := by decide +kernel
theorem dX4_peekWord_35 : decode cX4_peekWord 35 = .ok (.aload_n 0, 1) := by decide +kernel
theorem dX4_peekWord_36 : decode cX4_peekWord 36 = .ok (.aload_n 0, 1) := by decide +kernel
theorem dX4_peekWord_37 : decode cX4_peekWord 37 = .ok (.getfield 18, 3) := by decide +kernel
theorem dX4_peekWord_40 : decode cX4_peekWord 40 = .ok (.putfield 21, 3) := by decide +kernel
theorem dX4_peekWord_43 : decode cX4_peekWord 43 = .ok (.iload_n 1, 1) := by decide +kernel
theorem dX4_peekWord_44 : decode cX4_peekWord 44 = .ok (.ifCond .eq 48, 3) := by decide +kernel
theorem dX4_peekWord_47 : decode cX4_peekWord 47 = .ok (.aload_n 0, 1) := by decide +kernel
theorem dX4_peekWord_48 : decode cX4_peekWord 48 = .ok (.getfield 21, 3) := by decide +kernel
theorem dX4_peekWord_51 : decode cX4_peekWord 51 = .ok (.aload_n 0, 1) := by decide +kernel
theorem dX4_peekWord_52 : decode cX4_peekWord 52 = .ok (.getfield 33, 3) := by decide +kernel
theorem dX4_peekWord_55 : decode cX4_peekWord 55 = .ok (.getfield 46, 3) := by decide +kernel
theorem dX4_peekWord_58 : decode cX4_peekWord 58 = .ok (.if_icmp .ge 34, 3) := by decide +kernel
theorem dX4_peekWord_61 : decode cX4_peekWord 61 = .ok (.aload_n 0, 1) := by decide +kernel
theorem dX4_peekWord_62 : decode cX4_peekWord 62 = .ok (.getfield 33, 3) := by decide +kernel
theorem dX4_peekWord_65 : decode cX4_peekWord 65 = .ok (.getfield 51, 3) := by decide +kernel
theorem dX4_peekWord_68 : decode cX4_peekWord 68 = .ok (.aload_n 0, 1) := by decide +kernel
theorem dX4_peekWord_69 : decode cX4_peekWord 69 = .ok (.getfield 21, 3) := by decide +kernel
theorem dX4_peekWord_72 : decode cX4_peekWord 72 = .ok (.iaload, 1) := by decide +kernel
theorem dX4_peekWord_73 : decode cX4_peekWord 73 = .ok (.invokestatic 59, 3) := by decide +kernel
theorem dX4_peekWord_76 : decode cX4_peekWord 76 = .ok (.ifCond .eq 16, 3) := by decide +kernel
theorem dX4_peekWord_79 : decode cX4_peekWord 79 = .ok (.aload_n 0, 1) := by decide +kernel
theorem dX4_peekWord_80 : decode cX4_peekWord 80 = .ok (.dup, 1) := by decide +kernel
theorem dX4_peekWord_81 : decode cX4_peekWord 81 = .ok (.getfield 21, 3) := by decide +kernel
theorem dX4_peekWord_84 : decode cX4_peekWord 84 = .ok (.iconst 1, 1) := by decide +kernel
theorem dX4_peekWord_85 : decode cX4_peekWord 85 = .ok (.iadd, 1) := by decide +kernel
theorem dX4_peekWord_86 : decode cX4_peekWord 86 = .ok (.putfield 21, 3) := by decide +kernel
theorem dX4_peekWord_89 : decode cX4_peekWord 89 = .ok (.goto (-46), 3) := by decide +kernel
theorem dX4_peekWord_92 : decode cX4_peekWord 92 = .ok (.iload_n 1, 1) := by decide +kernel
theorem dX4_peekWord_93 : decode cX4_peekWord 93 = .ok (.ifCond .eq 10, 3) := by decide +kernel
theorem dX4_peekWord_96 : decode cX4_peekWord 96 = .ok (.aload_n 0, 1) := by decide +kernel
theorem dX4_peekWord_97 : decode cX4_peekWord 97 = .ok (.invokevirtual 70, 3) := by decide +kernel
theorem dX4_peekWord_100 : decode cX4_peekWord 100 = .ok (.goto 4, 3) := by decide +kernel
theorem dX4_peekWord_103 : decode cX4_peekWord 103 = .ok (.iconst (-1), 1) := by decide +kernel
theorem dX4_peekWord_104 : decode cX4_peekWord 104 = .ok (.ireturn, 1) := by decide +kernel
theorem dX4_takeWord_0 : decode cX4_takeWord 0 = .ok (.aload_n 0, 1) := by decide +kernel
theorem dX4_takeWord_1 : decode cX4_takeWord 1 = .ok (.invokevirtual 73, 3) := by decide +kernel
theorem dX4_takeWord_4 : decode cX4_takeWord 4 = .ok (.iload_n 1, 1) := by decide +kernel
theorem dX4_takeWord_5 : decode cX4_takeWord 5 = .ok (.if_icmp .eq 5, 3) := by decide +kernel
theorem dX4_takeWord_8 : decode cX4_takeWord 8 = .ok (.iconst 0, 1) := by decide +kernel
theorem dX4_takeWord_9 : decode cX4_takeWord 9 = .ok (.ireturn, 1) := by decide +kernel
theorem dX4_takeWord_10 : decode cX4_takeWord 10 = .ok (.aload_n 0, 1) := by decide +kernel
theorem dX4_takeWord_11 : decode cX4_takeWord 11 = .ok (.aload_n 0, 1) := by decide +kernel
theorem dX4_takeWord_12 : decode cX4_takeWord 12 = .ok (.getfield 21, 3) := by decide +kernel
theorem dX4_takeWord_15 : decode cX4_takeWord 15 = .ok (.putfield 18, 3) := by decide +kernel
theorem dX4_takeWord_18 : decode cX4_takeWord 18 = .ok (.iconst 1, 1) := by decide +kernel
theorem dX4_takeWord_19 : decode cX4_takeWord 19 = .ok (.ireturn, 1) := by decide +kernel
theorem dX4_expectWord_0 : decode cX4_expectWord 0 = .ok (.aload_n 0, 1) := by decide +kernel
theorem dX4_expectWord_1 : decode cX4_expectWord 1 = .ok (.invokevirtual 73, 3) := by decide +kernel
theorem dX4_expectWord_4 : decode cX4_expectWord 4 = .ok (.iload_n 1, 1) := by decide +kernel
theorem dX4_expectWord_5 : decode cX4_expectWord 5 = .ok (.if_icmp .ne 14, 3) := by decide +kernel
theorem dX4_expectWord_8 : decode cX4_expectWord 8 = .ok (.aload_n 0, 1) := by decide +kernel
theorem dX4_expectWord_9 : decode cX4_expectWord 9 = .ok (.aload_n 0, 1) := by decide +kernel
theorem dX4_expectWord_10 : decode cX4_expectWord 10 = .ok (.getfield 21, 3) := by decide +kernel
theorem dX4_expectWord_13 : decode cX4_expectWord 13 = .ok (.putfield 18, 3) := by decide +kernel
theorem dX4_expectWord_16 : decode cX4_expectWord 16 = .ok (.goto 12, 3) := by decide +kernel
theorem dX4_expectWord_19 : decode cX4_expectWord 19 = .ok (.aload_n 0, 1) := by decide +kernel
theorem dX4_expectWord_20 : decode cX4_expectWord 20 = .ok (.iconst 1, 1) := by decide +kernel
theorem dX4_expectWord_21 : decode cX4_expectWord 21 = .ok (.aload_n 0, 1) := by decide +kernel
theorem dX4_expectWord_22 : decode cX4_expectWord 22 = .ok (.getfield 18, 3) := by decide +kernel
theorem dX4_expectWord_25 : decode cX4_expectWord 25 = .ok (.invokevirtual 76, 3) := by decide +kernel
theorem dX4_expectWord_28 : decode cX4_expectWord 28 = .ok (.return_, 1) := by decide +kernel
theorem dX4_expectSign_0 : decode cX4_expectSign 0 = .ok (.aload_n 0, 1) := by decide +kernel
theorem dX4_expectSign_1 : decode cX4_expectSign 1 = .ok (.invokevirtual 55, 3) := by decide +kernel
theorem dX4_expectSign_4 : decode cX4_expectSign 4 = .ok (.iload_n 1, 1) := by decide +kernel
theorem dX4_expectSign_5 : decode cX4_expectSign 5 = .ok (.if_icmp .ne 16, 3) := by decide +kernel
theorem dX4_expectSign_8 : decode cX4_expectSign 8 = .ok (.aload_n 0, 1) := by decide +kernel
theorem dX4_expectSign_9 : decode cX4_expectSign 9 = .ok (.dup, 1) := by decide +kernel
theorem dX4_expectSign_10 : decode cX4_expectSign 10 = .ok (.getfield 18, 3) := by decide +kernel
theorem dX4_expectSign_13 : decode cX4_expectSign 13 = .ok (.iconst 1, 1) := by decide +kernel
theorem dX4_expectSign_14 : decode cX4_expectSign 14 = .ok (.iadd, 1) := by decide +kernel
theorem dX4_expectSign_15 : decode cX4_expectSign 15 = .ok (.putfield 18, 3) := by decide +kernel
theorem dX4_expectSign_18 : decode cX4_expectSign 18 = .ok (.goto 12, 3) := by decide +kernel
theorem dX4_expectSign_21 : decode cX4_expectSign 21 = .ok (.aload_n 0, 1) := by decide +kernel
theorem dX4_expectSign_22 : decode cX4_expectSign 22 = .ok (.iconst 1, 1) := by decide +kernel
theorem dX4_expectSign_23 : decode cX4_expectSign 23 = .ok (.aload_n 0, 1) := by decide +kernel
theorem dX4_expectSign_24 : decode cX4_expectSign 24 = .ok (.getfield 18, 3) := by decide +kernel
theorem dX4_expectSign_27 : decode cX4_expectSign 27 = .ok (.invokevirtual 76, 3) := by decide +kernel
theorem dX4_expectSign_30 : decode cX4_expectSign 30 = .ok (.return_, 1) := by decide +kernel
theorem dX4_takeNumber_0 : decode cX4_takeNumber 0 = .ok (.aload_n 0, 1) := by decide +kernel
theorem dX4_takeNumber_1 : decode cX4_takeNumber 1 = .ok (.invokevirtual 55, 3) := by decide +kernel
theorem dX4_takeNumber_4 : decode cX4_takeNumber 4 = .ok (.invokestatic 80, 3) := by decide +kernel
theorem dX4_takeNumber_7 : decode cX4_takeNumber 7 = .ok (.ifCond .eq 22, 3) := by decide +kernel
theorem dX4_takeNumber_10 : decode cX4_takeNumber 10 = .ok (.aload_n 0, 1) := by decide +kernel
theorem dX4_takeNumber_11 : decode cX4_takeNumber 11 = .ok (.getfield 33, 3) := by decide +kernel
theorem dX4_takeNumber_14 : decode cX4_takeNumber 14 = .ok (.aload_n 0, 1) := by decide +kernel
theorem dX4_takeNumber_15 : decode cX4_takeNumber 15 = .ok (.getfield 18, 3) := by decide +kernel
theorem dX4_takeNumber_18 : decode cX4_takeNumber 18 = .ok (.iconst 1, 1) := by decide +kernel
theorem dX4_takeNumber_19 : decode cX4_takeNumber 19 = .ok (.isub, 1) := by decide +kernel
theorem dX4_takeNumber_20 : decode cX4_takeNumber 20 = .ok (.invokevirtual 63, 3) := by decide +kernel
theorem dX4_takeNumber_23 : decode cX4_takeNumber 23 = .ok (.invokestatic 67, 3) := by decide +kernel
theorem dX4_takeNumber_26 : decode cX4_takeNumber 26 = .ok (.ifCond .eq 14, 3) := by decide +kernel
theorem dX4_takeNumber_29 : decode cX4_takeNumber 29 = .ok (.aload_n 0, 1) := by decide +kernel
theorem dX4_takeNumber_30 : decode cX4_takeNumber 30 = .ok (.iconst 1, 1) := by decide +kernel
theorem dX4_takeNumber_31 : decode cX4_takeNumber 31 = .ok (.aload_n 0, 1) := by decide +kernel
theorem dX4_takeNumber_32 : decode cX4_takeNumber 32 = .ok (.getfield 18, 3) := by decide +kernel
theorem dX4_takeNumber_35 : decode cX4_takeNumber 35 = .ok (.invokevirtual 76, 3) := by decide +kernel
theorem dX4_takeNumber_38 : decode cX4_takeNumber 38 = .ok (.iload_n 1, 1) := by decide +kernel
theorem dX4_takeNumber_39 : decode cX4_takeNumber 39 = .ok (.ireturn, 1) := by decide +kernel
theorem dX4_takeNumber_40 : decode cX4_takeNumber 40 = .ok (.aload_n 0, 1) := by decide +kernel
theorem dX4_takeNumber_41 : decode cX4_takeNumber 41 = .ok (.getfield 18, 3) := by decide +kernel
theorem dX4_takeNumber_44 : decode cX4_takeNumber 44 = .ok (.istore_n 3, 1) := by decide +kernel
theorem dX4_takeNumber_45 : decode cX4_takeNumber 45 = .ok (.iconst 0, 1) := by decide +kernel
theorem dX4_takeNumber_46 : decode cX4_takeNumber 46 = .ok (.istore 4, 2) := by decide +kernel
theorem dX4_takeNumber_48 : decode cX4_takeNumber 48 = .ok (.iconst 0, 1) := by decide +kernel
theorem dX4_takeNumber_49 : decode cX4_takeNumber 49 = .ok (.istore 5, 2) := by decide +kernel
theorem dX4_takeNumber_51 : decode cX4_takeNumber 51 = .ok (.iload 5, 2) := by decide +kernel
theorem dX4_takeNumber_53 : decode cX4_takeNumber 53 = .ok (.iconst 4, 1) := by decide +kernel
theorem dX4_takeNumber_54 : decode cX4_takeNumber 54 = .ok (.if_icmp .ge 58, 3) := by decide +kernel
theorem dX4_takeNumber_57 : decode cX4_takeNumber 57 = .ok (.aload_n 0, 1) := by decide +kernel
theorem dX4_takeNumber_58 : decode cX4_takeNumber 58 = .ok (.getfield 33, 3) := by decide +kernel
theorem dX4_takeNumber_61 : decode cX4_takeNumber 61 = .ok (.aload_n 0, 1) := by decide +kernel
theorem dX4_takeNumber_62 : decode cX4_takeNumber 62 = .ok (.getfield 18, 3) := by decide +kernel
theorem dX4_takeNumber_65 : decode cX4_takeNumber 65 = .ok (.invokevirtual 63, 3) := by decide +kernel
theorem dX4_takeNumber_68 : decode cX4_takeNumber 68 = .ok (.invokestatic 80, 3) := by decide +kernel
theorem dX4_takeNumber_71 : decode cX4_takeNumber 71 = .ok (.ifCond .eq 41, 3) := by decide +kernel
theorem dX4_takeNumber_74 : decode cX4_takeNumber 74 = .ok (.bipush 10, 2) := by decide +kernel
theorem dX4_takeNumber_76 : decode cX4_takeNumber 76 = .ok (.iload 4, 2) := by decide +kernel
theorem dX4_takeNumber_78 : decode cX4_takeNumber 78 = .ok (.imul, 1) := by decide +kernel
theorem dX4_takeNumber_79 : decode cX4_takeNumber 79 = .ok (.aload_n 0, 1) := by decide +kernel
theorem dX4_takeNumber_80 : decode cX4_takeNumber 80 = .ok (.getfield 33, 3) := by decide +kernel
theorem dX4_takeNumber_83 : decode cX4_takeNumber 83 = .ok (.aload_n 0, 1) := by decide +kernel
theorem dX4_takeNumber_84 : decode cX4_takeNumber 84 = .ok (.getfield 18, 3) := by decide +kernel
theorem dX4_takeNumber_87 : decode cX4_takeNumber 87 = .ok (.invokevirtual 63, 3) := by decide +kernel
theorem dX4_takeNumber_90 : decode cX4_takeNumber 90 = .ok (.iadd, 1) := by decide +kernel
theorem dX4_takeNumber_91 : decode cX4_takeNumber 91 = .ok (.bipush 48, 2) := by decide +kernel
theorem dX4_takeNumber_93 : decode cX4_takeNumber 93 = .ok (.isub, 1) := by decide +kernel
theorem dX4_takeNumber_94 : decode cX4_takeNumber 94 = .ok (.istore 4, 2) := by decide +kernel
theorem dX4_takeNumber_96 : decode cX4_takeNumber 96 = .ok (.aload_n 0, 1) := by decide +kernel
theorem dX4_takeNumber_97 : decode cX4_takeNumber 97 = .ok (.dup, 1) := by decide +kernel
theorem dX4_takeNumber_98 : decode cX4_takeNumber 98 = .ok (.getfield 18, 3) := by decide +kernel
theorem dX4_takeNumber_101 : decode cX4_takeNumber 101 = .ok (.iconst 1, 1) := by decide +kernel
theorem dX4_takeNumber_102 : decode cX4_takeNumber 102 = .ok (.iadd, 1) := by decide +kernel
theorem dX4_takeNumber_103 : decode cX4_takeNumber 103 = .ok (.putfield 18, 3) := by decide +kernel
theorem dX4_takeNumber_106 : decode cX4_takeNumber 106 = .ok (.iinc 5 1, 3) := by decide +kernel
theorem dX4_takeNumber_109 : decode cX4_takeNumber 109 = .ok (.goto (-58), 3) := by decide +kernel
theorem dX4_takeNumber_112 : decode cX4_takeNumber 112 = .ok (.aload_n 0, 1) := by decide +kernel
theorem dX4_takeNumber_113 : decode cX4_takeNumber 113 = .ok (.getfield 33, 3) := by decide +kernel
theorem dX4_takeNumber_116 : decode cX4_takeNumber 116 = .ok (.aload_n 0, 1) := by decide +kernel
theorem dX4_takeNumber_117 : decode cX4_takeNumber 117 = .ok (.getfield 18, 3) := by decide +kernel
theorem dX4_takeNumber_120 : decode cX4_takeNumber 120 = .ok (.invokevirtual 63, 3) := by decide +kernel
theorem dX4_takeNumber_123 : decode cX4_takeNumber 123 = .ok (.invokestatic 80, 3) := by decide +kernel
theorem dX4_takeNumber_126 : decode cX4_takeNumber 126 = .ok (.ifCond .eq 14, 3) := by decide +kernel
theorem dX4_takeNumber_129 : decode cX4_takeNumber 129 = .ok (.aload_n 0, 1) := by decide +kernel
theorem dX4_takeNumber_130 : decode cX4_takeNumber 130 = .ok (.iconst 1, 1) := by decide +kernel
theorem dX4_takeNumber_131 : decode cX4_takeNumber 131 = .ok (.aload_n 0, 1) := by decide +kernel
theorem dX4_takeNumber_132 : decode cX4_takeNumber 132 = .ok (.getfield 18, 3) := by decide +kernel
theorem dX4_takeNumber_135 : decode cX4_takeNumber 135 = .ok (.invokevirtual 76, 3) := by decide +kernel
theorem dX4_takeNumber_138 : decode cX4_takeNumber 138 = .ok (.iload_n 1, 1) := by decide +kernel
theorem dX4_takeNumber_139 : decode cX4_takeNumber 139 = .ok (.ireturn, 1) := by decide +kernel
theorem dX4_takeNumber_140 : decode cX4_takeNumber 140 = .ok (.iload 4, 2) := by decide +kernel
theorem dX4_takeNumber_142 : decode cX4_takeNumber 142 = .ok (.iload_n 1, 1) := by decide +kernel
theorem dX4_takeNumber_143 : decode cX4_takeNumber 143 = .ok (.if_icmp .lt 9, 3) := by decide +kernel
theorem dX4_takeNumber_146 : decode cX4_takeNumber 146 = .ok (.iload 4, 2) := by decide +kernel
theorem dX4_takeNumber_148 : decode cX4_takeNumber 148 = .ok (.iload_n 2, 1) := by decide +kernel
theorem dX4_takeNumber_149 : decode cX4_takeNumber 149 = .ok (.if_icmp .le 11, 3) := by decide +kernel
theorem dX4_takeNumber_152 : decode cX4_takeNumber 152 = .ok (.aload_n 0, 1) := by decide +kernel
theorem dX4_takeNumber_153 : decode cX4_takeNumber 153 = .ok (.iconst 2, 1) := by decide +kernel
theorem dX4_takeNumber_154 : decode cX4_takeNumber 154 = .ok (.iload_n 3, 1) := by decide +kernel
theorem dX4_takeNumber_155 : decode cX4_takeNumber 155 = .ok (.invokevirtual 76, 3) := by decide +kernel
theorem dX4_takeNumber_158 : decode cX4_takeNumber 158 = .ok (.iload_n 1, 1) := by decide +kernel
theorem dX4_takeNumber_159 : decode cX4_takeNumber 159 = .ok (.ireturn, 1) := by decide +kernel
theorem dX4_takeNumber_160 : decode cX4_takeNumber 160 = .ok (.iload 4, 2) := by decide +kernel
theorem dX4_takeNumber_162 : decode cX4_takeNumber 162 = .ok (.ireturn, 1) := by decide +kernel
theorem dX4_takeName_0 : decode cX4_takeName 0 = .ok (.aload_n 0, 1) := by decide +kernel
theorem dX4_takeName_1 : decode cX4_takeName 1 = .ok (.invokevirtual 73, 3) := by decide +kernel
theorem dX4_takeName_4 : decode cX4_takeName 4 = .ok (.istore_n 1, 1) := by decide +kernel
theorem dX4_takeName_5 : decode cX4_takeName 5 = .ok (.aload_n 0, 1) := by decide +kernel
theorem dX4_takeName_6 : decode cX4_takeName 6 = .ok (.aload_n 0, 1) := by decide +kernel
theorem dX4_takeName_7 : decode cX4_takeName 7 = .ok (.getfield 18, 3) := by decide +kernel
theorem dX4_takeName_10 : decode cX4_takeName 10 = .ok (.putfield 24, 3) := by decide +kernel
theorem dX4_takeName_13 : decode cX4_takeName 13 = .ok (.aload_n 0, 1) := by decide +kernel
theorem dX4_takeName_14 : decode cX4_takeName 14 = .ok (.getfield 21, 3) := by decide +kernel
theorem dX4_takeName_17 : decode cX4_takeName 17 = .ok (.aload_n 0, 1) := by decide +kernel
theorem dX4_takeName_18 : decode cX4_takeName 18 = .ok (.getfield 18, 3) := by decide +kernel
theorem dX4_takeName_21 : decode cX4_takeName 21 = .ok (.if_icmp .eq 13, 3) := by decide +kernel
theorem dX4_takeName_24 : decode cX4_takeName 24 = .ok (.iload_n 1, 1) := by decide +kernel
theorem dX4_takeName_25 : decode cX4_takeName 25 = .ok (.ifCond .lt 20, 3) := by decide +kernel
theorem dX4_takeName_28 : decode cX4_takeName 28 = .ok (.iload_n 1, 1) := by decide +kernel
theorem dX4_takeName_29 : decode cX4_takeName 29 = .ok (.bipush 31, 2) := by decide +kernel
theorem dX4_takeName_31 : decode cX4_takeName 31 = .ok (.if_icmp .gt 14, 3) := by decide +kernel
theorem dX4_takeName_34 : decode cX4_takeName 34 = .ok (.aload_n 0, 1) := by decide +kernel
theorem dX4_takeName_35 : decode cX4_takeName 35 = .ok (.iconst 1, 1) := by decide +kernel
theorem dX4_takeName_36 : decode cX4_takeName 36 = .ok (.aload_n 0, 1) := by decide +kernel
theorem dX4_takeName_37 : decode cX4_takeName 37 = .ok (.getfield 18, 3) := by decide +kernel
theorem dX4_takeName_40 : decode cX4_takeName 40 = .ok (.invokevirtual 76, 3) := by decide +kernel
theorem dX4_takeName_43 : decode cX4_takeName 43 = .ok (.iconst (-1), 1) := by decide +kernel
theorem dX4_takeName_44 : decode cX4_takeName 44 = .ok (.ireturn, 1) := by decide +kernel
theorem dX4_takeName_45 : decode cX4_takeName 45 = .ok (.aload_n 0, 1) := by decide +kernel
theorem dX4_takeName_46 : decode cX4_takeName 46 = .ok (.getfield 21, 3) := by decide +kernel
theorem dX4_takeName_49 : decode cX4_takeName 49 = .ok (.aload_n 0, 1) := by decide +kernel
theorem dX4_takeName_50 : decode cX4_takeName 50 = .ok (.getfield 18, 3) := by decide +kernel
theorem dX4_takeName_53 : decode cX4_takeName 53 = .ok (.isub, 1) := by decide +kernel
theorem dX4_takeName_54 : decode cX4_takeName 54 = .ok (.bipush 6, 2) := by decide +kernel
theorem dX4_takeName_56 : decode cX4_takeName 56 = .ok (.if_icmp .le 17, 3) := by decide +kernel
theorem dX4_takeName_59 : decode cX4_takeName 59 = .ok (.aload_n 0, 1) := by decide +kernel
theorem dX4_takeName_60 : decode cX4_takeName 60 = .ok (.iconst 1, 1) := by decide +kernel
theorem dX4_takeName_61 : decode cX4_takeName 61 = .ok (.aload_n 0, 1) := by decide +kernel
theorem dX4_takeName_62 : decode cX4_takeName 62 = .ok (.getfield 18, 3) := by decide +kernel
theorem dX4_takeName_65 : decode cX4_takeName 65 = .ok (.bipush 6, 2) := by decide +kernel
theorem dX4_takeName_67 : decode cX4_takeName 67 = .ok (.iadd, 1) := by decide +kernel
theorem dX4_takeName_68 : decode cX4_takeName 68 = .ok (.invokevirtual 76, 3) := by decide +kernel
theorem dX4_takeName_71 : decode cX4_takeName 71 = .ok (.iconst (-1), 1) := by decide +kernel
theorem dX4_takeName_72 : decode cX4_takeName 72 = .ok (.ireturn, 1) := by decide +kernel
theorem dX4_takeName_73 : decode cX4_takeName 73 = .ok (.iconst 0, 1) := by decide +kernel
theorem dX4_takeName_74 : decode cX4_takeName 74 = .ok (.istore_n 2, 1) := by decide +kernel
theorem dX4_takeName_75 : decode cX4_takeName 75 = .ok (.aload_n 0, 1) := by decide +kernel
theorem dX4_takeName_76 : decode cX4_takeName 76 = .ok (.getfield 18, 3) := by decide +kernel
theorem dX4_takeName_79 : decode cX4_takeName 79 = .ok (.istore_n 3, 1) := by decide +kernel
theorem dX4_takeName_80 : decode cX4_takeName 80 = .ok (.iload_n 3, 1) := by decide +kernel
theorem dX4_takeName_81 : decode cX4_takeName 81 = .ok (.aload_n 0, 1) := by decide +kernel
theorem dX4_takeName_82 : decode cX4_takeName 82 = .ok (.getfield 18, 3) := by decide +kernel
theorem dX4_takeName_85 : decode cX4_takeName 85 = .ok (.bipush 6, 2) := by decide +kernel
theorem dX4_takeName_87 : decode cX4_takeName 87 = .ok (.iadd, 1) := by decide +kernel
theorem dX4_takeName_88 : decode cX4_takeName 88 = .ok (.if_icmp .ge 39, 3) := by decide +kernel
theorem dX4_takeName_91 : decode cX4_takeName 91 = .ok (.iload_n 2, 1) := by decide +kernel
theorem dX4_takeName_92 : decode cX4_takeName 92 = .ok (.iconst 5, 1) := by decide +kernel
theorem dX4_takeName_93 : decode cX4_takeName 93 = .ok (.ishl, 1) := by decide +kernel
theorem dX4_takeName_94 : decode cX4_takeName 94 = .ok (.iload_n 3, 1) := by decide +kernel
theorem dX4_takeName_95 : decode cX4_takeName 95 = .ok (.aload_n 0, 1) := by decide +kernel
theorem dX4_takeName_96 : decode cX4_takeName 96 = .ok (.getfield 21, 3) := by decide +kernel
theorem dX4_takeName_99 : decode cX4_takeName 99 = .ok (.if_icmp .ge 19, 3) := by decide +kernel
theorem dX4_takeName_102 : decode cX4_takeName 102 = .ok (.aload_n 0, 1) := by decide +kernel
theorem dX4_takeName_103 : decode cX4_takeName 103 = .ok (.getfield 33, 3) := by decide +kernel
theorem dX4_takeName_106 : decode cX4_takeName 106 = .ok (.iload_n 3, 1) := by decide +kernel
theorem dX4_takeName_107 : decode cX4_takeName 107 = .ok (.invokevirtual 63, 3) := by decide +kernel
theorem dX4_takeName_110 : decode cX4_takeName 110 = .ok (.bipush 97, 2) := by decide +kernel
theorem dX4_takeName_112 : decode cX4_takeName 112 = .ok (.isub, 1) := by decide +kernel
theorem dX4_takeName_113 : decode cX4_takeName 113 = .ok (.iconst 1, 1) := by decide +kernel
theorem dX4_takeName_114 : decode cX4_takeName 114 = .ok (.iadd, 1) := by decide +kernel
theorem dX4_takeName_115 : decode cX4_takeName 115 = .ok (.goto 4, 3) := by decide +kernel
theorem dX4_takeName_118 : decode cX4_takeName 118 = .ok (.iconst 0, 1) := by decide +kernel
theorem dX4_takeName_119 : decode cX4_takeName 119 = .ok (.ior, 1) := by decide +kernel
theorem dX4_takeName_120 : decode cX4_takeName 120 = .ok (.istore_n 2, 1) := by decide +kernel
theorem dX4_takeName_121 : decode cX4_takeName 121 = .ok (.iinc 3 1, 3) := by decide +kernel
theorem dX4_takeName_124 : decode cX4_takeName 124 = .ok (.goto (-44), 3) := by decide +kernel
theorem dX4_takeName_127 : decode cX4_takeName 127 = .ok (.aload_n 0, 1) := by decide +kernel
theorem dX4_takeName_128 : decode cX4_takeName 128 = .ok (.aload_n 0, 1) := by decide +kernel
theorem dX4_takeName_129 : decode cX4_takeName 129 = .ok (.getfield 21, 3) := by decide +kernel
theorem dX4_takeName_132 : decode cX4_takeName 132 = .ok (.putfield 18, 3) := by decide +kernel
theorem dX4_takeName_135 : decode cX4_takeName 135 = .ok (.iload_n 2, 1) := by decide +kernel
theorem dX4_takeName_136 : decode cX4_takeName 136 = .ok (.ireturn, 1) := by decide +kernel
theorem dX4_allow_0 : decode cX4_allow 0 = .ok (.aload_n 0, 1) := by decide +kernel
theorem dX4_allow_1 : decode cX4_allow 1 = .ok (.getfield 37, 3) := by decide +kernel
theorem dX4_allow_4 : decode cX4_allow 4 = .ok (.iload_n 1, 1) := by decide +kernel
theorem dX4_allow_5 : decode cX4_allow 5 = .ok (.invokevirtual 83, 3) := by decide +kernel
theorem dX4_allow_8 : decode cX4_allow 8 = .ok (.aload_n 0, 1) := by decide +kernel
theorem dX4_allow_9 : decode cX4_allow 9 = .ok (.iload_n 2, 1) := by decide +kernel
theorem dX4_allow_10 : decode cX4_allow 10 = .ok (.putfield 9, 3) := by decide +kernel
theorem dX4_allow_13 : decode cX4_allow 13 = .ok (.return_, 1) := by decide +kernel
theorem dX4_readQuestion_0 : decode cX4_readQuestion 0 = .ok (.aload_n 0, 1) := by decide +kernel
theorem dX4_readQuestion_1 : decode cX4_readQuestion 1 = .ok (.aload_n 1, 1) := by decide +kernel
theorem dX4_readQuestion_2 : decode cX4_readQuestion 2 = .ok (.invokevirtual 87, 3) := by decide +kernel
theorem dX4_readQuestion_5 : decode cX4_readQuestion 5 = .ok (.aload_n 0, 1) := by decide +kernel
theorem dX4_readQuestion_6 : decode cX4_readQuestion 6 = .ok (.invokevirtual 73, 3) := by decide +kernel
theorem dX4_readQuestion_9 : decode cX4_readQuestion 9 = .ok (.istore_n 2, 1) := by decide +kernel
theorem dX4_readQuestion_10 : decode cX4_readQuestion 10 = .ok (.iload_n 2, 1) := by decide +kernel
theorem dX4_readQuestion_11 : decode cX4_readQuestion 11 = .ok (.bipush 32, 2) := by decide +kernel
theorem dX4_readQuestion_13 : decode cX4_readQuestion 13 = .ok (.if_icmp .ge 14, 3) := by decide +kernel
theorem dX4_readQuestion_16 : decode cX4_readQuestion 16 = .ok (.aload_n 0, 1) := by decide +kernel
theorem dX4_readQuestion_17 : decode cX4_readQuestion 17 = .ok (.iconst 1, 1) := by decide +kernel
theorem dX4_readQuestion_18 : decode cX4_readQuestion 18 = .ok (.aload_n 0, 1) := by decide +kernel
theorem dX4_readQuestion_19 : decode cX4_readQuestion 19 = .ok (.getfield 18, 3) := by decide +kernel
theorem dX4_readQuestion_22 : decode cX4_readQuestion 22 = .ok (.invokevirtual 76, 3) := by decide +kernel
theorem dX4_readQuestion_25 : decode cX4_readQuestion 25 = .ok (.iload_n 2, 1) := by decide +kernel
theorem dX4_readQuestion_26 : decode cX4_readQuestion 26 = .ok (.ireturn, 1) := by decide +kernel
theorem dX4_readQuestion_27 : decode cX4_readQuestion 27 = .ok (.aload_n 0, 1) := by decide +kernel
theorem dX4_readQuestion_28 : decode cX4_readQuestion 28 = .ok (.aload_n 0, 1) := by decide +kernel
theorem dX4_readQuestion_29 : decode cX4_readQuestion 29 = .ok (.getfield 21, 3) := by decide +kernel
theorem dX4_readQuestion_32 : decode cX4_readQuestion 32 = .ok (.putfield 18, 3) := by decide +kernel
theorem dX4_readQuestion_35 : decode cX4_readQuestion 35 = .ok (.aload_n 0, 1) := by decide +kernel
theorem dX4_readQuestion_36 : decode cX4_readQuestion 36 = .ok (.iconst 0, 1) := by decide +kernel
theorem dX4_readQuestion_37 : decode cX4_readQuestion 37 = .ok (.ldc 90, 2) := by decide +kernel
theorem dX4_readQuestion_39 : decode cX4_readQuestion 39 = .ok (.invokevirtual 91, 3) := by decide +kernel
theorem dX4_readQuestion_42 : decode cX4_readQuestion 42 = .ok (.iload_n 2, 1) := by decide +kernel
theorem dX4_readQuestion_43 : decode cX4_readQuestion 43 = .ok (.bipush 34, 2) := by decide +kernel
theorem dX4_readQuestion_45 : decode cX4_readQuestion 45 = .ok (.if_icmp .gt 10, 3) := by decide +kernel
theorem dX4_readQuestion_48 : decode cX4_readQuestion 48 = .ok (.aload_n 0, 1) := by decide +kernel
theorem dX4_readQuestion_49 : decode cX4_readQuestion 49 = .ok (.invokevirtual 94, 3) := by decide +kernel
theorem dX4_readQuestion_52 : decode cX4_readQuestion 52 = .ok (.goto 7, 3) := by decide +kernel
theorem dX4_readQuestion_55 : decode cX4_readQuestion 55 = .ok (.aload_n 0, 1) := by decide +kernel
theorem dX4_readQuestion_56 : decode cX4_readQuestion 56 = .ok (.invokevirtual 97, 3) := by decide +kernel
theorem dX4_readQuestion_59 : decode cX4_readQuestion 59 = .ok (.aload_n 0, 1) := by decide +kernel
theorem dX4_readQuestion_60 : decode cX4_readQuestion 60 = .ok (.invokevirtual 55, 3) := by decide +kernel
theorem dX4_readQuestion_63 : decode cX4_readQuestion 63 = .ok (.iconst (-1), 1) := by decide +kernel
theorem dX4_readQuestion_64 : decode cX4_readQuestion 64 = .ok (.if_icmp .eq 12, 3) := by decide +kernel
theorem dX4_readQuestion_67 : decode cX4_readQuestion 67 = .ok (.aload_n 0, 1) := by decide +kernel
theorem dX4_readQuestion_68 : decode cX4_readQuestion 68 = .ok (.iconst 1, 1) := by decide +kernel
theorem dX4_readQuestion_69 : decode cX4_readQuestion 69 = .ok (.aload_n 0, 1) := by decide +kernel
theorem dX4_readQuestion_70 : decode cX4_readQuestion 70 = .ok (.getfield 18, 3) := by decide +kernel
theorem dX4_readQuestion_73 : decode cX4_readQuestion 73 = .ok (.invokevirtual 76, 3) := by decide +kernel
theorem dX4_readQuestion_76 : decode cX4_readQuestion 76 = .ok (.iload_n 2, 1) := by decide +kernel
theorem dX4_readQuestion_77 : decode cX4_readQuestion 77 = .ok (.ireturn, 1) := by decide +kernel
theorem dX4_test_0 : decode cX4_test 0 = .ok (.aload_n 0, 1) := by decide +kernel
theorem dX4_test_1 : decode cX4_test 1 = .ok (.invokevirtual 100, 3) := by decide +kernel
theorem dX4_test_4 : decode cX4_test 4 = .ok (.iconst 0, 1) := by decide +kernel
theorem dX4_test_5 : decode cX4_test 5 = .ok (.istore_n 1, 1) := by decide +kernel
theorem dX4_test_6 : decode cX4_test 6 = .ok (.iload_n 1, 1) := by decide +kernel
theorem dX4_test_7 : decode cX4_test 7 = .ok (.sipush 1600, 3) := by decide +kernel
theorem dX4_test_10 : decode cX4_test 10 = .ok (.if_icmp .ge 31, 3) := by decide +kernel
theorem dX4_test_13 : decode cX4_test 13 = .ok (.aload_n 0, 1) := by decide +kernel
theorem dX4_test_14 : decode cX4_test 14 = .ok (.bipush 26, 2) := by decide +kernel
theorem dX4_test_16 : decode cX4_test 16 = .ok (.invokevirtual 103, 3) := by decide +kernel
theorem dX4_test_19 : decode cX4_test 19 = .ok (.ifCond .eq 22, 3) := by decide +kernel
theorem dX4_test_22 : decode cX4_test 22 = .ok (.aload_n 0, 1) := by decide +kernel
theorem dX4_test_23 : decode cX4_test 23 = .ok (.invokevirtual 100, 3) := by decide +kernel
theorem dX4_test_26 : decode cX4_test 26 = .ok (.aload_n 0, 1) := by decide +kernel
theorem dX4_test_27 : decode cX4_test 27 = .ok (.getfield 37, 3) := by decide +kernel
theorem dX4_test_30 : decode cX4_test 30 = .ok (.bipush 26, 2) := by decide +kernel
theorem dX4_test_32 : decode cX4_test 32 = .ok (.invokevirtual 106, 3) := by decide +kernel
theorem dX4_test_35 : decode cX4_test 35 = .ok (.iinc 1 1, 3) := by decide +kernel
theorem dX4_test_38 : decode cX4_test 38 = .ok (.goto (-32), 3) := by decide +kernel
theorem dX4_test_41 : decode cX4_test 41 = .ok (.return_, 1) := by decide +kernel
theorem dX4_both_0 : decode cX4_both 0 = .ok (.aload_n 0, 1) := by decide +kernel
theorem dX4_both_1 : decode cX4_both 1 = .ok (.invokevirtual 109, 3) := by decide +kernel
theorem dX4_both_4 : decode cX4_both 4 = .ok (.iconst 0, 1) := by decide +kernel
theorem dX4_both_5 : decode cX4_both 5 = .ok (.istore_n 1, 1) := by decide +kernel
theorem dX4_both_6 : decode cX4_both 6 = .ok (.iload_n 1, 1) := by decide +kernel
theorem dX4_both_7 : decode cX4_both 7 = .ok (.sipush 1600, 3) := by decide +kernel
theorem dX4_both_10 : decode cX4_both 10 = .ok (.if_icmp .ge 31, 3) := by decide +kernel
theorem dX4_both_13 : decode cX4_both 13 = .ok (.aload_n 0, 1) := by decide +kernel
theorem dX4_both_14 : decode cX4_both 14 = .ok (.bipush 27, 2) := by decide +kernel
theorem dX4_both_16 : decode cX4_both 16 = .ok (.invokevirtual 103, 3) := by decide +kernel
theorem dX4_both_19 : decode cX4_both 19 = .ok (.ifCond .eq 22, 3) := by decide +kernel
theorem dX4_both_22 : decode cX4_both 22 = .ok (.aload_n 0, 1) := by decide +kernel
theorem dX4_both_23 : decode cX4_both 23 = .ok (.invokevirtual 109, 3) := by decide +kernel
theorem dX4_both_26 : decode cX4_both 26 = .ok (.aload_n 0, 1) := by decide +kernel
theorem dX4_both_27 : decode cX4_both 27 = .ok (.getfield 37, 3) := by decide +kernel
theorem dX4_both_30 : decode cX4_both 30 = .ok (.bipush 27, 2) := by decide +kernel
theorem dX4_both_32 : decode cX4_both 32 = .ok (.invokevirtual 106, 3) := by decide +kernel
theorem dX4_both_35 : decode cX4_both 35 = .ok (.iinc 1 1, 3) := by decide +kernel
theorem dX4_both_38 : decode cX4_both 38 = .ok (.goto (-32), 3) := by decide +kernel
theorem dX4_both_41 : decode cX4_both 41 = .ok (.return_, 1) := by decide +kernel
theorem dX4_fact_0 : decode cX4_fact 0 = .ok (.aload_n 0, 1) := by decide +kernel
theorem dX4_fact_1 : decode cX4_fact 1 = .ok (.invokevirtual 73, 3) := by decide +kernel
theorem dX4_fact_4 : decode cX4_fact 4 = .ok (.istore_n 1, 1) := by decide +kernel
theorem dX4_fact_5 : decode cX4_fact 5 = .ok (.iload_n 1, 1) := by decide +kernel
theorem dX4_fact_6 : decode cX4_fact 6 = .ok (.bipush 28, 2) := by decide +kernel
theorem dX4_fact_8 : decode cX4_fact 8 = .ok (.if_icmp .ne 40, 3) := by decide +kernel
theorem dX4_fact_11 : decode cX4_fact 11 = .ok (.aload_n 0, 1) := by decide +kernel
theorem dX4_fact_12 : decode cX4_fact 12 = .ok (.aload_n 0, 1) := by decide +kernel
theorem dX4_fact_13 : decode cX4_fact 13 = .ok (.getfield 21, 3) := by decide +kernel
theorem dX4_fact_16 : decode cX4_fact 16 = .ok (.invokevirtual 112, 3) := by decide +kernel
theorem dX4_fact_19 : decode cX4_fact 19 = .ok (.ifCond .eq 162, 3) := by decide +kernel
theorem dX4_fact_22 : decode cX4_fact 22 = .ok (.aload_n 0, 1) := by decide +kernel
theorem dX4_fact_23 : decode cX4_fact 23 = .ok (.invokevirtual 109, 3) := by decide +kernel
theorem dX4_fact_26 : decode cX4_fact 26 = .ok (.aload_n 0, 1) := by decide +kernel
theorem dX4_fact_27 : decode cX4_fact 27 = .ok (.getfield 37, 3) := by decide +kernel
theorem dX4_fact_30 : decode cX4_fact 30 = .ok (.bipush 28, 2) := by decide +kernel
theorem dX4_fact_32 : decode cX4_fact 32 = .ok (.invokevirtual 106, 3) := by decide +kernel
theorem dX4_fact_35 : decode cX4_fact 35 = .ok (.aload_n 0, 1) := by decide +kernel
theorem dX4_fact_36 : decode cX4_fact 36 = .ok (.dup, 1) := by decide +kernel
theorem dX4_fact_37 : decode cX4_fact 37 = .ok (.getfield 15, 3) := by decide +kernel
theorem dX4_fact_40 : decode cX4_fact 40 = .ok (.iconst 1, 1) := by decide +kernel
theorem dX4_fact_41 : decode cX4_fact 41 = .ok (.isub, 1) := by decide +kernel
theorem dX4_fact_42 : decode cX4_fact 42 = .ok (.putfield 15, 3) := by decide +kernel
theorem dX4_fact_45 : decode cX4_fact 45 = .ok (.goto 136, 3) := by decide +kernel
theorem dX4_fact_48 : decode cX4_fact 48 = .ok (.iload_n 1, 1) := by decide +kernel
theorem dX4_fact_49 : decode cX4_fact 49 = .ok (.bipush 29, 2) := by decide +kernel
theorem dX4_fact_51 : decode cX4_fact 51 = .ok (.if_icmp .ne 22, 3) := by decide +kernel
theorem dX4_fact_54 : decode cX4_fact 54 = .ok (.aload_n 0, 1) := by decide +kernel
theorem dX4_fact_55 : decode cX4_fact 55 = .ok (.aload_n 0, 1) := by decide +kernel
theorem dX4_fact_56 : decode cX4_fact 56 = .ok (.getfield 21, 3) := by decide +kernel
theorem dX4_fact_59 : decode cX4_fact 59 = .ok (.putfield 18, 3) := by decide +kernel
theorem dX4_fact_62 : decode cX4_fact 62 = .ok (.aload_n 0, 1) := by decide +kernel
theorem dX4_fact_63 : decode cX4_fact 63 = .ok (.getfield 37, 3) := by decide +kernel
theorem dX4_fact_66 : decode cX4_fact 66 = .ok (.iconst 1, 1) := by decide +kernel
theorem dX4_fact_67 : decode cX4_fact 67 = .ok (.invokevirtual 115, 3) := by decide +kernel
theorem dX4_fact_70 : decode cX4_fact 70 = .ok (.goto 111, 3) := by decide +kernel
theorem dX4_fact_73 : decode cX4_fact 73 = .ok (.aload_n 0, 1) := by decide +kernel
theorem dX4_fact_74 : decode cX4_fact 74 = .ok (.invokevirtual 55, 3) := by decide +kernel
theorem dX4_fact_77 : decode cX4_fact 77 = .ok (.bipush 91, 2) := by decide +kernel
theorem dX4_fact_79 : decode cX4_fact 79 = .ok (.if_icmp .ne 39, 3) := by decide +kernel
theorem dX4_fact_82 : decode cX4_fact 82 = .ok (.aload_n 0, 1) := by decide +kernel
theorem dX4_fact_83 : decode cX4_fact 83 = .ok (.aload_n 0, 1) := by decide +kernel
theorem dX4_fact_84 : decode cX4_fact 84 = .ok (.getfield 18, 3) := by decide +kernel
theorem dX4_fact_87 : decode cX4_fact 87 = .ok (.iconst 1, 1) := by decide +kernel
theorem dX4_fact_88 : decode cX4_fact 88 = .ok (.iadd, 1) := by decide +kernel
theorem dX4_fact_89 : decode cX4_fact 89 = .ok (.invokevirtual 112, 3) := by decide +kernel
theorem dX4_fact_92 : decode cX4_fact 92 = .ok (.ifCond .eq 89, 3) := by decide +kernel
theorem dX4_fact_95 : decode cX4_fact 95 = .ok (.aload_n 0, 1) := by decide +kernel
theorem dX4_fact_96 : decode cX4_fact 96 = .ok (.invokevirtual 94, 3) := by decide +kernel
theorem dX4_fact_99 : decode cX4_fact 99 = .ok (.aload_n 0, 1) := by decide +kernel
theorem dX4_fact_100 : decode cX4_fact 100 = .ok (.bipush 93, 2) := by decide +kernel
theorem dX4_fact_102 : decode cX4_fact 102 = .ok (.invokevirtual 118, 3) := by decide +kernel
theorem dX4_fact_105 : decode cX4_fact 105 = .ok (.aload_n 0, 1) := by decide +kernel
theorem dX4_fact_106 : decode cX4_fact 106 = .ok (.dup, 1) := by decide +kernel
theorem dX4_fact_107 : decode cX4_fact 107 = .ok (.getfield 15, 3) := by decide +kernel
theorem dX4_fact_110 : decode cX4_fact 110 = .ok (.iconst 1, 1) := by decide +kernel
theorem dX4_fact_111 : decode cX4_fact 111 = .ok (.isub, 1) := by decide +kernel
theorem dX4_fact_112 : decode cX4_fact 112 = .ok (.putfield 15, 3) := by decide +kernel
theorem dX4_fact_115 : decode cX4_fact 115 = .ok (.goto 66, 3) := by decide +kernel
theorem dX4_fact_118 : decode cX4_fact 118 = .ok (.aload_n 0, 1) := by decide +kernel
theorem dX4_fact_119 : decode cX4_fact 119 = .ok (.invokevirtual 97, 3) := by decide +kernel
theorem dX4_fact_122 : decode cX4_fact 122 = .ok (.aload_n 0, 1) := by decide +kernel
theorem dX4_fact_123 : decode cX4_fact 123 = .ok (.invokevirtual 55, 3) := by decide +kernel
theorem dX4_fact_126 : decode cX4_fact 126 = .ok (.istore_n 2, 1) := by decide +kernel
theorem dX4_fact_127 : decode cX4_fact 127 = .ok (.iload_n 2, 1) := by decide +kernel
theorem dX4_fact_128 : decode cX4_fact 128 = .ok (.bipush 60, 2) := by decide +kernel
theorem dX4_fact_130 : decode cX4_fact 130 = .ok (.if_icmp .eq 15, 3) := by decide +kernel
theorem dX4_fact_133 : decode cX4_fact 133 = .ok (.iload_n 2, 1) := by decide +kernel
theorem dX4_fact_134 : decode cX4_fact 134 = .ok (.bipush 62, 2) := by decide +kernel
theorem dX4_fact_136 : decode cX4_fact 136 = .ok (.if_icmp .eq 9, 3) := by decide +kernel
theorem dX4_fact_139 : decode cX4_fact 139 = .ok (.iload_n 2, 1) := by decide +kernel
theorem dX4_fact_140 : decode cX4_fact 140 = .ok (.bipush 61, 2) := by decide +kernel
theorem dX4_fact_142 : decode cX4_fact 142 = .ok (.if_icmp .ne 30, 3) := by decide +kernel
theorem dX4_fact_145 : decode cX4_fact 145 = .ok (.aload_n 0, 1) := by decide +kernel
theorem dX4_fact_146 : decode cX4_fact 146 = .ok (.dup, 1) := by decide +kernel
theorem dX4_fact_147 : decode cX4_fact 147 = .ok (.getfield 18, 3) := by decide +kernel
theorem dX4_fact_150 : decode cX4_fact 150 = .ok (.iconst 1, 1) := by decide +kernel
theorem dX4_fact_151 : decode cX4_fact 151 = .ok (.iadd, 1) := by decide +kernel
theorem dX4_fact_152 : decode cX4_fact 152 = .ok (.putfield 18, 3) := by decide +kernel
theorem dX4_fact_155 : decode cX4_fact 155 = .ok (.aload_n 0, 1) := by decide +kernel
theorem dX4_fact_156 : decode cX4_fact 156 = .ok (.invokevirtual 97, 3) := by decide +kernel
theorem dX4_fact_159 : decode cX4_fact 159 = .ok (.aload_n 0, 1) := by decide +kernel
theorem dX4_fact_160 : decode cX4_fact 160 = .ok (.getfield 37, 3) := by decide +kernel
theorem dX4_fact_163 : decode cX4_fact 163 = .ok (.iload_n 2, 1) := by decide +kernel
theorem dX4_fact_164 : decode cX4_fact 164 = .ok (.iconst (-1), 1) := by decide +kernel
theorem dX4_fact_165 : decode cX4_fact 165 = .ok (.ixor, 1) := by decide +kernel
theorem dX4_fact_166 : decode cX4_fact 166 = .ok (.invokevirtual 115, 3) := by decide +kernel
theorem dX4_fact_169 : decode cX4_fact 169 = .ok (.goto 12, 3) := by decide +kernel
theorem dX4_fact_172 : decode cX4_fact 172 = .ok (.aload_n 0, 1) := by decide +kernel
theorem dX4_fact_173 : decode cX4_fact 173 = .ok (.iconst 1, 1) := by decide +kernel
theorem dX4_fact_174 : decode cX4_fact 174 = .ok (.aload_n 0, 1) := by decide +kernel
theorem dX4_fact_175 : decode cX4_fact 175 = .ok (.getfield 18, 3) := by decide +kernel
theorem dX4_fact_178 : decode cX4_fact 178 = .ok (.invokevirtual 76, 3) := by decide +kernel
theorem dX4_fact_181 : decode cX4_fact 181 = .ok (.return_, 1) := by decide +kernel
theorem dX4_sum_0 : decode cX4_sum 0 = .ok (.aload_n 0, 1) := by decide +kernel
theorem dX4_sum_1 : decode cX4_sum 1 = .ok (.invokevirtual 121, 3) := by decide +kernel
theorem dX4_sum_4 : decode cX4_sum 4 = .ok (.aload_n 0, 1) := by decide +kernel
theorem dX4_sum_5 : decode cX4_sum 5 = .ok (.invokevirtual 55, 3) := by decide +kernel
theorem dX4_sum_8 : decode cX4_sum 8 = .ok (.istore_n 1, 1) := by decide +kernel
theorem dX4_sum_9 : decode cX4_sum 9 = .ok (.iconst 0, 1) := by decide +kernel
theorem dX4_sum_10 : decode cX4_sum 10 = .ok (.istore_n 2, 1) := by decide +kernel
theorem dX4_sum_11 : decode cX4_sum 11 = .ok (.iload_n 2, 1) := by decide +kernel
theorem dX4_sum_12 : decode cX4_sum 12 = .ok (.sipush 1600, 3) := by decide +kernel
theorem dX4_sum_15 : decode cX4_sum 15 = .ok (.if_icmp .ge 50, 3) := by decide +kernel
theorem dX4_sum_18 : decode cX4_sum 18 = .ok (.iload_n 1, 1) := by decide +kernel
theorem dX4_sum_19 : decode cX4_sum 19 = .ok (.bipush 43, 2) := by decide +kernel
theorem dX4_sum_21 : decode cX4_sum 21 = .ok (.if_icmp .eq 9, 3) := by decide +kernel
theorem dX4_sum_24 : decode cX4_sum 24 = .ok (.iload_n 1, 1) := by decide +kernel
theorem dX4_sum_25 : decode cX4_sum 25 = .ok (.bipush 45, 2) := by decide +kernel
theorem dX4_sum_27 : decode cX4_sum 27 = .ok (.if_icmp .ne 38, 3) := by decide +kernel
theorem dX4_sum_30 : decode cX4_sum 30 = .ok (.aload_n 0, 1) := by decide +kernel
theorem dX4_sum_31 : decode cX4_sum 31 = .ok (.dup, 1) := by decide +kernel
theorem dX4_sum_32 : decode cX4_sum 32 = .ok (.getfield 18, 3) := by decide +kernel
theorem dX4_sum_35 : decode cX4_sum 35 = .ok (.iconst 1, 1) := by decide +kernel
theorem dX4_sum_36 : decode cX4_sum 36 = .ok (.iadd, 1) := by decide +kernel
theorem dX4_sum_37 : decode cX4_sum 37 = .ok (.putfield 18, 3) := by decide +kernel
theorem dX4_sum_40 : decode cX4_sum 40 = .ok (.aload_n 0, 1) := by decide +kernel
theorem dX4_sum_41 : decode cX4_sum 41 = .ok (.invokevirtual 121, 3) := by decide +kernel
theorem dX4_sum_44 : decode cX4_sum 44 = .ok (.aload_n 0, 1) := by decide +kernel
theorem dX4_sum_45 : decode cX4_sum 45 = .ok (.getfield 37, 3) := by decide +kernel
theorem dX4_sum_48 : decode cX4_sum 48 = .ok (.iload_n 1, 1) := by decide +kernel
theorem dX4_sum_49 : decode cX4_sum 49 = .ok (.iconst (-1), 1) := by decide +kernel
theorem dX4_sum_50 : decode cX4_sum 50 = .ok (.ixor, 1) := by decide +kernel
theorem dX4_sum_51 : decode cX4_sum 51 = .ok (.invokevirtual 115, 3) := by decide +kernel
theorem dX4_sum_54 : decode cX4_sum 54 = .ok (.aload_n 0, 1) := by decide +kernel
theorem dX4_sum_55 : decode cX4_sum 55 = .ok (.invokevirtual 55, 3) := by decide +kernel
theorem dX4_sum_58 : decode cX4_sum 58 = .ok (.istore_n 1, 1) := by decide +kernel
theorem dX4_sum_59 : decode cX4_sum 59 = .ok (.iinc 2 1, 3) := by decide +kernel
theorem dX4_sum_62 : decode cX4_sum 62 = .ok (.goto (-51), 3) := by decide +kernel
theorem dX4_sum_65 : decode cX4_sum 65 = .ok (.return_, 1) := by decide +kernel
theorem dX4_product_0 : decode cX4_product 0 = .ok (.aload_n 0, 1) := by decide +kernel
theorem dX4_product_1 : decode cX4_product 1 = .ok (.invokevirtual 124, 3) := by decide +kernel
theorem dX4_product_4 : decode cX4_product 4 = .ok (.aload_n 0, 1) := by decide +kernel
theorem dX4_product_5 : decode cX4_product 5 = .ok (.invokevirtual 55, 3) := by decide +kernel
theorem dX4_product_8 : decode cX4_product 8 = .ok (.istore_n 1, 1) := by decide +kernel
theorem dX4_product_9 : decode cX4_product 9 = .ok (.iconst 0, 1) := by decide +kernel
theorem dX4_product_10 : decode cX4_product 10 = .ok (.istore_n 2, 1) := by decide +kernel
theorem dX4_product_11 : decode cX4_product 11 = .ok (.iload_n 2, 1) := by decide +kernel
theorem dX4_product_12 : decode cX4_product 12 = .ok (.sipush 1600, 3) := by decide +kernel
theorem dX4_product_15 : decode cX4_product 15 = .ok (.if_icmp .ge 50, 3) := by decide +kernel
theorem dX4_product_18 : decode cX4_product 18 = .ok (.iload_n 1, 1) := by decide +kernel
theorem dX4_product_19 : decode cX4_product 19 = .ok (.bipush 42, 2) := by decide +kernel
theorem dX4_product_21 : decode cX4_product 21 = .ok (.if_icmp .eq 9, 3) := by decide +kernel
theorem dX4_product_24 : decode cX4_product 24 = .ok (.iload_n 1, 1) := by decide +kernel
theorem dX4_product_25 : decode cX4_product 25 = .ok (.bipush 47, 2) := by decide +kernel
theorem dX4_product_27 : decode cX4_product 27 = .ok (.if_icmp .ne 38, 3) := by decide +kernel
theorem dX4_product_30 : decode cX4_product 30 = .ok (.aload_n 0, 1) := by decide +kernel
theorem dX4_product_31 : decode cX4_product 31 = .ok (.dup, 1) := by decide +kernel
theorem dX4_product_32 : decode cX4_product 32 = .ok (.getfield 18, 3) := by decide +kernel
theorem dX4_product_35 : decode cX4_product 35 = .ok (.iconst 1, 1) := by decide +kernel
theorem dX4_product_36 : decode cX4_product 36 = .ok (.iadd, 1) := by decide +kernel
theorem dX4_product_37 : decode cX4_product 37 = .ok (.putfield 18, 3) := by decide +kernel
theorem dX4_product_40 : decode cX4_product 40 = .ok (.aload_n 0, 1) := by decide +kernel
theorem dX4_product_41 : decode cX4_product 41 = .ok (.invokevirtual 124, 3) := by decide +kernel
theorem dX4_product_44 : decode cX4_product 44 = .ok (.aload_n 0, 1) := by decide +kernel
theorem dX4_product_45 : decode cX4_product 45 = .ok (.getfield 37, 3) := by decide +kernel
theorem dX4_product_48 : decode cX4_product 48 = .ok (.iload_n 1, 1) := by decide +kernel
theorem dX4_product_49 : decode cX4_product 49 = .ok (.iconst (-1), 1) := by decide +kernel
theorem dX4_product_50 : decode cX4_product 50 = .ok (.ixor, 1) := by decide +kernel
theorem dX4_product_51 : decode cX4_product 51 = .ok (.invokevirtual 115, 3) := by decide +kernel
theorem dX4_product_54 : decode cX4_product 54 = .ok (.aload_n 0, 1) := by decide +kernel
theorem dX4_product_55 : decode cX4_product 55 = .ok (.invokevirtual 55, 3) := by decide +kernel
theorem dX4_product_58 : decode cX4_product 58 = .ok (.istore_n 1, 1) := by decide +kernel
theorem dX4_product_59 : decode cX4_product 59 = .ok (.iinc 2 1, 3) := by decide +kernel
theorem dX4_product_62 : decode cX4_product 62 = .ok (.goto (-51), 3) := by decide +kernel
theorem dX4_product_65 : decode cX4_product 65 = .ok (.return_, 1) := by decide +kernel
theorem dX4_part_0 : decode cX4_part 0 = .ok (.aload_n 0, 1) := by decide +kernel
theorem dX4_part_1 : decode cX4_part 1 = .ok (.invokevirtual 55, 3) := by decide +kernel
theorem dX4_part_4 : decode cX4_part 4 = .ok (.istore_n 1, 1) := by decide +kernel
theorem dX4_part_5 : decode cX4_part 5 = .ok (.iload_n 1, 1) := by decide +kernel
theorem dX4_part_6 : decode cX4_part 6 = .ok (.invokestatic 80, 3) := by decide +kernel
theorem dX4_part_9 : decode cX4_part 9 = .ok (.ifCond .eq 21, 3) := by decide +kernel
theorem dX4_part_12 : decode cX4_part 12 = .ok (.aload_n 0, 1) := by decide +kernel
theorem dX4_part_13 : decode cX4_part 13 = .ok (.getfield 37, 3) := by decide +kernel
theorem dX4_part_16 : decode cX4_part 16 = .ok (.aload_n 0, 1) := by decide +kernel
theorem dX4_part_17 : decode cX4_part 17 = .ok (.iconst 0, 1) := by decide +kernel
theorem dX4_part_18 : decode cX4_part 18 = .ok (.sipush 9999, 3) := by decide +kernel
theorem dX4_part_21 : decode cX4_part 21 = .ok (.invokevirtual 127, 3) := by decide +kernel
theorem dX4_part_24 : decode cX4_part 24 = .ok (.invokevirtual 115, 3) := by decide +kernel
theorem dX4_part_27 : decode cX4_part 27 = .ok (.goto 53, 3) := by decide +kernel
theorem dX4_part_30 : decode cX4_part 30 = .ok (.iload_n 1, 1) := by decide +kernel
theorem dX4_part_31 : decode cX4_part 31 = .ok (.bipush 40, 2) := by decide +kernel
theorem dX4_part_33 : decode cX4_part 33 = .ok (.if_icmp .ne 39, 3) := by decide +kernel
theorem dX4_part_36 : decode cX4_part 36 = .ok (.aload_n 0, 1) := by decide +kernel
theorem dX4_part_37 : decode cX4_part 37 = .ok (.aload_n 0, 1) := by decide +kernel
theorem dX4_part_38 : decode cX4_part 38 = .ok (.getfield 18, 3) := by decide +kernel
theorem dX4_part_41 : decode cX4_part 41 = .ok (.iconst 1, 1) := by decide +kernel
theorem dX4_part_42 : decode cX4_part 42 = .ok (.iadd, 1) := by decide +kernel
theorem dX4_part_43 : decode cX4_part 43 = .ok (.invokevirtual 112, 3) := by decide +kernel
theorem dX4_part_46 : decode cX4_part 46 = .ok (.ifCond .eq 34, 3) := by decide +kernel
theorem dX4_part_49 : decode cX4_part 49 = .ok (.aload_n 0, 1) := by decide +kernel
theorem dX4_part_50 : decode cX4_part 50 = .ok (.invokevirtual 97, 3) := by decide +kernel
theorem dX4_part_53 : decode cX4_part 53 = .ok (.aload_n 0, 1) := by decide +kernel
theorem dX4_part_54 : decode cX4_part 54 = .ok (.bipush 41, 2) := by decide +kernel
theorem dX4_part_56 : decode cX4_part 56 = .ok (.invokevirtual 118, 3) := by decide +kernel
theorem dX4_part_59 : decode cX4_part 59 = .ok (.aload_n 0, 1) := by decide +kernel
theorem dX4_part_60 : decode cX4_part 60 = .ok (.dup, 1) := by decide +kernel
theorem dX4_part_61 : decode cX4_part 61 = .ok (.getfield 15, 3) := by decide +kernel
theorem dX4_part_64 : decode cX4_part 64 = .ok (.iconst 1, 1) := by decide +kernel
theorem dX4_part_65 : decode cX4_part 65 = .ok (.isub, 1) := by decide +kernel
theorem dX4_part_66 : decode cX4_part 66 = .ok (.putfield 15, 3) := by decide +kernel
theorem dX4_part_69 : decode cX4_part 69 = .ok (.goto 11, 3) := by decide +kernel
theorem dX4_part_72 : decode cX4_part 72 = .ok (.aload_n 0, 1) := by decide +kernel
theorem dX4_part_73 : decode cX4_part 73 = .ok (.aload_n 0, 1) := by decide +kernel
theorem dX4_part_74 : decode cX4_part 74 = .ok (.invokevirtual 73, 3) := by decide +kernel
theorem dX4_part_77 : decode cX4_part 77 = .ok (.invokevirtual 131, 3) := by decide +kernel
theorem dX4_part_80 : decode cX4_part 80 = .ok (.return_, 1) := by decide +kernel
theorem dX4_wordPart_0 : decode cX4_wordPart 0 = .ok (.iload_n 1, 1) := by decide +kernel
theorem dX4_wordPart_1 : decode cX4_wordPart 1 = .ok (.bipush 30, 2) := by decide +kernel
theorem dX4_wordPart_3 : decode cX4_wordPart 3 = .ok (.if_icmp .eq 9, 3) := by decide +kernel
theorem dX4_wordPart_6 : decode cX4_wordPart 6 = .ok (.iload_n 1, 1) := by decide +kernel
theorem dX4_wordPart_7 : decode cX4_wordPart 7 = .ok (.bipush 31, 2) := by decide +kernel
theorem dX4_wordPart_9 : decode cX4_wordPart 9 = .ok (.if_icmp .ne 19, 3) := by decide +kernel
theorem dX4_wordPart_12 : decode cX4_wordPart 12 = .ok (.aload_n 0, 1) := by decide +kernel
theorem dX4_wordPart_13 : decode cX4_wordPart 13 = .ok (.aload_n 0, 1) := by decide +kernel
theorem dX4_wordPart_14 : decode cX4_wordPart 14 = .ok (.getfield 21, 3) := by decide +kernel
theorem dX4_wordPart_17 : decode cX4_wordPart 17 = .ok (.putfield 18, 3) := by decide +kernel
theorem dX4_wordPart_20 : decode cX4_wordPart 20 = .ok (.aload_n 0, 1) := by decide +kernel
theorem dX4_wordPart_21 : decode cX4_wordPart 21 = .ok (.iload_n 1, 1) := by decide +kernel
theorem dX4_wordPart_22 : decode cX4_wordPart 22 = .ok (.invokevirtual 134, 3) := by decide +kernel
theorem dX4_wordPart_25 : decode cX4_wordPart 25 = .ok (.goto 100, 3) := by decide +kernel
theorem dX4_wordPart_28 : decode cX4_wordPart 28 = .ok (.iload_n 1, 1) := by decide +kernel
theorem dX4_wordPart_29 : decode cX4_wordPart 29 = .ok (.ifCond .lt 20, 3) := by decide +kernel
theorem dX4_wordPart_32 : decode cX4_wordPart 32 = .ok (.iload_n 1, 1) := by decide +kernel
theorem dX4_wordPart_33 : decode cX4_wordPart 33 = .ok (.bipush 31, 2) := by decide +kernel
theorem dX4_wordPart_35 : decode cX4_wordPart 35 = .ok (.if_icmp .gt 14, 3) := by decide +kernel
theorem dX4_wordPart_38 : decode cX4_wordPart 38 = .ok (.aload_n 0, 1) := by decide +kernel
theorem dX4_wordPart_39 : decode cX4_wordPart 39 = .ok (.getfield 9, 3) := by decide +kernel
theorem dX4_wordPart_42 : decode cX4_wordPart 42 = .ok (.iload_n 1, 1) := by decide +kernel
theorem dX4_wordPart_43 : decode cX4_wordPart 43 = .ok (.ishr, 1) := by decide +kernel
theorem dX4_wordPart_44 : decode cX4_wordPart 44 = .ok (.iconst 1, 1) := by decide +kernel
theorem dX4_wordPart_45 : decode cX4_wordPart 45 = .ok (.iand, 1) := by decide +kernel
theorem dX4_wordPart_46 : decode cX4_wordPart 46 = .ok (.ifCond .ne 15, 3) := by decide +kernel
theorem dX4_wordPart_49 : decode cX4_wordPart 49 = .ok (.aload_n 0, 1) := by decide +kernel
theorem dX4_wordPart_50 : decode cX4_wordPart 50 = .ok (.iconst 1, 1) := by decide +kernel
theorem dX4_wordPart_51 : decode cX4_wordPart 51 = .ok (.aload_n 0, 1) := by decide +kernel
theorem dX4_wordPart_52 : decode cX4_wordPart 52 = .ok (.getfield 18, 3) := by decide +kernel
theorem dX4_wordPart_55 : decode cX4_wordPart 55 = .ok (.invokevirtual 76, 3) := by decide +kernel
theorem dX4_wordPart_58 : decode cX4_wordPart 58 = .ok (.goto 67, 3) := by decide +kernel
theorem dX4_wordPart_61 : decode cX4_wordPart 61 = .ok (.iload_n 1, 1) := by decide +kernel
theorem dX4_wordPart_62 : decode cX4_wordPart 62 = .ok (.bipush 24, 2) := by decide +kernel
theorem dX4_wordPart_64 : decode cX4_wordPart 64 = .ok (.if_icmp .eq 9, 3) := by decide +kernel
theorem dX4_wordPart_67 : decode cX4_wordPart 67 = .ok (.iload_n 1, 1) := by decide +kernel
theorem dX4_wordPart_68 : decode cX4_wordPart 68 = .ok (.bipush 25, 2) := by decide +kernel
theorem dX4_wordPart_70 : decode cX4_wordPart 70 = .ok (.if_icmp .ne 39, 3) := by decide +kernel
theorem dX4_wordPart_73 : decode cX4_wordPart 73 = .ok (.aload_n 0, 1) := by decide +kernel
theorem dX4_wordPart_74 : decode cX4_wordPart 74 = .ok (.aload_n 0, 1) := by decide +kernel
theorem dX4_wordPart_75 : decode cX4_wordPart 75 = .ok (.getfield 21, 3) := by decide +kernel
theorem dX4_wordPart_78 : decode cX4_wordPart 78 = .ok (.invokevirtual 112, 3) := by decide +kernel
theorem dX4_wordPart_81 : decode cX4_wordPart 81 = .ok (.ifCond .eq 44, 3) := by decide +kernel
theorem dX4_wordPart_84 : decode cX4_wordPart 84 = .ok (.aload_n 0, 1) := by decide +kernel
theorem dX4_wordPart_85 : decode cX4_wordPart 85 = .ok (.invokevirtual 124, 3) := by decide +kernel
theorem dX4_wordPart_88 : decode cX4_wordPart 88 = .ok (.aload_n 0, 1) := by decide +kernel
theorem dX4_wordPart_89 : decode cX4_wordPart 89 = .ok (.getfield 37, 3) := by decide +kernel
theorem dX4_wordPart_92 : decode cX4_wordPart 92 = .ok (.iload_n 1, 1) := by decide +kernel
theorem dX4_wordPart_93 : decode cX4_wordPart 93 = .ok (.invokevirtual 106, 3) := by decide +kernel
theorem dX4_wordPart_96 : decode cX4_wordPart 96 = .ok (.aload_n 0, 1) := by decide +kernel
theorem dX4_wordPart_97 : decode cX4_wordPart 97 = .ok (.dup, 1) := by decide +kernel
theorem dX4_wordPart_98 : decode cX4_wordPart 98 = .ok (.getfield 15, 3) := by decide +kernel
theorem dX4_wordPart_101 : decode cX4_wordPart 101 = .ok (.iconst 1, 1) := by decide +kernel
theorem dX4_wordPart_102 : decode cX4_wordPart 102 = .ok (.isub, 1) := by decide +kernel
theorem dX4_wordPart_103 : decode cX4_wordPart 103 = .ok (.putfield 15, 3) := by decide +kernel
theorem dX4_wordPart_106 : decode cX4_wordPart 106 = .ok (.goto 19, 3) := by decide +kernel
theorem dX4_wordPart_109 : decode cX4_wordPart 109 = .ok (.aload_n 0, 1) := by decide +kernel
theorem dX4_wordPart_110 : decode cX4_wordPart 110 = .ok (.aload_n 0, 1) := by decide +kernel
theorem dX4_wordPart_111 : decode cX4_wordPart 111 = .ok (.getfield 21, 3) := by decide +kernel
theorem dX4_wordPart_114 : decode cX4_wordPart 114 = .ok (.putfield 18, 3) := by decide +kernel
theorem dX4_wordPart_117 : decode cX4_wordPart 117 = .ok (.aload_n 0, 1) := by decide +kernel
theorem dX4_wordPart_118 : decode cX4_wordPart 118 = .ok (.getfield 37, 3) := by decide +kernel
theorem dX4_wordPart_121 : decode cX4_wordPart 121 = .ok (.iload_n 1, 1) := by decide +kernel
theorem dX4_wordPart_122 : decode cX4_wordPart 122 = .ok (.invokevirtual 106, 3) := by decide +kernel
theorem dX4_wordPart_125 : decode cX4_wordPart 125 = .ok (.return_, 1) := by decide +kernel
theorem dX4_pairPart_0 : decode cX4_pairPart 0 = .ok (.aload_n 0, 1) := by decide +kernel
theorem dX4_pairPart_1 : decode cX4_pairPart 1 = .ok (.invokevirtual 55, 3) := by decide +kernel
theorem dX4_pairPart_4 : decode cX4_pairPart 4 = .ok (.bipush 40, 2) := by decide +kernel
theorem dX4_pairPart_6 : decode cX4_pairPart 6 = .ok (.if_icmp .eq 15, 3) := by decide +kernel
theorem dX4_pairPart_9 : decode cX4_pairPart 9 = .ok (.aload_n 0, 1) := by decide +kernel
theorem dX4_pairPart_10 : decode cX4_pairPart 10 = .ok (.iconst 1, 1) := by decide +kernel
theorem dX4_pairPart_11 : decode cX4_pairPart 11 = .ok (.aload_n 0, 1) := by decide +kernel
theorem dX4_pairPart_12 : decode cX4_pairPart 12 = .ok (.getfield 18, 3) := by decide +kernel
theorem dX4_pairPart_15 : decode cX4_pairPart 15 = .ok (.invokevirtual 76, 3) := by decide +kernel
theorem dX4_pairPart_18 : decode cX4_pairPart 18 = .ok (.goto 54, 3) := by decide +kernel
theorem dX4_pairPart_21 : decode cX4_pairPart 21 = .ok (.aload_n 0, 1) := by decide +kernel
theorem dX4_pairPart_22 : decode cX4_pairPart 22 = .ok (.aload_n 0, 1) := by decide +kernel
theorem dX4_pairPart_23 : decode cX4_pairPart 23 = .ok (.getfield 18, 3) := by decide +kernel
theorem dX4_pairPart_26 : decode cX4_pairPart 26 = .ok (.iconst 1, 1) := by decide +kernel
theorem dX4_pairPart_27 : decode cX4_pairPart 27 = .ok (.iadd, 1) := by decide +kernel
theorem dX4_pairPart_28 : decode cX4_pairPart 28 = .ok (.invokevirtual 112, 3) := by decide +kernel
theorem dX4_pairPart_31 : decode cX4_pairPart 31 = .ok (.ifCond .eq 41, 3) := by decide +kernel
theorem dX4_pairPart_34 : decode cX4_pairPart 34 = .ok (.aload_n 0, 1) := by decide +kernel
theorem dX4_pairPart_35 : decode cX4_pairPart 35 = .ok (.invokevirtual 97, 3) := by decide +kernel
theorem dX4_pairPart_38 : decode cX4_pairPart 38 = .ok (.aload_n 0, 1) := by decide +kernel
theorem dX4_pairPart_39 : decode cX4_pairPart 39 = .ok (.bipush 44, 2) := by decide +kernel
theorem dX4_pairPart_41 : decode cX4_pairPart 41 = .ok (.invokevirtual 118, 3) := by decide +kernel
theorem dX4_pairPart_44 : decode cX4_pairPart 44 = .ok (.aload_n 0, 1) := by decide +kernel
theorem dX4_pairPart_45 : decode cX4_pairPart 45 = .ok (.invokevirtual 97, 3) := by decide +kernel
theorem dX4_pairPart_48 : decode cX4_pairPart 48 = .ok (.aload_n 0, 1) := by decide +kernel
theorem dX4_pairPart_49 : decode cX4_pairPart 49 = .ok (.bipush 41, 2) := by decide +kernel
theorem dX4_pairPart_51 : decode cX4_pairPart 51 = .ok (.invokevirtual 118, 3) := by decide +kernel
theorem dX4_pairPart_54 : decode cX4_pairPart 54 = .ok (.aload_n 0, 1) := by decide +kernel
theorem dX4_pairPart_55 : decode cX4_pairPart 55 = .ok (.getfield 37, 3) := by decide +kernel
theorem dX4_pairPart_58 : decode cX4_pairPart 58 = .ok (.iload_n 1, 1) := by decide +kernel
theorem dX4_pairPart_59 : decode cX4_pairPart 59 = .ok (.invokevirtual 106, 3) := by decide +kernel
theorem dX4_pairPart_62 : decode cX4_pairPart 62 = .ok (.aload_n 0, 1) := by decide +kernel
theorem dX4_pairPart_63 : decode cX4_pairPart 63 = .ok (.dup, 1) := by decide +kernel
theorem dX4_pairPart_64 : decode cX4_pairPart 64 = .ok (.getfield 15, 3) := by decide +kernel
theorem dX4_pairPart_67 : decode cX4_pairPart 67 = .ok (.iconst 1, 1) := by decide +kernel
theorem dX4_pairPart_68 : decode cX4_pairPart 68 = .ok (.isub, 1) := by decide +kernel
theorem dX4_pairPart_69 : decode cX4_pairPart 69 = .ok (.putfield 15, 3) := by decide +kernel
theorem dX4_pairPart_72 : decode cX4_pairPart 72 = .ok (.return_, 1) := by decide +kernel
theorem dX4_open_0 : decode cX4_open 0 = .ok (.aload_n 0, 1) := by decide +kernel
theorem dX4_open_1 : decode cX4_open 1 = .ok (.getfield 15, 3) := by decide +kernel
theorem dX4_open_4 : decode cX4_open 4 = .ok (.bipush 6, 2) := by decide +kernel
theorem dX4_open_6 : decode cX4_open 6 = .ok (.if_icmp .lt 14, 3) := by decide +kernel
theorem dX4_open_9 : decode cX4_open 9 = .ok (.aload_n 0, 1) := by decide +kernel
theorem dX4_open_10 : decode cX4_open 10 = .ok (.iconst 4, 1) := by decide +kernel
theorem dX4_open_11 : decode cX4_open 11 = .ok (.aload_n 0, 1) := by decide +kernel
theorem dX4_open_12 : decode cX4_open 12 = .ok (.getfield 18, 3) := by decide +kernel
theorem dX4_open_15 : decode cX4_open 15 = .ok (.invokevirtual 76, 3) := by decide +kernel
theorem dX4_open_18 : decode cX4_open 18 = .ok (.iconst 0, 1) := by decide +kernel
theorem dX4_open_19 : decode cX4_open 19 = .ok (.ireturn, 1) := by decide +kernel
theorem dX4_open_20 : decode cX4_open 20 = .ok (.aload_n 0, 1) := by decide +kernel
theorem dX4_open_21 : decode cX4_open 21 = .ok (.dup, 1) := by decide +kernel
theorem dX4_open_22 : decode cX4_open 22 = .ok (.getfield 15, 3) := by decide +kernel
theorem dX4_open_25 : decode cX4_open 25 = .ok (.iconst 1, 1) := by decide +kernel
theorem dX4_open_26 : decode cX4_open 26 = .ok (.iadd, 1) := by decide +kernel
theorem dX4_open_27 : decode cX4_open 27 = .ok (.putfield 15, 3) := by decide +kernel
theorem dX4_open_30 : decode cX4_open 30 = .ok (.aload_n 0, 1) := by decide +kernel
theorem dX4_open_31 : decode cX4_open 31 = .ok (.iload_n 1, 1) := by decide +kernel
theorem dX4_open_32 : decode cX4_open 32 = .ok (.putfield 18, 3) := by decide +kernel
theorem dX4_open_35 : decode cX4_open 35 = .ok (.iconst 1, 1) := by decide +kernel
theorem dX4_open_36 : decode cX4_open 36 = .ok (.ireturn, 1) := by decide +kernel
theorem dX4_wordNumber_0 : decode cX4_wordNumber 0 = .ok (.iconst 0, 1) := by decide +kernel
theorem dX4_wordNumber_1 : decode cX4_wordNumber 1 = .ok (.istore_n 1, 1) := by decide +kernel
theorem dX4_wordNumber_2 : decode cX4_wordNumber 2 = .ok (.aload_n 0, 1) := by decide +kernel
theorem dX4_wordNumber_3 : decode cX4_wordNumber 3 = .ok (.getfield 18, 3) := by decide +kernel
theorem dX4_wordNumber_6 : decode cX4_wordNumber 6 = .ok (.istore_n 2, 1) := by decide +kernel
theorem dX4_wordNumber_7 : decode cX4_wordNumber 7 = .ok (.iconst 1, 1) := by decide +kernel
theorem dX4_wordNumber_8 : decode cX4_wordNumber 8 = .ok (.istore_n 3, 1) := by decide +kernel
theorem dX4_wordNumber_9 : decode cX4_wordNumber 9 = .ok (.iconst 0, 1) := by decide +kernel
theorem dX4_wordNumber_10 : decode cX4_wordNumber 10 = .ok (.istore 4, 2) := by decide +kernel
theorem dX4_wordNumber_12 : decode cX4_wordNumber 12 = .ok (.iload 4, 2) := by decide +kernel
theorem dX4_wordNumber_14 : decode cX4_wordNumber 14 = .ok (.ldc 137, 2) := by decide +kernel
theorem dX4_wordNumber_16 : decode cX4_wordNumber 16 = .ok (.invokevirtual 139, 3) := by decide +kernel
theorem dX4_wordNumber_19 : decode cX4_wordNumber 19 = .ok (.if_icmp .ge 87, 3) := by decide +kernel
theorem dX4_wordNumber_22 : decode cX4_wordNumber 22 = .ok (.ldc 137, 2) := by decide +kernel
theorem dX4_wordNumber_24 : decode cX4_wordNumber 24 = .ok (.iload 4, 2) := by decide +kernel
theorem dX4_wordNumber_26 : decode cX4_wordNumber 26 = .ok (.invokevirtual 143, 3) := by decide +kernel
theorem dX4_wordNumber_29 : decode cX4_wordNumber 29 = .ok (.istore 5, 2) := by decide +kernel
theorem dX4_wordNumber_31 : decode cX4_wordNumber 31 = .ok (.iload 5, 2) := by decide +kernel
theorem dX4_wordNumber_33 : decode cX4_wordNumber 33 = .ok (.bipush 32, 2) := by decide +kernel
theorem dX4_wordNumber_35 : decode cX4_wordNumber 35 = .ok (.if_icmp .eq 41, 3) := by decide +kernel
theorem dX4_wordNumber_38 : decode cX4_wordNumber 38 = .ok (.iload_n 3, 1) := by decide +kernel
theorem dX4_wordNumber_39 : decode cX4_wordNumber 39 = .ok (.ifCond .eq 29, 3) := by decide +kernel
theorem dX4_wordNumber_42 : decode cX4_wordNumber 42 = .ok (.iload_n 2, 1) := by decide +kernel
theorem dX4_wordNumber_43 : decode cX4_wordNumber 43 = .ok (.aload_n 0, 1) := by decide +kernel
theorem dX4_wordNumber_44 : decode cX4_wordNumber 44 = .ok (.getfield 21, 3) := by decide +kernel
theorem dX4_wordNumber_47 : decode cX4_wordNumber 47 = .ok (.if_icmp .ge 21, 3) := by decide +kernel
theorem dX4_wordNumber_50 : decode cX4_wordNumber 50 = .ok (.aload_n 0, 1) := by decide +kernel
theorem dX4_wordNumber_51 : decode cX4_wordNumber 51 = .ok (.getfield 33, 3) := by decide +kernel
theorem dX4_wordNumber_54 : decode cX4_wordNumber 54 = .ok (.getfield 51, 3) := by decide +kernel
theorem dX4_wordNumber_57 : decode cX4_wordNumber 57 = .ok (.iload_n 2, 1) := by decide +kernel
theorem dX4_wordNumber_58 : decode cX4_wordNumber 58 = .ok (.iaload, 1) := by decide +kernel
theorem dX4_wordNumber_59 : decode cX4_wordNumber 59 = .ok (.iload 5, 2) := by decide +kernel
theorem dX4_wordNumber_61 : decode cX4_wordNumber 61 = .ok (.if_icmp .ne 7, 3) := by decide +kernel
theorem dX4_wordNumber_64 : decode cX4_wordNumber 64 = .ok (.iconst 1, 1) := by decide +kernel
theorem dX4_wordNumber_65 : decode cX4_wordNumber 65 = .ok (.goto 4, 3) := by decide +kernel
theorem dX4_wordNumber_68 : decode cX4_wordNumber 68 = .ok (.iconst 0, 1) := by decide +kernel
theorem dX4_wordNumber_69 : decode cX4_wordNumber 69 = .ok (.istore_n 3, 1) := by decide +kernel
theorem dX4_wordNumber_70 : decode cX4_wordNumber 70 = .ok (.iinc 2 1, 3) := by decide +kernel
theorem dX4_wordNumber_73 : decode cX4_wordNumber 73 = .ok (.goto 27, 3) := by decide +kernel
theorem dX4_wordNumber_76 : decode cX4_wordNumber 76 = .ok (.iload_n 3, 1) := by decide +kernel
theorem dX4_wordNumber_77 : decode cX4_wordNumber 77 = .ok (.ifCond .eq 13, 3) := by decide +kernel
theorem dX4_wordNumber_80 : decode cX4_wordNumber 80 = .ok (.iload_n 2, 1) := by decide +kernel
theorem dX4_wordNumber_81 : decode cX4_wordNumber 81 = .ok (.aload_n 0, 1) := by decide +kernel
theorem dX4_wordNumber_82 : decode cX4_wordNumber 82 = .ok (.getfield 21, 3) := by decide +kernel
theorem dX4_wordNumber_85 : decode cX4_wordNumber 85 = .ok (.if_icmp .ne 5, 3) := by decide +kernel
theorem dX4_wordNumber_88 : decode cX4_wordNumber 88 = .ok (.iload_n 1, 1) := by decide +kernel
theorem dX4_wordNumber_89 : decode cX4_wordNumber 89 = .ok (.ireturn, 1) := by decide +kernel
theorem dX4_wordNumber_90 : decode cX4_wordNumber 90 = .ok (.iinc 1 1, 3) := by decide +kernel
theorem dX4_wordNumber_93 : decode cX4_wordNumber 93 = .ok (.aload_n 0, 1) := by decide +kernel
theorem dX4_wordNumber_94 : decode cX4_wordNumber 94 = .ok (.getfield 18, 3) := by decide +kernel
theorem dX4_wordNumber_97 : decode cX4_wordNumber 97 = .ok (.istore_n 2, 1) := by decide +kernel
theorem dX4_wordNumber_98 : decode cX4_wordNumber 98 = .ok (.iconst 1, 1) := by decide +kernel
theorem dX4_wordNumber_99 : decode cX4_wordNumber 99 = .ok (.istore_n 3, 1) := by decide +kernel
theorem dX4_wordNumber_100 : decode cX4_wordNumber 100 = .ok (.iinc 4 1, 3) := by decide +kernel
theorem dX4_wordNumber_103 : decode cX4_wordNumber 103 = .ok (.goto (-91), 3) := by decide +kernel
theorem dX4_wordNumber_106 : decode cX4_wordNumber 106 = .ok (.iconst (-1), 1) := by decide +kernel
theorem dX4_wordNumber_107 : decode cX4_wordNumber 107 = .ok (.ireturn, 1) := by decide +kernel
theorem dX4_isLetter_0 : decode cX4_isLetter 0 = .ok (.iload_n 0, 1) := by decide +kernel
theorem dX4_isLetter_1 : decode cX4_isLetter 1 = .ok (.bipush 97, 2) := by decide +kernel
theorem dX4_isLetter_3 : decode cX4_isLetter 3 = .ok (.if_icmp .lt 13, 3) := by decide +kernel
theorem dX4_isLetter_6 : decode cX4_isLetter 6 = .ok (.iload_n 0, 1) := by decide +kernel
theorem dX4_isLetter_7 : decode cX4_isLetter 7 = .ok (.bipush 122, 2) := by decide +kernel
theorem dX4_isLetter_9 : decode cX4_isLetter 9 = .ok (.if_icmp .gt 7, 3) := by decide +kernel
theorem dX4_isLetter_12 : decode cX4_isLetter 12 = .ok (.iconst 1, 1) := by decide +kernel
theorem dX4_isLetter_13 : decode cX4_isLetter 13 = .ok (.goto 4, 3) := by decide +kernel
theorem dX4_isLetter_16 : decode cX4_isLetter 16 = .ok (.iconst 0, 1) := by decide +kernel
theorem dX4_isLetter_17 : decode cX4_isLetter 17 = .ok (.ireturn, 1) := by decide +kernel
theorem dX4_isDigit_0 : decode cX4_isDigit 0 = .ok (.iload_n 0, 1) := by decide +kernel
theorem dX4_isDigit_1 : decode cX4_isDigit 1 = .ok (.bipush 48, 2) := by decide +kernel
theorem dX4_isDigit_3 : decode cX4_isDigit 3 = .ok (.if_icmp .lt 13, 3) := by decide +kernel
theorem dX4_isDigit_6 : decode cX4_isDigit 6 = .ok (.iload_n 0, 1) := by decide +kernel
theorem dX4_isDigit_7 : decode cX4_isDigit 7 = .ok (.bipush 57, 2) := by decide +kernel
theorem dX4_isDigit_9 : decode cX4_isDigit 9 = .ok (.if_icmp .gt 7, 3) := by decide +kernel
theorem dX4_isDigit_12 : decode cX4_isDigit 12 = .ok (.iconst 1, 1) := by decide +kernel
theorem dX4_isDigit_13 : decode cX4_isDigit 13 = .ok (.goto 4, 3) := by decide +kernel
theorem dX4_isDigit_16 : decode cX4_isDigit 16 = .ok (.iconst 0, 1) := by decide +kernel
theorem dX4_isDigit_17 : decode cX4_isDigit 17 = .ok (.ireturn, 1) := by decide +kernel
theorem dX4_isInWord_0 : decode cX4_isInWord 0 = .ok (.iload_n 0, 1) := by decide +kernel
theorem dX4_isInWord_1 : decode cX4_isInWord 1 = .ok (.bipush 97, 2) := by decide +kernel
theorem dX4_isInWord_3 : decode cX4_isInWord 3 = .ok (.if_icmp .lt 9, 3) := by decide +kernel
theorem dX4_isInWord_6 : decode cX4_isInWord 6 = .ok (.iload_n 0, 1) := by decide +kernel
theorem dX4_isInWord_7 : decode cX4_isInWord 7 = .ok (.bipush 122, 2) := by decide +kernel
theorem dX4_isInWord_9 : decode cX4_isInWord 9 = .ok (.if_icmp .le 15, 3) := by decide +kernel
theorem dX4_isInWord_12 : decode cX4_isInWord 12 = .ok (.iload_n 0, 1) := by decide +kernel
theorem dX4_isInWord_13 : decode cX4_isInWord 13 = .ok (.bipush 48, 2) := by decide +kernel
theorem dX4_isInWord_15 : decode cX4_isInWord 15 = .ok (.if_icmp .lt 13, 3) := by decide +kernel
theorem dX4_isInWord_18 : decode cX4_isInWord 18 = .ok (.iload_n 0, 1) := by decide +kernel
theorem dX4_isInWord_19 : decode cX4_isInWord 19 = .ok (.bipush 57, 2) := by decide +kernel
theorem dX4_isInWord_21 : decode cX4_isInWord 21 = .ok (.if_icmp .gt 7, 3) := by decide +kernel
theorem dX4_isInWord_24 : decode cX4_isInWord 24 = .ok (.iconst 1, 1) := by decide +kernel
theorem dX4_isInWord_25 : decode cX4_isInWord 25 = .ok (.goto 4, 3) := by decide +kernel
theorem dX4_isInWord_28 : decode cX4_isInWord 28 = .ok (.iconst 0, 1) := by decide +kernel
theorem dX4_isInWord_29 : decode cX4_isInWord 29 = .ok (.ireturn, 1) := by decide +kernel
theorem dX5_init_0 : decode cX5_init 0 = .ok (.aload_n 0, 1) := by decide +kernel
theorem dX5_init_1 : decode cX5_init 1 = .ok (.invokespecial 3, 3) := by decide +kernel
theorem dX5_init_4 : decode cX5_init 4 = .ok (.aload_n 0, 1) := by decide +kernel
theorem dX5_init_5 : decode cX5_init 5 = .ok (.sipush 128, 3) := by decide +kernel
theorem dX5_init_8 : decode cX5_init 8 = .ok (.newarray .int, 2) := by decide +kernel
theorem dX5_init_10 : decode cX5_init 10 = .ok (.putfield 9, 3) := by decide +kernel
theorem dX5_init_13 : decode cX5_init 13 = .ok (.aload_n 0, 1) := by decide +kernel
theorem dX5_init_14 : decode cX5_init 14 = .ok (.bipush 24, 2) := by decide +kernel
theorem dX5_init_16 : decode cX5_init 16 = .ok (.newarray .int, 2) := by decide +kernel
theorem dX5_init_18 : decode cX5_init 18 = .ok (.putfield 15, 3) := by decide +kernel
theorem dX5_init_21 : decode cX5_init 21 = .ok (.aload_n 0, 1) := by decide +kernel
theorem dX5_init_22 : decode cX5_init 22 = .ok (.bipush 8, 2) := by decide +kernel
theorem dX5_init_24 : decode cX5_init 24 = .ok (.newarray .int, 2) := by decide +kernel
theorem dX5_init_26 : decode cX5_init 26 = .ok (.putfield 18, 3) := by decide +kernel
theorem dX5_init_29 : decode cX5_init 29 = .ok (.aload_n 0, 1) := by decide +kernel
theorem dX5_init_30 : decode cX5_init 30 = .ok (.bipush 30, 2) := by decide +kernel
theorem dX5_init_32 : decode cX5_init 32 = .ok (.newarray .int, 2) := by decide +kernel
theorem dX5_init_34 : decode cX5_init 34 = .ok (.putfield 21, 3) := by decide +kernel
theorem dX5_init_37 : decode cX5_init 37 = .ok (.aload_n 0, 1) := by decide +kernel
theorem dX5_init_38 : decode cX5_init 38 = .ok (.aload_n 1, 1) := by decide +kernel
theorem dX5_init_39 : decode cX5_init 39 = .ok (.putfield 24, 3) := by decide +kernel
theorem dX5_init_42 : decode cX5_init 42 = .ok (.return_, 1) := by decide +kernel
theorem dX5_litLies_0 : decode cX5_litLies 0 = .ok (.iconst 0, 1) := by decide +kernel
theorem dX5_litLies_1 : decode cX5_litLies 1 = .ok (.istore_n 2, 1) := by decide +kernel
theorem dX5_litLies_2 : decode cX5_litLies 2 = .ok (.iconst 0, 1) := by decide +kernel
theorem dX5_litLies_3 : decode cX5_litLies 3 = .ok (.istore_n 3, 1) := by decide +kernel
theorem dX5_litLies_4 : decode cX5_litLies 4 = .ok (.iload_n 3, 1) := by decide +kernel
theorem dX5_litLies_5 : decode cX5_litLies 5 = .ok (.aload_n 0, 1) := by decide +kernel
theorem dX5_litLies_6 : decode cX5_litLies 6 = .ok (.getfield 24, 3) := by decide +kernel
theorem dX5_litLies_9 : decode cX5_litLies 9 = .ok (.getfield 28, 3) := by decide +kernel
theorem dX5_litLies_12 : decode cX5_litLies 12 = .ok (.if_icmp .ge 24, 3) := by decide +kernel
theorem dX5_litLies_15 : decode cX5_litLies 15 = .ok (.aload_n 1, 1) := by decide +kernel
theorem dX5_litLies_16 : decode cX5_litLies 16 = .ok (.getfield 34, 3) := by decide +kernel
theorem dX5_litLies_19 : decode cX5_litLies 19 = .ok (.iload_n 3, 1) := by decide +kernel
theorem dX5_litLies_20 : decode cX5_litLies 20 = .ok (.iaload, 1) := by decide +kernel
theorem dX5_litLies_21 : decode cX5_litLies 21 = .ok (.ifCond .le 9, 3) := by decide +kernel
theorem dX5_litLies_24 : decode cX5_litLies 24 = .ok (.iload_n 2, 1) := by decide +kernel
theorem dX5_litLies_25 : decode cX5_litLies 25 = .ok (.iconst 1, 1) := by decide +kernel
theorem dX5_litLies_26 : decode cX5_litLies 26 = .ok (.iload_n 3, 1) := by decide +kernel
theorem dX5_litLies_27 : decode cX5_litLies 27 = .ok (.ishl, 1) := by decide +kernel
theorem dX5_litLies_28 : decode cX5_litLies 28 = .ok (.ior, 1) := by decide +kernel
theorem dX5_litLies_29 : decode cX5_litLies 29 = .ok (.istore_n 2, 1) := by decide +kernel
theorem dX5_litLies_30 : decode cX5_litLies 30 = .ok (.iinc 3 1, 3) := by decide +kernel
theorem dX5_litLies_33 : decode cX5_litLies 33 = .ok (.goto (-29), 3) := by decide +kernel
theorem dX5_litLies_36 : decode cX5_litLies 36 = .ok (.iload_n 2, 1) := by decide +kernel
theorem dX5_litLies_37 : decode cX5_litLies 37 = .ok (.ireturn, 1) := by decide +kernel
theorem dX5_litOf_0 : decode cX5_litOf 0 = .ok (.iconst 0, 1) := by decide +kernel
theorem dX5_litOf_1 : decode cX5_litOf 1 = .ok (.istore_n 3, 1) := by decide +kernel
theorem dX5_litOf_2 : decode cX5_litOf 2 = .ok (.iconst 0, 1) := by decide +kernel
theorem dX5_litOf_3 : decode cX5_litOf 3 = .ok (.istore 4, 2) := by decide +kernel
theorem dX5_litOf_5 : decode cX5_litOf 5 = .ok (.iload 4, 2) := by decide +kernel
theorem dX5_litOf_7 : decode cX5_litOf 7 = .ok (.aload_n 0, 1) := by decide +kernel
theorem dX5_litOf_8 : decode cX5_litOf 8 = .ok (.getfield 24, 3) := by decide +kernel
theorem dX5_litOf_11 : decode cX5_litOf 11 = .ok (.getfield 28, 3) := by decide +kernel
theorem dX5_litOf_14 : decode cX5_litOf 14 = .ok (.if_icmp .ge 36, 3) := by decide +kernel
theorem dX5_litOf_17 : decode cX5_litOf 17 = .ok (.aload_n 0, 1) := by decide +kernel
theorem dX5_litOf_18 : decode cX5_litOf 18 = .ok (.getfield 24, 3) := by decide +kernel
theorem dX5_litOf_21 : decode cX5_litOf 21 = .ok (.getfield 39, 3) := by decide +kernel
theorem dX5_litOf_24 : decode cX5_litOf 24 = .ok (.iload 4, 2) := by decide +kernel
theorem dX5_litOf_26 : decode cX5_litOf 26 = .ok (.iaload, 1) := by decide +kernel
theorem dX5_litOf_27 : decode cX5_litOf 27 = .ok (.iload_n 2, 1) := by decide +kernel
theorem dX5_litOf_28 : decode cX5_litOf 28 = .ok (.if_icmp .ne 16, 3) := by decide +kernel
theorem dX5_litOf_31 : decode cX5_litOf 31 = .ok (.aload_n 1, 1) := by decide +kernel
theorem dX5_litOf_32 : decode cX5_litOf 32 = .ok (.getfield 34, 3) := by decide +kernel
theorem dX5_litOf_35 : decode cX5_litOf 35 = .ok (.iload 4, 2) := by decide +kernel
theorem dX5_litOf_37 : decode cX5_litOf 37 = .ok (.iaload, 1) := by decide +kernel
theorem dX5_litOf_38 : decode cX5_litOf 38 = .ok (.ifCond .le 6, 3) := by decide +kernel
theorem dX5_litOf_41 : decode cX5_litOf 41 = .ok (.iinc 3 1, 3) := by decide +kernel
theorem dX5_litOf_44 : decode cX5_litOf 44 = .ok (.iinc 4 1, 3) := by decide +kernel
theorem dX5_litOf_47 : decode cX5_litOf 47 = .ok (.goto (-42), 3) := by decide +kernel
theorem dX5_litOf_50 : decode cX5_litOf 50 = .ok (.iload_n 3, 1) := by decide +kernel
theorem dX5_litOf_51 : decode cX5_litOf 51 = .ok (.ireturn, 1) := by decide +kernel
theorem dX5_litIn_0 : decode cX5_litIn 0 = .ok (.iconst 0, 1) := by decide +kernel
theorem dX5_litIn_1 : decode cX5_litIn 1 = .ok (.istore_n 3, 1) := by decide +kernel
theorem dX5_litIn_2 : decode cX5_litIn 2 = .ok (.iconst 0, 1) := by decide +kernel
theorem dX5_litIn_3 : decode cX5_litIn 3 = .ok (.istore 4, 2) := by decide +kernel
theorem dX5_litIn_5 : decode cX5_litIn 5 = .ok (.iload 4, 2) := by decide +kernel
theorem dX5_litIn_7 : decode cX5_litIn 7 = .ok (.aload_n 0, 1) := by decide +kernel
theorem dX5_litIn_8 : decode cX5_litIn 8 = .ok (.getfield 24, 3) := by decide +kernel
theorem dX5_litIn_11 : decode cX5_litIn 11 = .ok (.getfield 28, 3) := by decide +kernel
theorem dX5_litIn_14 : decode cX5_litIn 14 = .ok (.if_icmp .ge 41, 3) := by decide +kernel
theorem dX5_litIn_17 : decode cX5_litIn 17 = .ok (.aload_n 1, 1) := by decide +kernel
theorem dX5_litIn_18 : decode cX5_litIn 18 = .ok (.getfield 34, 3) := by decide +kernel
theorem dX5_litIn_21 : decode cX5_litIn 21 = .ok (.iload 4, 2) := by decide +kernel
theorem dX5_litIn_23 : decode cX5_litIn 23 = .ok (.iaload, 1) := by decide +kernel
theorem dX5_litIn_24 : decode cX5_litIn 24 = .ok (.ifCond .le 25, 3) := by decide +kernel
theorem dX5_litIn_27 : decode cX5_litIn 27 = .ok (.aload_n 1, 1) := by decide +kernel
theorem dX5_litIn_28 : decode cX5_litIn 28 = .ok (.getfield 42, 3) := by decide +kernel
theorem dX5_litIn_31 : decode cX5_litIn 31 = .ok (.aload_n 0, 1) := by decide +kernel
theorem dX5_litIn_32 : decode cX5_litIn 32 = .ok (.getfield 24, 3) := by decide +kernel
theorem dX5_litIn_35 : decode cX5_litIn 35 = .ok (.getfield 39, 3) := by decide +kernel
theorem dX5_litIn_38 : decode cX5_litIn 38 = .ok (.iload 4, 2) := by decide +kernel
theorem dX5_litIn_40 : decode cX5_litIn 40 = .ok (.iaload, 1) := by decide +kernel
theorem dX5_litIn_41 : decode cX5_litIn 41 = .ok (.iaload, 1) := by decide +kernel
theorem dX5_litIn_42 : decode cX5_litIn 42 = .ok (.iload_n 2, 1) := by decide +kernel
theorem dX5_litIn_43 : decode cX5_litIn 43 = .ok (.if_icmp .ne 6, 3) := by decide +kernel
theorem dX5_litIn_46 : decode cX5_litIn 46 = .ok (.iinc 3 1, 3) := by decide +kernel
theorem dX5_litIn_49 : decode cX5_litIn 49 = .ok (.iinc 4 1, 3) := by decide +kernel
theorem dX5_litIn_52 : decode cX5_litIn 52 = .ok (.goto (-47), 3) := by decide +kernel
theorem dX5_litIn_55 : decode cX5_litIn 55 = .ok (.iload_n 3, 1) := by decide +kernel
theorem dX5_litIn_56 : decode cX5_litIn 56 = .ok (.ireturn, 1) := by decide +kernel
theorem dX5_nearTo_0 : decode cX5_nearTo 0 = .ok (.aload_n 1, 1) := by decide +kernel
theorem dX5_nearTo_1 : decode cX5_nearTo 1 = .ok (.getfield 42, 3) := by decide +kernel
theorem dX5_nearTo_4 : decode cX5_nearTo 4 = .ok (.aload_n 0, 1) := by decide +kernel
theorem dX5_nearTo_5 : decode cX5_nearTo 5 = .ok (.getfield 24, 3) := by decide +kernel
theorem dX5_nearTo_8 : decode cX5_nearTo 8 = .ok (.getfield 39, 3) := by decide +kernel
theorem dX5_nearTo_11 : decode cX5_nearTo 11 = .ok (.iload_n 2, 1) := by decide +kernel
theorem dX5_nearTo_12 : decode cX5_nearTo 12 = .ok (.iaload, 1) := by decide +kernel
theorem dX5_nearTo_13 : decode cX5_nearTo 13 = .ok (.iaload, 1) := by decide +kernel
theorem dX5_nearTo_14 : decode cX5_nearTo 14 = .ok (.istore_n 3, 1) := by decide +kernel
theorem dX5_nearTo_15 : decode cX5_nearTo 15 = .ok (.iconst 0, 1) := by decide +kernel
theorem dX5_nearTo_16 : decode cX5_nearTo 16 = .ok (.istore 4, 2) := by decide +kernel
theorem dX5_nearTo_18 : decode cX5_nearTo 18 = .ok (.iconst 0, 1) := by decide +kernel
theorem dX5_nearTo_19 : decode cX5_nearTo 19 = .ok (.istore 5, 2) := by decide +kernel
theorem dX5_nearTo_21 : decode cX5_nearTo 21 = .ok (.iload 5, 2) := by decide +kernel
theorem dX5_nearTo_23 : decode cX5_nearTo 23 = .ok (.aload_n 0, 1) := by decide +kernel
theorem dX5_nearTo_24 : decode cX5_nearTo 24 = .ok (.getfield 24, 3) := by decide +kernel
theorem dX5_nearTo_27 : decode cX5_nearTo 27 = .ok (.getfield 28, 3) := by decide +kernel
theorem dX5_nearTo_30 : decode cX5_nearTo 30 = .ok (.if_icmp .ge 59, 3) := by decide +kernel
theorem dX5_nearTo_33 : decode cX5_nearTo 33 = .ok (.iload 5, 2) := by decide +kernel
theorem dX5_nearTo_35 : decode cX5_nearTo 35 = .ok (.iload_n 2, 1) := by decide +kernel
theorem dX5_nearTo_36 : decode cX5_nearTo 36 = .ok (.if_icmp .eq 47, 3) := by decide +kernel
theorem dX5_nearTo_39 : decode cX5_nearTo 39 = .ok (.aload_n 1, 1) := by decide +kernel
theorem dX5_nearTo_40 : decode cX5_nearTo 40 = .ok (.getfield 34, 3) := by decide +kernel
theorem dX5_nearTo_43 : decode cX5_nearTo 43 = .ok (.iload 5, 2) := by decide +kernel
theorem dX5_nearTo_45 : decode cX5_nearTo 45 = .ok (.iaload, 1) := by decide +kernel
theorem dX5_nearTo_46 : decode cX5_nearTo 46 = .ok (.ifCond .le 37, 3) := by decide +kernel
theorem dX5_nearTo_49 : decode cX5_nearTo 49 = .ok (.aload_n 1, 1) := by decide +kernel
theorem dX5_nearTo_50 : decode cX5_nearTo 50 = .ok (.getfield 42, 3) := by decide +kernel
theorem dX5_nearTo_53 : decode cX5_nearTo 53 = .ok (.aload_n 0, 1) := by decide +kernel
theorem dX5_nearTo_54 : decode cX5_nearTo 54 = .ok (.getfield 24, 3) := by decide +kernel
theorem dX5_nearTo_57 : decode cX5_nearTo 57 = .ok (.getfield 39, 3) := by decide +kernel
theorem dX5_nearTo_60 : decode cX5_nearTo 60 = .ok (.iload 5, 2) := by decide +kernel
theorem dX5_nearTo_62 : decode cX5_nearTo 62 = .ok (.iaload, 1) := by decide +kernel
theorem dX5_nearTo_63 : decode cX5_nearTo 63 = .ok (.iaload, 1) := by decide +kernel
theorem dX5_nearTo_64 : decode cX5_nearTo 64 = .ok (.iload_n 3, 1) := by decide +kernel
theorem dX5_nearTo_65 : decode cX5_nearTo 65 = .ok (.isub, 1) := by decide +kernel
theorem dX5_nearTo_66 : decode cX5_nearTo 66 = .ok (.istore 6, 2) := by decide +kernel
theorem dX5_nearTo_68 : decode cX5_nearTo 68 = .ok (.iload 6, 2) := by decide +kernel
theorem dX5_nearTo_70 : decode cX5_nearTo 70 = .ok (.iconst (-1), 1) := by decide +kernel
theorem dX5_nearTo_71 : decode cX5_nearTo 71 = .ok (.if_icmp .lt 12, 3) := by decide +kernel
theorem dX5_nearTo_74 : decode cX5_nearTo 74 = .ok (.iload 6, 2) := by decide +kernel
theorem dX5_nearTo_76 : decode cX5_nearTo 76 = .ok (.iconst 1, 1) := by decide +kernel
theorem dX5_nearTo_77 : decode cX5_nearTo 77 = .ok (.if_icmp .gt 6, 3) := by decide +kernel
theorem dX5_nearTo_80 : decode cX5_nearTo 80 = .ok (.iinc 4 1, 3) := by decide +kernel
theorem dX5_nearTo_83 : decode cX5_nearTo 83 = .ok (.iinc 5 1, 3) := by decide +kernel
theorem dX5_nearTo_86 : decode cX5_nearTo 86 = .ok (.goto (-65), 3) := by decide +kernel
theorem dX5_nearTo_89 : decode cX5_nearTo 89 = .ok (.iload 4, 2) := by decide +kernel
theorem dX5_nearTo_91 : decode cX5_nearTo 91 = .ok (.ireturn, 1) := by decide +kernel
theorem dX5_draughty_0 : decode cX5_draughty 0 = .ok (.aload_n 0, 1) := by decide +kernel
theorem dX5_draughty_1 : decode cX5_draughty 1 = .ok (.getfield 15, 3) := by decide +kernel
theorem dX5_draughty_4 : decode cX5_draughty 4 = .ok (.bipush 20, 2) := by decide +kernel
theorem dX5_draughty_6 : decode cX5_draughty 6 = .ok (.iload_n 2, 1) := by decide +kernel
theorem dX5_draughty_7 : decode cX5_draughty 7 = .ok (.iastore, 1) := by decide +kernel
theorem dX5_draughty_8 : decode cX5_draughty 8 = .ok (.aload_n 0, 1) := by decide +kernel
theorem dX5_draughty_9 : decode cX5_draughty 9 = .ok (.getfield 15, 3) := by decide +kernel
theorem dX5_draughty_12 : decode cX5_draughty 12 = .ok (.bipush 19, 2) := by decide +kernel
theorem dX5_draughty_14 : decode cX5_draughty 14 = .ok (.iload_n 3, 1) := by decide +kernel
theorem dX5_draughty_15 : decode cX5_draughty 15 = .ok (.iastore, 1) := by decide +kernel
theorem dX5_draughty_16 : decode cX5_draughty 16 = .ok (.aload_n 0, 1) := by decide +kernel
theorem dX5_draughty_17 : decode cX5_draughty 17 = .ok (.aload_n 1, 1) := by decide +kernel
theorem dX5_draughty_18 : decode cX5_draughty 18 = .ok (.aload_n 0, 1) := by decide +kernel
theorem dX5_draughty_19 : decode cX5_draughty 19 = .ok (.getfield 24, 3) := by decide +kernel
theorem dX5_draughty_22 : decode cX5_draughty 22 = .ok (.getfield 45, 3) := by decide +kernel
theorem dX5_draughty_25 : decode cX5_draughty 25 = .ok (.iconst 0, 1) := by decide +kernel
theorem dX5_draughty_26 : decode cX5_draughty 26 = .ok (.invokevirtual 49, 3) := by decide +kernel
theorem dX5_draughty_29 : decode cX5_draughty 29 = .ok (.invokestatic 53, 3) := by decide +kernel
theorem dX5_draughty_32 : decode cX5_draughty 32 = .ok (.ireturn, 1) := by decide +kernel
theorem dX5_draughtyBy_0 : decode cX5_draughtyBy 0 = .ok (.iconst 0, 1) := by decide +kernel
theorem dX5_draughtyBy_1 : decode cX5_draughtyBy 1 = .ok (.bipush 9, 2) := by decide +kernel
theorem dX5_draughtyBy_3 : decode cX5_draughtyBy 3 = .ok (.iload_n 0, 1) := by decide +kernel
theorem dX5_draughtyBy_4 : decode cX5_draughtyBy 4 = .ok (.invokestatic 57, 3) := by decide +kernel
theorem dX5_draughtyBy_7 : decode cX5_draughtyBy 7 = .ok (.invokestatic 63, 3) := by decide +kernel
theorem dX5_draughtyBy_10 : decode cX5_draughtyBy 10 = .ok (.ireturn, 1) := by decide +kernel
theorem dX5_believed_0 : decode cX5_believed 0 = .ok (.iconst 0, 1) := by decide +kernel
theorem dX5_believed_1 : decode cX5_believed 1 = .ok (.istore_n 2, 1) := by decide +kernel
theorem dX5_believed_2 : decode cX5_believed 2 = .ok (.iconst 0, 1) := by decide +kernel
theorem dX5_believed_3 : decode cX5_believed 3 = .ok (.istore_n 3, 1) := by decide +kernel
theorem dX5_believed_4 : decode cX5_believed 4 = .ok (.iload_n 3, 1) := by decide +kernel
theorem dX5_believed_5 : decode cX5_believed 5 = .ok (.aload_n 0, 1) := by decide +kernel
theorem dX5_believed_6 : decode cX5_believed 6 = .ok (.getfield 24, 3) := by decide +kernel
theorem dX5_believed_9 : decode cX5_believed 9 = .ok (.getfield 28, 3) := by decide +kernel
theorem dX5_believed_12 : decode cX5_believed 12 = .ok (.if_icmp .ge 75, 3) := by decide +kernel
theorem dX5_believed_15 : decode cX5_believed 15 = .ok (.aload_n 0, 1) := by decide +kernel
theorem dX5_believed_16 : decode cX5_believed 16 = .ok (.getfield 24, 3) := by decide +kernel
theorem dX5_believed_19 : decode cX5_believed 19 = .ok (.getfield 66, 3) := by decide +kernel
theorem dX5_believed_22 : decode cX5_believed 22 = .ok (.iload_n 3, 1) := by decide +kernel
theorem dX5_believed_23 : decode cX5_believed 23 = .ok (.iaload, 1) := by decide +kernel
theorem dX5_believed_24 : decode cX5_believed 24 = .ok (.istore 4, 2) := by decide +kernel
theorem dX5_believed_26 : decode cX5_believed 26 = .ok (.iload 4, 2) := by decide +kernel
theorem dX5_believed_28 : decode cX5_believed 28 = .ok (.ifCond .lt 13, 3) := by decide +kernel
theorem dX5_believed_31 : decode cX5_believed 31 = .ok (.iload_n 2, 1) := by decide +kernel
theorem dX5_believed_32 : decode cX5_believed 32 = .ok (.iload 4, 2) := by decide +kernel
theorem dX5_believed_34 : decode cX5_believed 34 = .ok (.ishr, 1) := by decide +kernel
theorem dX5_believed_35 : decode cX5_believed 35 = .ok (.iconst 1, 1) := by decide +kernel
theorem dX5_believed_36 : decode cX5_believed 36 = .ok (.iand, 1) := by decide +kernel
theorem dX5_believed_37 : decode cX5_believed 37 = .ok (.iconst 1, 1) := by decide +kernel
theorem dX5_believed_38 : decode cX5_believed 38 = .ok (.if_icmp .ne 7, 3) := by decide +kernel
theorem dX5_believed_41 : decode cX5_believed 41 = .ok (.iconst 1, 1) := by decide +kernel
theorem dX5_believed_42 : decode cX5_believed 42 = .ok (.goto 4, 3) := by decide +kernel
theorem dX5_believed_45 : decode cX5_believed 45 = .ok (.iconst 0, 1) := by decide +kernel
theorem dX5_believed_46 : decode cX5_believed 46 = .ok (.istore 5, 2) := by decide +kernel
theorem dX5_believed_48 : decode cX5_believed 48 = .ok (.iload 5, 2) := by decide +kernel
theorem dX5_believed_50 : decode cX5_believed 50 = .ok (.ifCond .eq 31, 3) := by decide +kernel
theorem dX5_believed_53 : decode cX5_believed 53 = .ok (.aload_n 1, 1) := by decide +kernel
theorem dX5_believed_54 : decode cX5_believed 54 = .ok (.getfield 34, 3) := by decide +kernel
theorem dX5_believed_57 : decode cX5_believed 57 = .ok (.iload_n 3, 1) := by decide +kernel
theorem dX5_believed_58 : decode cX5_believed 58 = .ok (.iaload, 1) := by decide +kernel
theorem dX5_believed_59 : decode cX5_believed 59 = .ok (.ifCond .le 22, 3) := by decide +kernel
theorem dX5_believed_62 : decode cX5_believed 62 = .ok (.iload_n 2, 1) := by decide +kernel
theorem dX5_believed_63 : decode cX5_believed 63 = .ok (.aload_n 0, 1) := by decide +kernel
theorem dX5_believed_64 : decode cX5_believed 64 = .ok (.aload_n 1, 1) := by decide +kernel
theorem dX5_believed_65 : decode cX5_believed 65 = .ok (.iload_n 3, 1) := by decide +kernel
theorem dX5_believed_66 : decode cX5_believed 66 = .ok (.aload_n 0, 1) := by decide +kernel
theorem dX5_believed_67 : decode cX5_believed 67 = .ok (.getfield 24, 3) := by decide +kernel
theorem dX5_believed_70 : decode cX5_believed 70 = .ok (.getfield 45, 3) := by decide +kernel
theorem dX5_believed_73 : decode cX5_believed 73 = .ok (.iconst 2, 1) := by decide +kernel
theorem dX5_believed_74 : decode cX5_believed 74 = .ok (.invokevirtual 69, 3) := by decide +kernel
theorem dX5_believed_77 : decode cX5_believed 77 = .ok (.iload_n 3, 1) := by decide +kernel
theorem dX5_believed_78 : decode cX5_believed 78 = .ok (.ishl, 1) := by decide +kernel
theorem dX5_believed_79 : decode cX5_believed 79 = .ok (.ior, 1) := by decide +kernel
theorem dX5_believed_80 : decode cX5_believed 80 = .ok (.istore_n 2, 1) := by decide +kernel
theorem dX5_believed_81 : decode cX5_believed 81 = .ok (.iinc 3 1, 3) := by decide +kernel
theorem dX5_believed_84 : decode cX5_believed 84 = .ok (.goto (-80), 3) := by decide +kernel
theorem dX5_believed_87 : decode cX5_believed 87 = .ok (.iload_n 2, 1) := by decide +kernel
theorem dX5_believed_88 : decode cX5_believed 88 = .ok (.ireturn, 1) := by decide +kernel
theorem dX5_blow_0 : decode cX5_blow 0 = .ok (.iconst 0, 1) := by decide +kernel
theorem dX5_blow_1 : decode cX5_blow 1 = .ok (.istore_n 3, 1) := by decide +kernel
theorem dX5_blow_2 : decode cX5_blow 2 = .ok (.iconst 0, 1) := by decide +kernel
theorem dX5_blow_3 : decode cX5_blow 3 = .ok (.istore 4, 2) := by decide +kernel
theorem dX5_blow_5 : decode cX5_blow 5 = .ok (.iload 4, 2) := by decide +kernel
theorem dX5_blow_7 : decode cX5_blow 7 = .ok (.aload_n 0, 1) := by decide +kernel
theorem dX5_blow_8 : decode cX5_blow 8 = .ok (.getfield 24, 3) := by decide +kernel
theorem dX5_blow_11 : decode cX5_blow 11 = .ok (.getfield 28, 3) := by decide +kernel
theorem dX5_blow_14 : decode cX5_blow 14 = .ok (.if_icmp .ge 51, 3) := by decide +kernel
theorem dX5_blow_17 : decode cX5_blow 17 = .ok (.aload_n 1, 1) := by decide +kernel
theorem dX5_blow_18 : decode cX5_blow 18 = .ok (.getfield 34, 3) := by decide +kernel
theorem dX5_blow_21 : decode cX5_blow 21 = .ok (.iload 4, 2) := by decide +kernel
theorem dX5_blow_23 : decode cX5_blow 23 = .ok (.iaload, 1) := by decide +kernel
theorem dX5_blow_24 : decode cX5_blow 24 = .ok (.ifCond .le 35, 3) := by decide +kernel
theorem dX5_blow_27 : decode cX5_blow 27 = .ok (.aload_n 1, 1) := by decide +kernel
theorem dX5_blow_28 : decode cX5_blow 28 = .ok (.getfield 42, 3) := by decide +kernel
theorem dX5_blow_31 : decode cX5_blow 31 = .ok (.aload_n 0, 1) := by decide +kernel
theorem dX5_blow_32 : decode cX5_blow 32 = .ok (.getfield 24, 3) := by decide +kernel
theorem dX5_blow_35 : decode cX5_blow 35 = .ok (.getfield 39, 3) := by decide +kernel
theorem dX5_blow_38 : decode cX5_blow 38 = .ok (.iload 4, 2) := by decide +kernel
theorem dX5_blow_40 : decode cX5_blow 40 = .ok (.iaload, 1) := by decide +kernel
theorem dX5_blow_41 : decode cX5_blow 41 = .ok (.iaload, 1) := by decide +kernel
theorem dX5_blow_42 : decode cX5_blow 42 = .ok (.iload_n 2, 1) := by decide +kernel
theorem dX5_blow_43 : decode cX5_blow 43 = .ok (.if_icmp .ne 16, 3) := by decide +kernel
theorem dX5_blow_46 : decode cX5_blow 46 = .ok (.aload_n 1, 1) := by decide +kernel
theorem dX5_blow_47 : decode cX5_blow 47 = .ok (.iload 4, 2) := by decide +kernel
theorem dX5_blow_49 : decode cX5_blow 49 = .ok (.invokevirtual 73, 3) := by decide +kernel
theorem dX5_blow_52 : decode cX5_blow 52 = .ok (.iload_n 3, 1) := by decide +kernel
theorem dX5_blow_53 : decode cX5_blow 53 = .ok (.iconst 1, 1) := by decide +kernel
theorem dX5_blow_54 : decode cX5_blow 54 = .ok (.iload 4, 2) := by decide +kernel
theorem dX5_blow_56 : decode cX5_blow 56 = .ok (.ishl, 1) := by decide +kernel
theorem dX5_blow_57 : decode cX5_blow 57 = .ok (.ior, 1) := by decide +kernel
theorem dX5_blow_58 : decode cX5_blow 58 = .ok (.istore_n 3, 1) := by decide +kernel
theorem dX5_blow_59 : decode cX5_blow 59 = .ok (.iinc 4 1, 3) := by decide +kernel
theorem dX5_blow_62 : decode cX5_blow 62 = .ok (.goto (-57), 3) := by decide +kernel
theorem dX5_blow_65 : decode cX5_blow 65 = .ok (.iload_n 3, 1) := by decide +kernel
theorem dX5_blow_66 : decode cX5_blow 66 = .ok (.ireturn, 1) := by decide +kernel
theorem dX5_pass_0 : decode cX5_pass 0 = .ok (.aload_n 0, 1) := by decide +kernel
theorem dX5_pass_1 : decode cX5_pass 1 = .ok (.aload_n 1, 1) := by decide +kernel
theorem dX5_pass_2 : decode cX5_pass 2 = .ok (.invokevirtual 77, 3) := by decide +kernel
theorem dX5_pass_5 : decode cX5_pass 5 = .ok (.iconst 0, 1) := by decide +kernel
theorem dX5_pass_6 : decode cX5_pass 6 = .ok (.istore_n 2, 1) := by decide +kernel
theorem dX5_pass_7 : decode cX5_pass 7 = .ok (.iload_n 2, 1) := by decide +kernel
theorem dX5_pass_8 : decode cX5_pass 8 = .ok (.aload_n 0, 1) := by decide +kernel
theorem dX5_pass_9 : decode cX5_pass 9 = .ok (.getfield 24, 3) := by decide +kernel
theorem dX5_pass_12 : decode cX5_pass 12 = .ok (.getfield 28, 3) := by decide +kernel
theorem dX5_pass_15 : decode cX5_pass 15 = .ok (.if_icmp .ge 38, 3) := by decide +kernel
theorem dX5_pass_18 : decode cX5_pass 18 = .ok (.aload_n 1, 1) := by decide +kernel
theorem dX5_pass_19 : decode cX5_pass 19 = .ok (.getfield 34, 3) := by decide +kernel
theorem dX5_pass_22 : decode cX5_pass 22 = .ok (.iload_n 2, 1) := by decide +kernel
theorem dX5_pass_23 : decode cX5_pass 23 = .ok (.iaload, 1) := by decide +kernel
theorem dX5_pass_24 : decode cX5_pass 24 = .ok (.ifCond .le 23, 3) := by decide +kernel
theorem dX5_pass_27 : decode cX5_pass 27 = .ok (.aload_n 0, 1) := by decide +kernel
theorem dX5_pass_28 : decode cX5_pass 28 = .ok (.getfield 18, 3) := by decide +kernel
theorem dX5_pass_31 : decode cX5_pass 31 = .ok (.iload_n 2, 1) := by decide +kernel
theorem dX5_pass_32 : decode cX5_pass 32 = .ok (.aload_n 0, 1) := by decide +kernel
theorem dX5_pass_33 : decode cX5_pass 33 = .ok (.aload_n 1, 1) := by decide +kernel
theorem dX5_pass_34 : decode cX5_pass 34 = .ok (.iload_n 2, 1) := by decide +kernel
theorem dX5_pass_35 : decode cX5_pass 35 = .ok (.aload_n 0, 1) := by decide +kernel
theorem dX5_pass_36 : decode cX5_pass 36 = .ok (.getfield 24, 3) := by decide +kernel
theorem dX5_pass_39 : decode cX5_pass 39 = .ok (.getfield 45, 3) := by decide +kernel
theorem dX5_pass_42 : decode cX5_pass 42 = .ok (.iconst 1, 1) := by decide +kernel
theorem dX5_pass_43 : decode cX5_pass 43 = .ok (.invokevirtual 69, 3) := by decide +kernel
theorem dX5_pass_46 : decode cX5_pass 46 = .ok (.iastore, 1) := by decide +kernel
theorem dX5_pass_47 : decode cX5_pass 47 = .ok (.iinc 2 1, 3) := by decide +kernel
theorem dX5_pass_50 : decode cX5_pass 50 = .ok (.goto (-43), 3) := by decide +kernel
theorem dX5_pass_53 : decode cX5_pass 53 = .ok (.iconst 0, 1) := by decide +kernel
theorem dX5_pass_54 : decode cX5_pass 54 = .ok (.istore_n 2, 1) := by decide +kernel
theorem dX5_pass_55 : decode cX5_pass 55 = .ok (.iconst 0, 1) := by decide +kernel
theorem dX5_pass_56 : decode cX5_pass 56 = .ok (.istore_n 3, 1) := by decide +kernel
theorem dX5_pass_57 : decode cX5_pass 57 = .ok (.iload_n 3, 1) := by decide +kernel
theorem dX5_pass_58 : decode cX5_pass 58 = .ok (.aload_n 0, 1) := by decide +kernel
theorem dX5_pass_59 : decode cX5_pass 59 = .ok (.getfield 24, 3) := by decide +kernel
theorem dX5_pass_62 : decode cX5_pass 62 = .ok (.getfield 28, 3) := by decide +kernel
theorem dX5_pass_65 : decode cX5_pass 65 = .ok (.if_icmp .ge 49, 3) := by decide +kernel
theorem dX5_pass_68 : decode cX5_pass 68 = .ok (.aload_n 1, 1) := by decide +kernel
theorem dX5_pass_69 : decode cX5_pass 69 = .ok (.getfield 34, 3) := by decide +kernel
theorem dX5_pass_72 : decode cX5_pass 72 = .ok (.iload_n 3, 1) := by decide +kernel
theorem dX5_pass_73 : decode cX5_pass 73 = .ok (.iaload, 1) := by decide +kernel
theorem dX5_pass_74 : decode cX5_pass 74 = .ok (.ifCond .le 34, 3) := by decide +kernel
theorem dX5_pass_77 : decode cX5_pass 77 = .ok (.aload_n 1, 1) := by decide +kernel
theorem dX5_pass_78 : decode cX5_pass 78 = .ok (.iload_n 3, 1) := by decide +kernel
theorem dX5_pass_79 : decode cX5_pass 79 = .ok (.aload_n 0, 1) := by decide +kernel
theorem dX5_pass_80 : decode cX5_pass 80 = .ok (.getfield 18, 3) := by decide +kernel
theorem dX5_pass_83 : decode cX5_pass 83 = .ok (.iload_n 3, 1) := by decide +kernel
theorem dX5_pass_84 : decode cX5_pass 84 = .ok (.iaload, 1) := by decide +kernel
theorem dX5_pass_85 : decode cX5_pass 85 = .ok (.invokevirtual 81, 3) := by decide +kernel
theorem dX5_pass_88 : decode cX5_pass 88 = .ok (.aload_n 1, 1) := by decide +kernel
theorem dX5_pass_89 : decode cX5_pass 89 = .ok (.getfield 34, 3) := by decide +kernel
theorem dX5_pass_92 : decode cX5_pass 92 = .ok (.iload_n 3, 1) := by decide +kernel
theorem dX5_pass_93 : decode cX5_pass 93 = .ok (.iaload, 1) := by decide +kernel
theorem dX5_pass_94 : decode cX5_pass 94 = .ok (.ifCond .ne 14, 3) := by decide +kernel
theorem dX5_pass_97 : decode cX5_pass 97 = .ok (.aload_n 1, 1) := by decide +kernel
theorem dX5_pass_98 : decode cX5_pass 98 = .ok (.iload_n 3, 1) := by decide +kernel
theorem dX5_pass_99 : decode cX5_pass 99 = .ok (.invokevirtual 73, 3) := by decide +kernel
theorem dX5_pass_102 : decode cX5_pass 102 = .ok (.iload_n 2, 1) := by decide +kernel
theorem dX5_pass_103 : decode cX5_pass 103 = .ok (.iconst 1, 1) := by decide +kernel
theorem dX5_pass_104 : decode cX5_pass 104 = .ok (.iload_n 3, 1) := by decide +kernel
theorem dX5_pass_105 : decode cX5_pass 105 = .ok (.ishl, 1) := by decide +kernel
theorem dX5_pass_106 : decode cX5_pass 106 = .ok (.ior, 1) := by decide +kernel
theorem dX5_pass_107 : decode cX5_pass 107 = .ok (.istore_n 2, 1) := by decide +kernel
theorem dX5_pass_108 : decode cX5_pass 108 = .ok (.iinc 3 1, 3) := by decide +kernel
theorem dX5_pass_111 : decode cX5_pass 111 = .ok (.goto (-54), 3) := by decide +kernel
theorem dX5_pass_114 : decode cX5_pass 114 = .ok (.aload_n 1, 1) := by decide +kernel
theorem dX5_pass_115 : decode cX5_pass 115 = .ok (.sipush 999, 3) := by decide +kernel
theorem dX5_pass_118 : decode cX5_pass 118 = .ok (.aload_n 1, 1) := by decide +kernel
theorem dX5_pass_119 : decode cX5_pass 119 = .ok (.getfield 85, 3) := by decide +kernel
theorem dX5_pass_122 : decode cX5_pass 122 = .ok (.iconst 1, 1) := by decide +kernel
theorem dX5_pass_123 : decode cX5_pass 123 = .ok (.iadd, 1) := by decide +kernel
theorem dX5_pass_124 : decode cX5_pass 124 = .ok (.invokestatic 57, 3) := by decide +kernel
theorem dX5_pass_127 : decode cX5_pass 127 = .ok (.putfield 85, 3) := by decide +kernel
theorem dX5_pass_130 : decode cX5_pass 130 = .ok (.iload_n 2, 1) := by decide +kernel
theorem dX5_pass_131 : decode cX5_pass 131 = .ok (.ireturn, 1) := by decide +kernel
theorem dX5_answer_0 : decode cX5_answer 0 = .ok (.aload_n 0, 1) := by decide +kernel
theorem dX5_answer_1 : decode cX5_answer 1 = .ok (.aload_n 1, 1) := by decide +kernel
theorem dX5_answer_2 : decode cX5_answer 2 = .ok (.invokevirtual 88, 3) := by decide +kernel
theorem dX5_answer_5 : decode cX5_answer 5 = .ok (.istore 4, 2) := by decide +kernel
theorem dX5_answer_7 : decode cX5_answer 7 = .ok (.iload_n 3, 1) := by decide +kernel
theorem dX5_answer_8 : decode cX5_answer 8 = .ok (.bipush 32, 2) := by decide +kernel
theorem dX5_answer_10 : decode cX5_answer 10 = .ok (.if_icmp .eq 9, 3) := by decide +kernel
theorem dX5_answer_13 : decode cX5_answer 13 = .ok (.iload_n 3, 1) := by decide +kernel
theorem dX5_answer_14 : decode cX5_answer 14 = .ok (.bipush 33, 2) := by decide +kernel
theorem dX5_answer_16 : decode cX5_answer 16 = .ok (.if_icmp .ne 9, 3) := by decide +kernel
theorem dX5_answer_19 : decode cX5_answer 19 = .ok (.ldc2_w 92, 3) := by decide +kernel
theorem dX5_answer_22 : decode cX5_answer 22 = .ok (.goto 4, 3) := by decide +kernel
theorem dX5_answer_25 : decode cX5_answer 25 = .ok (.lconst 0, 1) := by decide +kernel
theorem dX5_answer_26 : decode cX5_answer 26 = .ok (.lstore 5, 2) := by decide +kernel
theorem dX5_answer_28 : decode cX5_answer 28 = .ok (.iconst 0, 1) := by decide +kernel
theorem dX5_answer_29 : decode cX5_answer 29 = .ok (.istore 7, 2) := by decide +kernel
theorem dX5_answer_31 : decode cX5_answer 31 = .ok (.iload 7, 2) := by decide +kernel
theorem dX5_answer_33 : decode cX5_answer 33 = .ok (.aload_n 0, 1) := by decide +kernel
theorem dX5_answer_34 : decode cX5_answer 34 = .ok (.getfield 24, 3) := by decide +kernel
theorem dX5_answer_37 : decode cX5_answer 37 = .ok (.getfield 94, 3) := by decide +kernel
theorem dX5_answer_40 : decode cX5_answer 40 = .ok (.if_icmp .ge 23, 3) := by decide +kernel
theorem dX5_answer_43 : decode cX5_answer 43 = .ok (.aload_n 0, 1) := by decide +kernel
theorem dX5_answer_44 : decode cX5_answer 44 = .ok (.getfield 21, 3) := by decide +kernel
theorem dX5_answer_47 : decode cX5_answer 47 = .ok (.iload 7, 2) := by decide +kernel
theorem dX5_answer_49 : decode cX5_answer 49 = .ok (.aload_n 0, 1) := by decide +kernel
theorem dX5_answer_50 : decode cX5_answer 50 = .ok (.aload_n 1, 1) := by decide +kernel
theorem dX5_answer_51 : decode cX5_answer 51 = .ok (.iload 7, 2) := by decide +kernel
theorem dX5_answer_53 : decode cX5_answer 53 = .ok (.invokevirtual 97, 3) := by decide +kernel
theorem dX5_answer_56 : decode cX5_answer 56 = .ok (.iastore, 1) := by decide +kernel
theorem dX5_answer_57 : decode cX5_answer 57 = .ok (.iinc 7 1, 3) := by decide +kernel
theorem dX5_answer_60 : decode cX5_answer 60 = .ok (.goto (-29), 3) := by decide +kernel
theorem dX5_answer_63 : decode cX5_answer 63 = .ok (.iconst 0, 1) := by decide +kernel
theorem dX5_answer_64 : decode cX5_answer 64 = .ok (.istore 7, 2) := by decide +kernel
theorem dX5_answer_66 : decode cX5_answer 66 = .ok (.iload 7, 2) := by decide +kernel
theorem dX5_answer_68 : decode cX5_answer 68 = .ok (.aload_n 0, 1) := by decide +kernel
theorem dX5_answer_69 : decode cX5_answer 69 = .ok (.getfield 24, 3) := by decide +kernel
theorem dX5_answer_72 : decode cX5_answer 72 = .ok (.getfield 28, 3) := by decide +kernel
theorem dX5_answer_75 : decode cX5_answer 75 = .ok (.if_icmp .ge 42, 3) := by decide +kernel
theorem dX5_answer_78 : decode cX5_answer 78 = .ok (.aload_n 0, 1) := by decide +kernel
theorem dX5_answer_79 : decode cX5_answer 79 = .ok (.getfield 15, 3) := by decide +kernel
theorem dX5_answer_82 : decode cX5_answer 82 = .ok (.bipush 23, 2) := by decide +kernel
theorem dX5_answer_84 : decode cX5_answer 84 = .ok (.iload 4, 2) := by decide +kernel
theorem dX5_answer_86 : decode cX5_answer 86 = .ok (.iload 7, 2) := by decide +kernel
theorem dX5_answer_88 : decode cX5_answer 88 = .ok (.ishr, 1) := by decide +kernel
theorem dX5_answer_89 : decode cX5_answer 89 = .ok (.iconst 1, 1) := by decide +kernel
theorem dX5_answer_90 : decode cX5_answer 90 = .ok (.iand, 1) := by decide +kernel
theorem dX5_answer_91 : decode cX5_answer 91 = .ok (.iastore, 1) := by decide +kernel
theorem dX5_answer_92 : decode cX5_answer 92 = .ok (.iload_n 3, 1) := by decide +kernel
theorem dX5_answer_93 : decode cX5_answer 93 = .ok (.lload 5, 2) := by decide +kernel
theorem dX5_answer_95 : decode cX5_answer 95 = .ok (.iload 7, 2) := by decide +kernel
theorem dX5_answer_97 : decode cX5_answer 97 = .ok (.aload_n 0, 1) := by decide +kernel
theorem dX5_answer_98 : decode cX5_answer 98 = .ok (.aload_n 1, 1) := by decide +kernel
theorem dX5_answer_99 : decode cX5_answer 99 = .ok (.iload 7, 2) := by decide +kernel
theorem dX5_answer_101 : decode cX5_answer 101 = .ok (.aload_n 2, 1) := by decide +kernel
theorem dX5_answer_102 : decode cX5_answer 102 = .ok (.iconst 0, 1) := by decide +kernel
theorem dX5_answer_103 : decode cX5_answer 103 = .ok (.invokevirtual 69, 3) := by decide +kernel
theorem dX5_answer_106 : decode cX5_answer 106 = .ok (.invokestatic 101, 3) := by decide +kernel
theorem dX5_answer_109 : decode cX5_answer 109 = .ok (.lstore 5, 2) := by decide +kernel
theorem dX5_answer_111 : decode cX5_answer 111 = .ok (.iinc 7 1, 3) := by decide +kernel
theorem dX5_answer_114 : decode cX5_answer 114 = .ok (.goto (-48), 3) := by decide +kernel
theorem dX5_answer_117 : decode cX5_answer 117 = .ok (.lload 5, 2) := by decide +kernel
theorem dX5_answer_119 : decode cX5_answer 119 = .ok (.lreturn, 1) := by decide +kernel
theorem dX5_joined_0 : decode cX5_joined 0 = .ok (.iload_n 0, 1) := by decide +kernel
theorem dX5_joined_1 : decode cX5_joined 1 = .ok (.tableswitch 93 32 36 #[35, 55, 67, 67, 73], 35) := by decide +kernel
theorem dX5_joined_36 : decode cX5_joined 36 = .ok (.lload_n 1, 1) := by decide +kernel
theorem dX5_joined_37 : decode cX5_joined 37 = .ok (.ldc2_w 92, 3) := by decide +kernel
theorem dX5_joined_40 : decode cX5_joined 40 = .ok (.lcmp, 1) := by decide +kernel
theorem dX5_joined_41 : decode cX5_joined 41 = .ok (.ifCond .ne 13, 3) := by decide +kernel
theorem dX5_joined_44 : decode cX5_joined 44 = .ok (.iload 4, 2) := by decide +kernel
theorem dX5_joined_46 : decode cX5_joined 46 = .ok (.ifCond .eq 8, 3) := by decide +kernel
theorem dX5_joined_49 : decode cX5_joined 49 = .ok (.iload_n 3, 1) := by decide +kernel
theorem dX5_joined_50 : decode cX5_joined 50 = .ok (.i2l, 1) := by decide +kernel
theorem dX5_joined_51 : decode cX5_joined 51 = .ok (.goto 4, 3) := by decide +kernel
theorem dX5_joined_54 : decode cX5_joined 54 = .ok (.lload_n 1, 1) := by decide +kernel
theorem dX5_joined_55 : decode cX5_joined 55 = .ok (.lreturn, 1) := by decide +kernel
theorem dX5_joined_56 : decode cX5_joined 56 = .ok (.iload 4, 2) := by decide +kernel
theorem dX5_joined_58 : decode cX5_joined 58 = .ok (.ifCond .eq 8, 3) := by decide +kernel
theorem dX5_joined_61 : decode cX5_joined 61 = .ok (.iload_n 3, 1) := by decide +kernel
theorem dX5_joined_62 : decode cX5_joined 62 = .ok (.i2l, 1) := by decide +kernel
theorem dX5_joined_63 : decode cX5_joined 63 = .ok (.goto 4, 3) := by decide +kernel
theorem dX5_joined_66 : decode cX5_joined 66 = .ok (.lload_n 1, 1) := by decide +kernel
theorem dX5_joined_67 : decode cX5_joined 67 = .ok (.lreturn, 1) := by decide +kernel
theorem dX5_joined_68 : decode cX5_joined 68 = .ok (.lload_n 1, 1) := by decide +kernel
theorem dX5_joined_69 : decode cX5_joined 69 = .ok (.iload 4, 2) := by decide +kernel
theorem dX5_joined_71 : decode cX5_joined 71 = .ok (.i2l, 1) := by decide +kernel
theorem dX5_joined_72 : decode cX5_joined 72 = .ok (.ladd, 1) := by decide +kernel
theorem dX5_joined_73 : decode cX5_joined 73 = .ok (.lreturn, 1) := by decide +kernel
theorem dX5_joined_74 : decode cX5_joined 74 = .ok (.iload_n 3, 1) := by decide +kernel
theorem dX5_joined_75 : decode cX5_joined 75 = .ok (.ifCond .eq 11, 3) := by decide +kernel
theorem dX5_joined_78 : decode cX5_joined 78 = .ok (.iload 4, 2) := by decide +kernel
theorem dX5_joined_80 : decode cX5_joined 80 = .ok (.i2l, 1) := by decide +kernel
theorem dX5_joined_81 : decode cX5_joined 81 = .ok (.lload_n 1, 1) := by decide +kernel
theorem dX5_joined_82 : decode cX5_joined 82 = .ok (.lcmp, 1) := by decide +kernel
theorem dX5_joined_83 : decode cX5_joined 83 = .ok (.ifCond .le 9, 3) := by decide +kernel
theorem dX5_joined_86 : decode cX5_joined 86 = .ok (.iload 4, 2) := by decide +kernel
theorem dX5_joined_88 : decode cX5_joined 88 = .ok (.i2l, 1) := by decide +kernel
theorem dX5_joined_89 : decode cX5_joined 89 = .ok (.goto 4, 3) := by decide +kernel
theorem dX5_joined_92 : decode cX5_joined 92 = .ok (.lload_n 1, 1) := by decide +kernel
theorem dX5_joined_93 : decode cX5_joined 93 = .ok (.lreturn, 1) := by decide +kernel
theorem dX5_joined_94 : decode cX5_joined 94 = .ok (.iload_n 3, 1) := by decide +kernel
theorem dX5_joined_95 : decode cX5_joined 95 = .ok (.ifCond .eq 11, 3) := by decide +kernel
theorem dX5_joined_98 : decode cX5_joined 98 = .ok (.iload 4, 2) := by decide +kernel
theorem dX5_joined_100 : decode cX5_joined 100 = .ok (.i2l, 1) := by decide +kernel
theorem dX5_joined_101 : decode cX5_joined 101 = .ok (.lload_n 1, 1) := by decide +kernel
theorem dX5_joined_102 : decode cX5_joined 102 = .ok (.lcmp, 1) := by decide +kernel
theorem dX5_joined_103 : decode cX5_joined 103 = .ok (.ifCond .ge 9, 3) := by decide +kernel
theorem dX5_joined_106 : decode cX5_joined 106 = .ok (.iload 4, 2) := by decide +kernel
theorem dX5_joined_108 : decode cX5_joined 108 = .ok (.i2l, 1) := by decide +kernel
theorem dX5_joined_109 : decode cX5_joined 109 = .ok (.goto 4, 3) := by decide +kernel
theorem dX5_joined_112 : decode cX5_joined 112 = .ok (.lload_n 1, 1) := by decide +kernel
theorem dX5_joined_113 : decode cX5_joined 113 = .ok (.lreturn, 1) := by decide +kernel
theorem dX5_lightPlanned_0 : decode cX5_lightPlanned 0 = .ok (.iconst 0, 1) := by decide +kernel
theorem dX5_lightPlanned_1 : decode cX5_lightPlanned 1 = .ok (.istore_n 2, 1) := by decide +kernel
theorem dX5_lightPlanned_2 : decode cX5_lightPlanned 2 = .ok (.iload_n 2, 1) := by decide +kernel
theorem dX5_lightPlanned_3 : decode cX5_lightPlanned 3 = .ok (.aload_n 0, 1) := by decide +kernel
theorem dX5_lightPlanned_4 : decode cX5_lightPlanned 4 = .ok (.getfield 24, 3) := by decide +kernel
theorem dX5_lightPlanned_7 : decode cX5_lightPlanned 7 = .ok (.getfield 105, 3) := by decide +kernel
theorem dX5_lightPlanned_10 : decode cX5_lightPlanned 10 = .ok (.if_icmp .ge 71, 3) := by decide +kernel
theorem dX5_lightPlanned_13 : decode cX5_lightPlanned 13 = .ok (.aload_n 0, 1) := by decide +kernel
theorem dX5_lightPlanned_14 : decode cX5_lightPlanned 14 = .ok (.getfield 24, 3) := by decide +kernel
theorem dX5_lightPlanned_17 : decode cX5_lightPlanned 17 = .ok (.getfield 108, 3) := by decide +kernel
theorem dX5_lightPlanned_20 : decode cX5_lightPlanned 20 = .ok (.iload_n 2, 1) := by decide +kernel
theorem dX5_lightPlanned_21 : decode cX5_lightPlanned 21 = .ok (.iaload, 1) := by decide +kernel
theorem dX5_lightPlanned_22 : decode cX5_lightPlanned 22 = .ok (.istore_n 3, 1) := by decide +kernel
theorem dX5_lightPlanned_23 : decode cX5_lightPlanned 23 = .ok (.aload_n 0, 1) := by decide +kernel
theorem dX5_lightPlanned_24 : decode cX5_lightPlanned 24 = .ok (.getfield 24, 3) := by decide +kernel
theorem dX5_lightPlanned_27 : decode cX5_lightPlanned 27 = .ok (.getfield 111, 3) := by decide +kernel
theorem dX5_lightPlanned_30 : decode cX5_lightPlanned 30 = .ok (.iload_n 2, 1) := by decide +kernel
theorem dX5_lightPlanned_31 : decode cX5_lightPlanned 31 = .ok (.iaload, 1) := by decide +kernel
theorem dX5_lightPlanned_32 : decode cX5_lightPlanned 32 = .ok (.istore 4, 2) := by decide +kernel
theorem dX5_lightPlanned_34 : decode cX5_lightPlanned 34 = .ok (.aload_n 0, 1) := by decide +kernel
theorem dX5_lightPlanned_35 : decode cX5_lightPlanned 35 = .ok (.getfield 24, 3) := by decide +kernel
theorem dX5_lightPlanned_38 : decode cX5_lightPlanned 38 = .ok (.getfield 114, 3) := by decide +kernel
theorem dX5_lightPlanned_41 : decode cX5_lightPlanned 41 = .ok (.iload_n 2, 1) := by decide +kernel
theorem dX5_lightPlanned_42 : decode cX5_lightPlanned 42 = .ok (.iaload, 1) := by decide +kernel
theorem dX5_lightPlanned_43 : decode cX5_lightPlanned 43 = .ok (.aload_n 1, 1) := by decide +kernel
theorem dX5_lightPlanned_44 : decode cX5_lightPlanned 44 = .ok (.getfield 85, 3) := by decide +kernel
theorem dX5_lightPlanned_47 : decode cX5_lightPlanned 47 = .ok (.if_icmp .ne 28, 3) := by decide +kernel
theorem dX5_lightPlanned_50 : decode cX5_lightPlanned 50 = .ok (.aload_n 1, 1) := by decide +kernel
theorem dX5_lightPlanned_51 : decode cX5_lightPlanned 51 = .ok (.getfield 34, 3) := by decide +kernel
theorem dX5_lightPlanned_54 : decode cX5_lightPlanned 54 = .ok (.iload_n 3, 1) := by decide +kernel
theorem dX5_lightPlanned_55 : decode cX5_lightPlanned 55 = .ok (.iaload, 1) := by decide +kernel
theorem dX5_lightPlanned_56 : decode cX5_lightPlanned 56 = .ok (.ifCond .ne 19, 3) := by decide +kernel
theorem dX5_lightPlanned_59 : decode cX5_lightPlanned 59 = .ok (.iload 4, 2) := by decide +kernel
theorem dX5_lightPlanned_61 : decode cX5_lightPlanned 61 = .ok (.aload_n 1, 1) := by decide +kernel
theorem dX5_lightPlanned_62 : decode cX5_lightPlanned 62 = .ok (.getfield 117, 3) := by decide +kernel
theorem dX5_lightPlanned_65 : decode cX5_lightPlanned 65 = .ok (.if_icmp .gt 10, 3) := by decide +kernel
theorem dX5_lightPlanned_68 : decode cX5_lightPlanned 68 = .ok (.aload_n 1, 1) := by decide +kernel
theorem dX5_lightPlanned_69 : decode cX5_lightPlanned 69 = .ok (.iload_n 3, 1) := by decide +kernel
theorem dX5_lightPlanned_70 : decode cX5_lightPlanned 70 = .ok (.iload 4, 2) := by decide +kernel
theorem dX5_lightPlanned_72 : decode cX5_lightPlanned 72 = .ok (.invokevirtual 120, 3) := by decide +kernel
theorem dX5_lightPlanned_75 : decode cX5_lightPlanned 75 = .ok (.iinc 2 1, 3) := by decide +kernel
theorem dX5_lightPlanned_78 : decode cX5_lightPlanned 78 = .ok (.goto (-76), 3) := by decide +kernel
theorem dX5_lightPlanned_81 : decode cX5_lightPlanned 81 = .ok (.return_, 1) := by decide +kernel
theorem dX5_reckon_0 : decode cX5_reckon 0 = .ok (.aload_n 0, 1) := by decide +kernel
theorem dX5_reckon_1 : decode cX5_reckon 1 = .ok (.getfield 24, 3) := by decide +kernel
theorem dX5_reckon_4 : decode cX5_reckon 4 = .ok (.getfield 39, 3) := by decide +kernel
theorem dX5_reckon_7 : decode cX5_reckon 7 = .ok (.iload_n 2, 1) := by decide +kernel
theorem dX5_reckon_8 : decode cX5_reckon 8 = .ok (.iaload, 1) := by decide +kernel
theorem dX5_reckon_9 : decode cX5_reckon 9 = .ok (.istore 5, 2) := by decide +kernel
theorem dX5_reckon_11 : decode cX5_reckon 11 = .ok (.aload_n 3, 1) := by decide +kernel
theorem dX5_reckon_12 : decode cX5_reckon 12 = .ok (.getfield 123, 3) := by decide +kernel
theorem dX5_reckon_15 : decode cX5_reckon 15 = .ok (.iload 4, 2) := by decide +kernel
theorem dX5_reckon_17 : decode cX5_reckon 17 = .ok (.iaload, 1) := by decide +kernel
theorem dX5_reckon_18 : decode cX5_reckon 18 = .ok (.istore 6, 2) := by decide +kernel
theorem dX5_reckon_20 : decode cX5_reckon 20 = .ok (.aload_n 0, 1) := by decide +kernel
theorem dX5_reckon_21 : decode cX5_reckon 21 = .ok (.getfield 15, 3) := by decide +kernel
theorem dX5_reckon_24 : decode cX5_reckon 24 = .ok (.bipush 19, 2) := by decide +kernel
theorem dX5_reckon_26 : decode cX5_reckon 26 = .ok (.aload_n 1, 1) := by decide +kernel
theorem dX5_reckon_27 : decode cX5_reckon 27 = .ok (.getfield 85, 3) := by decide +kernel
theorem dX5_reckon_30 : decode cX5_reckon 30 = .ok (.iastore, 1) := by decide +kernel
theorem dX5_reckon_31 : decode cX5_reckon 31 = .ok (.aload_n 0, 1) := by decide +kernel
theorem dX5_reckon_32 : decode cX5_reckon 32 = .ok (.getfield 15, 3) := by decide +kernel
theorem dX5_reckon_35 : decode cX5_reckon 35 = .ok (.bipush 20, 2) := by decide +kernel
theorem dX5_reckon_37 : decode cX5_reckon 37 = .ok (.aload_n 1, 1) := by decide +kernel
theorem dX5_reckon_38 : decode cX5_reckon 38 = .ok (.getfield 42, 3) := by decide +kernel
theorem dX5_reckon_41 : decode cX5_reckon 41 = .ok (.iload 5, 2) := by decide +kernel
theorem dX5_reckon_43 : decode cX5_reckon 43 = .ok (.iaload, 1) := by decide +kernel
theorem dX5_reckon_44 : decode cX5_reckon 44 = .ok (.iastore, 1) := by decide +kernel
theorem dX5_reckon_45 : decode cX5_reckon 45 = .ok (.iload 6, 2) := by decide +kernel
theorem dX5_reckon_47 : decode cX5_reckon 47 = .ok (.bipush 16, 2) := by decide +kernel
theorem dX5_reckon_49 : decode cX5_reckon 49 = .ok (.ishr, 1) := by decide +kernel
theorem dX5_reckon_50 : decode cX5_reckon 50 = .ok (.iconst 1, 1) := by decide +kernel
theorem dX5_reckon_51 : decode cX5_reckon 51 = .ok (.iand, 1) := by decide +kernel
theorem dX5_reckon_52 : decode cX5_reckon 52 = .ok (.iconst 1, 1) := by decide +kernel
theorem dX5_reckon_53 : decode cX5_reckon 53 = .ok (.if_icmp .ne 16, 3) := by decide +kernel
theorem dX5_reckon_56 : decode cX5_reckon 56 = .ok (.aload_n 0, 1) := by decide +kernel
theorem dX5_reckon_57 : decode cX5_reckon 57 = .ok (.getfield 15, 3) := by decide +kernel
theorem dX5_reckon_60 : decode cX5_reckon 60 = .ok (.bipush 16, 2) := by decide +kernel
theorem dX5_reckon_62 : decode cX5_reckon 62 = .ok (.aload_n 0, 1) := by decide +kernel
theorem dX5_reckon_63 : decode cX5_reckon 63 = .ok (.aload_n 1, 1) := by decide +kernel
theorem dX5_reckon_64 : decode cX5_reckon 64 = .ok (.iload_n 2, 1) := by decide +kernel
theorem dX5_reckon_65 : decode cX5_reckon 65 = .ok (.invokevirtual 128, 3) := by decide +kernel
theorem dX5_reckon_68 : decode cX5_reckon 68 = .ok (.iastore, 1) := by decide +kernel
theorem dX5_reckon_69 : decode cX5_reckon 69 = .ok (.iload 6, 2) := by decide +kernel
theorem dX5_reckon_71 : decode cX5_reckon 71 = .ok (.bipush 17, 2) := by decide +kernel
theorem dX5_reckon_73 : decode cX5_reckon 73 = .ok (.ishr, 1) := by decide +kernel
theorem dX5_reckon_74 : decode cX5_reckon 74 = .ok (.iconst 1, 1) := by decide +kernel
theorem dX5_reckon_75 : decode cX5_reckon 75 = .ok (.iand, 1) := by decide +kernel
theorem dX5_reckon_76 : decode cX5_reckon 76 = .ok (.iconst 1, 1) := by decide +kernel
theorem dX5_reckon_77 : decode cX5_reckon 77 = .ok (.if_icmp .ne 26, 3) := by decide +kernel
theorem dX5_reckon_80 : decode cX5_reckon 80 = .ok (.aload_n 0, 1) := by decide +kernel
theorem dX5_reckon_81 : decode cX5_reckon 81 = .ok (.getfield 15, 3) := by decide +kernel
theorem dX5_reckon_84 : decode cX5_reckon 84 = .ok (.bipush 17, 2) := by decide +kernel
theorem dX5_reckon_86 : decode cX5_reckon 86 = .ok (.aload_n 0, 1) := by decide +kernel
theorem dX5_reckon_87 : decode cX5_reckon 87 = .ok (.aload_n 1, 1) := by decide +kernel
theorem dX5_reckon_88 : decode cX5_reckon 88 = .ok (.aload_n 0, 1) := by decide +kernel
theorem dX5_reckon_89 : decode cX5_reckon 89 = .ok (.getfield 24, 3) := by decide +kernel
theorem dX5_reckon_92 : decode cX5_reckon 92 = .ok (.getfield 45, 3) := by decide +kernel
theorem dX5_reckon_95 : decode cX5_reckon 95 = .ok (.iconst 0, 1) := by decide +kernel
theorem dX5_reckon_96 : decode cX5_reckon 96 = .ok (.invokevirtual 49, 3) := by decide +kernel
theorem dX5_reckon_99 : decode cX5_reckon 99 = .ok (.invokestatic 53, 3) := by decide +kernel
theorem dX5_reckon_102 : decode cX5_reckon 102 = .ok (.iastore, 1) := by decide +kernel
theorem dX5_reckon_103 : decode cX5_reckon 103 = .ok (.aload_n 0, 1) := by decide +kernel
theorem dX5_reckon_104 : decode cX5_reckon 104 = .ok (.getfield 15, 3) := by decide +kernel
theorem dX5_reckon_107 : decode cX5_reckon 107 = .ok (.bipush 15, 2) := by decide +kernel
theorem dX5_reckon_109 : decode cX5_reckon 109 = .ok (.aload_n 1, 1) := by decide +kernel
theorem dX5_reckon_110 : decode cX5_reckon 110 = .ok (.getfield 34, 3) := by decide +kernel
theorem dX5_reckon_113 : decode cX5_reckon 113 = .ok (.iload_n 2, 1) := by decide +kernel
theorem dX5_reckon_114 : decode cX5_reckon 114 = .ok (.iaload, 1) := by decide +kernel
theorem dX5_reckon_115 : decode cX5_reckon 115 = .ok (.iastore, 1) := by decide +kernel
theorem dX5_reckon_116 : decode cX5_reckon 116 = .ok (.aload_n 0, 1) := by decide +kernel
theorem dX5_reckon_117 : decode cX5_reckon 117 = .ok (.getfield 15, 3) := by decide +kernel
theorem dX5_reckon_120 : decode cX5_reckon 120 = .ok (.bipush 18, 2) := by decide +kernel
theorem dX5_reckon_122 : decode cX5_reckon 122 = .ok (.aload_n 1, 1) := by decide +kernel
theorem dX5_reckon_123 : decode cX5_reckon 123 = .ok (.getfield 131, 3) := by decide +kernel
theorem dX5_reckon_126 : decode cX5_reckon 126 = .ok (.iload_n 2, 1) := by decide +kernel
theorem dX5_reckon_127 : decode cX5_reckon 127 = .ok (.iaload, 1) := by decide +kernel
theorem dX5_reckon_128 : decode cX5_reckon 128 = .ok (.iastore, 1) := by decide +kernel
theorem dX5_reckon_129 : decode cX5_reckon 129 = .ok (.aload_n 0, 1) := by decide +kernel
theorem dX5_reckon_130 : decode cX5_reckon 130 = .ok (.getfield 15, 3) := by decide +kernel
theorem dX5_reckon_133 : decode cX5_reckon 133 = .ok (.iconst 3, 1) := by decide +kernel
theorem dX5_reckon_134 : decode cX5_reckon 134 = .ok (.aload_n 0, 1) := by decide +kernel
theorem dX5_reckon_135 : decode cX5_reckon 135 = .ok (.getfield 24, 3) := by decide +kernel
theorem dX5_reckon_138 : decode cX5_reckon 138 = .ok (.getfield 134, 3) := by decide +kernel
theorem dX5_reckon_141 : decode cX5_reckon 141 = .ok (.iload 5, 2) := by decide +kernel
theorem dX5_reckon_143 : decode cX5_reckon 143 = .ok (.iaload, 1) := by decide +kernel
theorem dX5_reckon_144 : decode cX5_reckon 144 = .ok (.iastore, 1) := by decide +kernel
theorem dX5_reckon_145 : decode cX5_reckon 145 = .ok (.aload_n 0, 1) := by decide +kernel
theorem dX5_reckon_146 : decode cX5_reckon 146 = .ok (.getfield 15, 3) := by decide +kernel
theorem dX5_reckon_149 : decode cX5_reckon 149 = .ok (.bipush 21, 2) := by decide +kernel
theorem dX5_reckon_151 : decode cX5_reckon 151 = .ok (.iload_n 2, 1) := by decide +kernel
theorem dX5_reckon_152 : decode cX5_reckon 152 = .ok (.iastore, 1) := by decide +kernel
theorem dX5_reckon_153 : decode cX5_reckon 153 = .ok (.aload_n 0, 1) := by decide +kernel
theorem dX5_reckon_154 : decode cX5_reckon 154 = .ok (.getfield 15, 3) := by decide +kernel
theorem dX5_reckon_157 : decode cX5_reckon 157 = .ok (.bipush 22, 2) := by decide +kernel
theorem dX5_reckon_159 : decode cX5_reckon 159 = .ok (.aload_n 1, 1) := by decide +kernel
theorem dX5_reckon_160 : decode cX5_reckon 160 = .ok (.getfield 34, 3) := by decide +kernel
theorem dX5_reckon_163 : decode cX5_reckon 163 = .ok (.iload_n 2, 1) := by decide +kernel
theorem dX5_reckon_164 : decode cX5_reckon 164 = .ok (.iaload, 1) := by decide +kernel
theorem dX5_reckon_165 : decode cX5_reckon 165 = .ok (.ifCond .le 7, 3) := by decide +kernel
theorem dX5_reckon_168 : decode cX5_reckon 168 = .ok (.iconst 1, 1) := by decide +kernel
theorem dX5_reckon_169 : decode cX5_reckon 169 = .ok (.goto 4, 3) := by decide +kernel
theorem dX5_reckon_172 : decode cX5_reckon 172 = .ok (.iconst 0, 1) := by decide +kernel
theorem dX5_reckon_173 : decode cX5_reckon 173 = .ok (.iastore, 1) := by decide +kernel
theorem dX5_reckon_174 : decode cX5_reckon 174 = .ok (.aload_n 0, 1) := by decide +kernel
theorem dX5_reckon_175 : decode cX5_reckon 175 = .ok (.aload_n 1, 1) := by decide +kernel
theorem dX5_reckon_176 : decode cX5_reckon 176 = .ok (.aload_n 3, 1) := by decide +kernel
theorem dX5_reckon_177 : decode cX5_reckon 177 = .ok (.iload 4, 2) := by decide +kernel
theorem dX5_reckon_179 : decode cX5_reckon 179 = .ok (.invokevirtual 49, 3) := by decide +kernel
theorem dX5_reckon_182 : decode cX5_reckon 182 = .ok (.ireturn, 1) := by decide +kernel
theorem dX5_run_0 : decode cX5_run 0 = .ok (.iconst 0, 1) := by decide +kernel
theorem dX5_run_1 : decode cX5_run 1 = .ok (.istore 4, 2) := by decide +kernel
theorem dX5_run_3 : decode cX5_run 3 = .ok (.aload_n 2, 1) := by decide +kernel
theorem dX5_run_4 : decode cX5_run 4 = .ok (.getfield 137, 3) := by decide +kernel
theorem dX5_run_7 : decode cX5_run 7 = .ok (.iload_n 3, 1) := by decide +kernel
theorem dX5_run_8 : decode cX5_run 8 = .ok (.iaload, 1) := by decide +kernel
theorem dX5_run_9 : decode cX5_run 9 = .ok (.istore 5, 2) := by decide +kernel
theorem dX5_run_11 : decode cX5_run 11 = .ok (.iload 5, 2) := by decide +kernel
theorem dX5_run_13 : decode cX5_run 13 = .ok (.aload_n 2, 1) := by decide +kernel
theorem dX5_run_14 : decode cX5_run 14 = .ok (.getfield 140, 3) := by decide +kernel
theorem dX5_run_17 : decode cX5_run 17 = .ok (.iload_n 3, 1) := by decide +kernel
theorem dX5_run_18 : decode cX5_run 18 = .ok (.iaload, 1) := by decide +kernel
theorem dX5_run_19 : decode cX5_run 19 = .ok (.if_icmp .ge 162, 3) := by decide +kernel
theorem dX5_run_22 : decode cX5_run 22 = .ok (.aload_n 2, 1) := by decide +kernel
theorem dX5_run_23 : decode cX5_run 23 = .ok (.getfield 143, 3) := by decide +kernel
theorem dX5_run_26 : decode cX5_run 26 = .ok (.iload 5, 2) := by decide +kernel
theorem dX5_run_28 : decode cX5_run 28 = .ok (.iaload, 1) := by decide +kernel
theorem dX5_run_29 : decode cX5_run 29 = .ok (.istore 6, 2) := by decide +kernel
theorem dX5_run_31 : decode cX5_run 31 = .ok (.iload 6, 2) := by decide +kernel
theorem dX5_run_33 : decode cX5_run 33 = .ok (.iconst (-1), 1) := by decide +kernel
theorem dX5_run_34 : decode cX5_run 34 = .ok (.ixor, 1) := by decide +kernel
theorem dX5_run_35 : decode cX5_run 35 = .ok (.istore 7, 2) := by decide +kernel
theorem dX5_run_37 : decode cX5_run 37 = .ok (.iload 7, 2) := by decide +kernel
theorem dX5_run_39 : decode cX5_run 39 = .ok (.bipush 24, 2) := by decide +kernel
theorem dX5_run_41 : decode cX5_run 41 = .ok (.if_icmp .ge 41, 3) := by decide +kernel
theorem dX5_run_44 : decode cX5_run 44 = .ok (.iload 4, 2) := by decide +kernel
theorem dX5_run_46 : decode cX5_run 46 = .ok (.sipush 128, 3) := by decide +kernel
theorem dX5_run_49 : decode cX5_run 49 = .ok (.if_icmp .ge 126, 3) := by decide +kernel
theorem dX5_run_52 : decode cX5_run 52 = .ok (.aload_n 0, 1) := by decide +kernel
theorem dX5_run_53 : decode cX5_run 53 = .ok (.getfield 9, 3) := by decide +kernel
theorem dX5_run_56 : decode cX5_run 56 = .ok (.iload 4, 2) := by decide +kernel
theorem dX5_run_58 : decode cX5_run 58 = .ok (.iinc 4 1, 3) := by decide +kernel
theorem dX5_run_61 : decode cX5_run 61 = .ok (.iload 6, 2) := by decide +kernel
theorem dX5_run_63 : decode cX5_run 63 = .ok (.ifCond .lt 8, 3) := by decide +kernel
theorem dX5_run_66 : decode cX5_run 66 = .ok (.iload 6, 2) := by decide +kernel
theorem dX5_run_68 : decode cX5_run 68 = .ok (.goto 10, 3) := by decide +kernel
theorem dX5_run_71 : decode cX5_run 71 = .ok (.aload_n 0, 1) := by decide +kernel
theorem dX5_run_72 : decode cX5_run 72 = .ok (.getfield 15, 3) := by decide +kernel
theorem dX5_run_75 : decode cX5_run 75 = .ok (.iload 7, 2) := by decide +kernel
theorem dX5_run_77 : decode cX5_run 77 = .ok (.iaload, 1) := by decide +kernel
theorem dX5_run_78 : decode cX5_run 78 = .ok (.iastore, 1) := by decide +kernel
theorem dX5_run_79 : decode cX5_run 79 = .ok (.goto 96, 3) := by decide +kernel
theorem dX5_run_82 : decode cX5_run 82 = .ok (.iload 7, 2) := by decide +kernel
theorem dX5_run_84 : decode cX5_run 84 = .ok (.bipush 28, 2) := by decide +kernel
theorem dX5_run_86 : decode cX5_run 86 = .ok (.if_icmp .eq 17, 3) := by decide +kernel
theorem dX5_run_89 : decode cX5_run 89 = .ok (.iload 7, 2) := by decide +kernel
theorem dX5_run_91 : decode cX5_run 91 = .ok (.bipush 24, 2) := by decide +kernel
theorem dX5_run_93 : decode cX5_run 93 = .ok (.if_icmp .eq 10, 3) := by decide +kernel
theorem dX5_run_96 : decode cX5_run 96 = .ok (.iload 7, 2) := by decide +kernel
theorem dX5_run_98 : decode cX5_run 98 = .ok (.bipush 25, 2) := by decide +kernel
theorem dX5_run_100 : decode cX5_run 100 = .ok (.if_icmp .ne 36, 3) := by decide +kernel
theorem dX5_run_103 : decode cX5_run 103 = .ok (.iload 4, 2) := by decide +kernel
theorem dX5_run_105 : decode cX5_run 105 = .ok (.ifCond .le 70, 3) := by decide +kernel
theorem dX5_run_108 : decode cX5_run 108 = .ok (.aload_n 0, 1) := by decide +kernel
theorem dX5_run_109 : decode cX5_run 109 = .ok (.getfield 9, 3) := by decide +kernel
theorem dX5_run_112 : decode cX5_run 112 = .ok (.iload 4, 2) := by decide +kernel
theorem dX5_run_114 : decode cX5_run 114 = .ok (.iconst 1, 1) := by decide +kernel
theorem dX5_run_115 : decode cX5_run 115 = .ok (.isub, 1) := by decide +kernel
theorem dX5_run_116 : decode cX5_run 116 = .ok (.aload_n 0, 1) := by decide +kernel
theorem dX5_run_117 : decode cX5_run 117 = .ok (.aload_n 1, 1) := by decide +kernel
theorem dX5_run_118 : decode cX5_run 118 = .ok (.iload 7, 2) := by decide +kernel
theorem dX5_run_120 : decode cX5_run 120 = .ok (.aload_n 0, 1) := by decide +kernel
theorem dX5_run_121 : decode cX5_run 121 = .ok (.getfield 9, 3) := by decide +kernel
theorem dX5_run_124 : decode cX5_run 124 = .ok (.iload 4, 2) := by decide +kernel
theorem dX5_run_126 : decode cX5_run 126 = .ok (.iconst 1, 1) := by decide +kernel
theorem dX5_run_127 : decode cX5_run 127 = .ok (.isub, 1) := by decide +kernel
theorem dX5_run_128 : decode cX5_run 128 = .ok (.iaload, 1) := by decide +kernel
theorem dX5_run_129 : decode cX5_run 129 = .ok (.invokevirtual 146, 3) := by decide +kernel
theorem dX5_run_132 : decode cX5_run 132 = .ok (.iastore, 1) := by decide +kernel
theorem dX5_run_133 : decode cX5_run 133 = .ok (.goto 42, 3) := by decide +kernel
theorem dX5_run_136 : decode cX5_run 136 = .ok (.iload 4, 2) := by decide +kernel
theorem dX5_run_138 : decode cX5_run 138 = .ok (.iconst 1, 1) := by decide +kernel
theorem dX5_run_139 : decode cX5_run 139 = .ok (.if_icmp .le 36, 3) := by decide +kernel
theorem dX5_run_142 : decode cX5_run 142 = .ok (.iinc 4 (-1), 3) := by decide +kernel
theorem dX5_run_145 : decode cX5_run 145 = .ok (.aload_n 0, 1) := by decide +kernel
theorem dX5_run_146 : decode cX5_run 146 = .ok (.getfield 9, 3) := by decide +kernel
theorem dX5_run_149 : decode cX5_run 149 = .ok (.iload 4, 2) := by decide +kernel
theorem dX5_run_151 : decode cX5_run 151 = .ok (.iconst 1, 1) := by decide +kernel
theorem dX5_run_152 : decode cX5_run 152 = .ok (.isub, 1) := by decide +kernel
theorem dX5_run_153 : decode cX5_run 153 = .ok (.iload 7, 2) := by decide +kernel
theorem dX5_run_155 : decode cX5_run 155 = .ok (.aload_n 0, 1) := by decide +kernel
theorem dX5_run_156 : decode cX5_run 156 = .ok (.getfield 9, 3) := by decide +kernel
theorem dX5_run_159 : decode cX5_run 159 = .ok (.iload 4, 2) := by decide +kernel
theorem dX5_run_161 : decode cX5_run 161 = .ok (.iconst 1, 1) := by decide +kernel
theorem dX5_run_162 : decode cX5_run 162 = .ok (.isub, 1) := by decide +kernel
theorem dX5_run_163 : decode cX5_run 163 = .ok (.iaload, 1) := by decide +kernel
theorem dX5_run_164 : decode cX5_run 164 = .ok (.aload_n 0, 1) := by decide +kernel
theorem dX5_run_165 : decode cX5_run 165 = .ok (.getfield 9, 3) := by decide +kernel
theorem dX5_run_168 : decode cX5_run 168 = .ok (.iload 4, 2) := by decide +kernel
theorem dX5_run_170 : decode cX5_run 170 = .ok (.iaload, 1) := by decide +kernel
theorem dX5_run_171 : decode cX5_run 171 = .ok (.invokestatic 150, 3) := by decide +kernel
theorem dX5_run_174 : decode cX5_run 174 = .ok (.iastore, 1) := by decide +kernel
theorem dX5_run_175 : decode cX5_run 175 = .ok (.iinc 5 1, 3) := by decide +kernel
theorem dX5_run_178 : decode cX5_run 178 = .ok (.goto (-167), 3) := by decide +kernel
theorem dX5_run_181 : decode cX5_run 181 = .ok (.iload 4, 2) := by decide +kernel
theorem dX5_run_183 : decode cX5_run 183 = .ok (.ifCond .le 12, 3) := by decide +kernel
theorem dX5_run_186 : decode cX5_run 186 = .ok (.aload_n 0, 1) := by decide +kernel
theorem dX5_run_187 : decode cX5_run 187 = .ok (.getfield 9, 3) := by decide +kernel
theorem dX5_run_190 : decode cX5_run 190 = .ok (.iconst 0, 1) := by decide +kernel
theorem dX5_run_191 : decode cX5_run 191 = .ok (.iaload, 1) := by decide +kernel
theorem dX5_run_192 : decode cX5_run 192 = .ok (.goto 4, 3) := by decide +kernel
theorem dX5_run_195 : decode cX5_run 195 = .ok (.iconst 0, 1) := by decide +kernel
theorem dX5_run_196 : decode cX5_run 196 = .ok (.ireturn, 1) := by decide +kernel
theorem dX5_ofOne_0 : decode cX5_ofOne 0 = .ok (.iload_n 2, 1) := by decide +kernel
theorem dX5_ofOne_1 : decode cX5_ofOne 1 = .ok (.lookupswitch 79 #[(24, 27), (25, 53)], 27) := by decide +kernel
theorem dX5_ofOne_28 : decode cX5_ofOne 28 = .ok (.iload_n 3, 1) := by decide +kernel
theorem dX5_ofOne_29 : decode cX5_ofOne 29 = .ok (.ifCond .lt 23, 3) := by decide +kernel
theorem dX5_ofOne_32 : decode cX5_ofOne 32 = .ok (.iload_n 3, 1) := by decide +kernel
theorem dX5_ofOne_33 : decode cX5_ofOne 33 = .ok (.aload_n 0, 1) := by decide +kernel
theorem dX5_ofOne_34 : decode cX5_ofOne 34 = .ok (.getfield 24, 3) := by decide +kernel
theorem dX5_ofOne_37 : decode cX5_ofOne 37 = .ok (.getfield 28, 3) := by decide +kernel
theorem dX5_ofOne_40 : decode cX5_ofOne 40 = .ok (.if_icmp .ge 12, 3) := by decide +kernel
theorem dX5_ofOne_43 : decode cX5_ofOne 43 = .ok (.aload_n 1, 1) := by decide +kernel
theorem dX5_ofOne_44 : decode cX5_ofOne 44 = .ok (.getfield 34, 3) := by decide +kernel
theorem dX5_ofOne_47 : decode cX5_ofOne 47 = .ok (.iload_n 3, 1) := by decide +kernel
theorem dX5_ofOne_48 : decode cX5_ofOne 48 = .ok (.iaload, 1) := by decide +kernel
theorem dX5_ofOne_49 : decode cX5_ofOne 49 = .ok (.goto 4, 3) := by decide +kernel
theorem dX5_ofOne_52 : decode cX5_ofOne 52 = .ok (.iconst 0, 1) := by decide +kernel
theorem dX5_ofOne_53 : decode cX5_ofOne 53 = .ok (.ireturn, 1) := by decide +kernel
theorem dX5_ofOne_54 : decode cX5_ofOne 54 = .ok (.iload_n 3, 1) := by decide +kernel
theorem dX5_ofOne_55 : decode cX5_ofOne 55 = .ok (.ifCond .lt 23, 3) := by decide +kernel
theorem dX5_ofOne_58 : decode cX5_ofOne 58 = .ok (.iload_n 3, 1) := by decide +kernel
theorem dX5_ofOne_59 : decode cX5_ofOne 59 = .ok (.aload_n 0, 1) := by decide +kernel
theorem dX5_ofOne_60 : decode cX5_ofOne 60 = .ok (.getfield 24, 3) := by decide +kernel
theorem dX5_ofOne_63 : decode cX5_ofOne 63 = .ok (.getfield 94, 3) := by decide +kernel
theorem dX5_ofOne_66 : decode cX5_ofOne 66 = .ok (.if_icmp .ge 12, 3) := by decide +kernel
theorem dX5_ofOne_69 : decode cX5_ofOne 69 = .ok (.aload_n 0, 1) := by decide +kernel
theorem dX5_ofOne_70 : decode cX5_ofOne 70 = .ok (.getfield 21, 3) := by decide +kernel
theorem dX5_ofOne_73 : decode cX5_ofOne 73 = .ok (.iload_n 3, 1) := by decide +kernel
theorem dX5_ofOne_74 : decode cX5_ofOne 74 = .ok (.iaload, 1) := by decide +kernel
theorem dX5_ofOne_75 : decode cX5_ofOne 75 = .ok (.goto 4, 3) := by decide +kernel
theorem dX5_ofOne_78 : decode cX5_ofOne 78 = .ok (.iconst 0, 1) := by decide +kernel
theorem dX5_ofOne_79 : decode cX5_ofOne 79 = .ok (.ireturn, 1) := by decide +kernel
theorem dX5_ofOne_80 : decode cX5_ofOne 80 = .ok (.iconst 1, 1) := by decide +kernel
theorem dX5_ofOne_81 : decode cX5_ofOne 81 = .ok (.iload_n 3, 1) := by decide +kernel
theorem dX5_ofOne_82 : decode cX5_ofOne 82 = .ok (.isub, 1) := by decide +kernel
theorem dX5_ofOne_83 : decode cX5_ofOne 83 = .ok (.ireturn, 1) := by decide +kernel
theorem dX5_ofTwo_0 : decode cX5_ofTwo 0 = .ok (.iload_n 0, 1) := by decide +kernel
theorem dX5_ofTwo_1 : decode cX5_ofTwo 1 = .ok (.tableswitch 282 26 62 #[250, 258, 282, 282, 266, 282, 282, 282, 282, 282, 282, 282, 282, 282, 282, 282, 181, 163, 282, 172, 282, 190, 282, 282, 282, 282, 282, 282, 282, 282, 282, 282, 282, 282, 208, 236, 222], 163) := by decide +kernel
theorem dX5_ofTwo_164 : decode cX5_ofTwo 164 = .ok (.iload_n 1, 1) := by decide +kernel
theorem dX5_ofTwo_165 : decode cX5_ofTwo 165 = .ok (.i2l, 1) := by decide +kernel
theorem dX5_ofTwo_166 : decode cX5_ofTwo 166 = .ok (.iload_n 2, 1) := by decide +kernel
theorem dX5_ofTwo_167 : decode cX5_ofTwo 167 = .ok (.i2l, 1) := by decide +kernel
theorem dX5_ofTwo_168 : decode cX5_ofTwo 168 = .ok (.ladd, 1) := by decide +kernel
theorem dX5_ofTwo_169 : decode cX5_ofTwo 169 = .ok (.lstore_n 3, 1) := by decide +kernel
theorem dX5_ofTwo_170 : decode cX5_ofTwo 170 = .ok (.goto 126, 3) := by decide +kernel
theorem dX5_ofTwo_173 : decode cX5_ofTwo 173 = .ok (.iload_n 1, 1) := by decide +kernel
theorem dX5_ofTwo_174 : decode cX5_ofTwo 174 = .ok (.i2l, 1) := by decide +kernel
theorem dX5_ofTwo_175 : decode cX5_ofTwo 175 = .ok (.iload_n 2, 1) := by decide +kernel
theorem dX5_ofTwo_176 : decode cX5_ofTwo 176 = .ok (.i2l, 1) := by decide +kernel
theorem dX5_ofTwo_177 : decode cX5_ofTwo 177 = .ok (.lsub, 1) := by decide +kernel
theorem dX5_ofTwo_178 : decode cX5_ofTwo 178 = .ok (.lstore_n 3, 1) := by decide +kernel
theorem dX5_ofTwo_179 : decode cX5_ofTwo 179 = .ok (.goto 117, 3) := by decide +kernel
theorem dX5_ofTwo_182 : decode cX5_ofTwo 182 = .ok (.iload_n 1, 1) := by decide +kernel
theorem dX5_ofTwo_183 : decode cX5_ofTwo 183 = .ok (.i2l, 1) := by decide +kernel
theorem dX5_ofTwo_184 : decode cX5_ofTwo 184 = .ok (.iload_n 2, 1) := by decide +kernel
theorem dX5_ofTwo_185 : decode cX5_ofTwo 185 = .ok (.i2l, 1) := by decide +kernel
theorem dX5_ofTwo_186 : decode cX5_ofTwo 186 = .ok (.lmul, 1) := by decide +kernel
theorem dX5_ofTwo_187 : decode cX5_ofTwo 187 = .ok (.lstore_n 3, 1) := by decide +kernel
theorem dX5_ofTwo_188 : decode cX5_ofTwo 188 = .ok (.goto 108, 3) := by decide +kernel
theorem dX5_ofTwo_191 : decode cX5_ofTwo 191 = .ok (.iload_n 2, 1) := by decide +kernel
theorem dX5_ofTwo_192 : decode cX5_ofTwo 192 = .ok (.ifCond .ne 7, 3) := by decide +kernel
theorem dX5_ofTwo_195 : decode cX5_ofTwo 195 = .ok (.lconst 0, 1) := by decide +kernel
theorem dX5_ofTwo_196 : decode cX5_ofTwo 196 = .ok (.goto 9, 3) := by decide +kernel
theorem dX5_ofTwo_199 : decode cX5_ofTwo 199 = .ok (.iload_n 1, 1) := by decide +kernel
theorem dX5_ofTwo_200 : decode cX5_ofTwo 200 = .ok (.iload_n 2, 1) := by decide +kernel
theorem dX5_ofTwo_201 : decode cX5_ofTwo 201 = .ok (.invokestatic 154, 3) := by decide +kernel
theorem dX5_ofTwo_204 : decode cX5_ofTwo 204 = .ok (.i2l, 1) := by decide +kernel
theorem dX5_ofTwo_205 : decode cX5_ofTwo 205 = .ok (.lstore_n 3, 1) := by decide +kernel
theorem dX5_ofTwo_206 : decode cX5_ofTwo 206 = .ok (.goto 90, 3) := by decide +kernel
theorem dX5_ofTwo_209 : decode cX5_ofTwo 209 = .ok (.iload_n 1, 1) := by decide +kernel
theorem dX5_ofTwo_210 : decode cX5_ofTwo 210 = .ok (.iload_n 2, 1) := by decide +kernel
theorem dX5_ofTwo_211 : decode cX5_ofTwo 211 = .ok (.if_icmp .ge 7, 3) := by decide +kernel
theorem dX5_ofTwo_214 : decode cX5_ofTwo 214 = .ok (.lconst 1, 1) := by decide +kernel
theorem dX5_ofTwo_215 : decode cX5_ofTwo 215 = .ok (.goto 4, 3) := by decide +kernel
theorem dX5_ofTwo_218 : decode cX5_ofTwo 218 = .ok (.lconst 0, 1) := by decide +kernel
theorem dX5_ofTwo_219 : decode cX5_ofTwo 219 = .ok (.lstore_n 3, 1) := by decide +kernel
theorem dX5_ofTwo_220 : decode cX5_ofTwo 220 = .ok (.goto 76, 3) := by decide +kernel
theorem dX5_ofTwo_223 : decode cX5_ofTwo 223 = .ok (.iload_n 1, 1) := by decide +kernel
theorem dX5_ofTwo_224 : decode cX5_ofTwo 224 = .ok (.iload_n 2, 1) := by decide +kernel
theorem dX5_ofTwo_225 : decode cX5_ofTwo 225 = .ok (.if_icmp .le 7, 3) := by decide +kernel
theorem dX5_ofTwo_228 : decode cX5_ofTwo 228 = .ok (.lconst 1, 1) := by decide +kernel
theorem dX5_ofTwo_229 : decode cX5_ofTwo 229 = .ok (.goto 4, 3) := by decide +kernel
theorem dX5_ofTwo_232 : decode cX5_ofTwo 232 = .ok (.lconst 0, 1) := by decide +kernel
theorem dX5_ofTwo_233 : decode cX5_ofTwo 233 = .ok (.lstore_n 3, 1) := by decide +kernel
theorem dX5_ofTwo_234 : decode cX5_ofTwo 234 = .ok (.goto 62, 3) := by decide +kernel
theorem dX5_ofTwo_237 : decode cX5_ofTwo 237 = .ok (.iload_n 1, 1) := by decide +kernel
theorem dX5_ofTwo_238 : decode cX5_ofTwo 238 = .ok (.iload_n 2, 1) := by decide +kernel
theorem dX5_ofTwo_239 : decode cX5_ofTwo 239 = .ok (.if_icmp .ne 7, 3) := by decide +kernel
theorem dX5_ofTwo_242 : decode cX5_ofTwo 242 = .ok (.lconst 1, 1) := by decide +kernel
theorem dX5_ofTwo_243 : decode cX5_ofTwo 243 = .ok (.goto 4, 3) := by decide +kernel
theorem dX5_ofTwo_246 : decode cX5_ofTwo 246 = .ok (.lconst 0, 1) := by decide +kernel
theorem dX5_ofTwo_247 : decode cX5_ofTwo 247 = .ok (.lstore_n 3, 1) := by decide +kernel
theorem dX5_ofTwo_248 : decode cX5_ofTwo 248 = .ok (.goto 48, 3) := by decide +kernel
theorem dX5_ofTwo_251 : decode cX5_ofTwo 251 = .ok (.iload_n 1, 1) := by decide +kernel
theorem dX5_ofTwo_252 : decode cX5_ofTwo 252 = .ok (.iload_n 2, 1) := by decide +kernel
theorem dX5_ofTwo_253 : decode cX5_ofTwo 253 = .ok (.ior, 1) := by decide +kernel
theorem dX5_ofTwo_254 : decode cX5_ofTwo 254 = .ok (.i2l, 1) := by decide +kernel
theorem dX5_ofTwo_255 : decode cX5_ofTwo 255 = .ok (.lstore_n 3, 1) := by decide +kernel
theorem dX5_ofTwo_256 : decode cX5_ofTwo 256 = .ok (.goto 40, 3) := by decide +kernel
theorem dX5_ofTwo_259 : decode cX5_ofTwo 259 = .ok (.iload_n 1, 1) := by decide +kernel
theorem dX5_ofTwo_260 : decode cX5_ofTwo 260 = .ok (.iload_n 2, 1) := by decide +kernel
theorem dX5_ofTwo_261 : decode cX5_ofTwo 261 = .ok (.iand, 1) := by decide +kernel
theorem dX5_ofTwo_262 : decode cX5_ofTwo 262 = .ok (.i2l, 1) := by decide +kernel
theorem dX5_ofTwo_263 : decode cX5_ofTwo 263 = .ok (.lstore_n 3, 1) := by decide +kernel
theorem dX5_ofTwo_264 : decode cX5_ofTwo 264 = .ok (.goto 32, 3) := by decide +kernel
theorem dX5_ofTwo_267 : decode cX5_ofTwo 267 = .ok (.iload_n 1, 1) := by decide +kernel
theorem dX5_ofTwo_268 : decode cX5_ofTwo 268 = .ok (.iload_n 2, 1) := by decide +kernel
theorem dX5_ofTwo_269 : decode cX5_ofTwo 269 = .ok (.if_icmp .ge 8, 3) := by decide +kernel
theorem dX5_ofTwo_272 : decode cX5_ofTwo 272 = .ok (.iload_n 1, 1) := by decide +kernel
theorem dX5_ofTwo_273 : decode cX5_ofTwo 273 = .ok (.i2l, 1) := by decide +kernel
theorem dX5_ofTwo_274 : decode cX5_ofTwo 274 = .ok (.goto 5, 3) := by decide +kernel
theorem dX5_ofTwo_277 : decode cX5_ofTwo 277 = .ok (.iload_n 2, 1) := by decide +kernel
theorem dX5_ofTwo_278 : decode cX5_ofTwo 278 = .ok (.i2l, 1) := by decide +kernel
theorem dX5_ofTwo_279 : decode cX5_ofTwo 279 = .ok (.lstore_n 3, 1) := by decide +kernel
theorem dX5_ofTwo_280 : decode cX5_ofTwo 280 = .ok (.goto 16, 3) := by decide +kernel
theorem dX5_ofTwo_283 : decode cX5_ofTwo 283 = .ok (.iload_n 1, 1) := by decide +kernel
theorem dX5_ofTwo_284 : decode cX5_ofTwo 284 = .ok (.iload_n 2, 1) := by decide +kernel
theorem dX5_ofTwo_285 : decode cX5_ofTwo 285 = .ok (.if_icmp .le 8, 3) := by decide +kernel
theorem dX5_ofTwo_288 : decode cX5_ofTwo 288 = .ok (.iload_n 1, 1) := by decide +kernel
theorem dX5_ofTwo_289 : decode cX5_ofTwo 289 = .ok (.i2l, 1) := by decide +kernel
theorem dX5_ofTwo_290 : decode cX5_ofTwo 290 = .ok (.goto 5, 3) := by decide +kernel
theorem dX5_ofTwo_293 : decode cX5_ofTwo 293 = .ok (.iload_n 2, 1) := by decide +kernel
theorem dX5_ofTwo_294 : decode cX5_ofTwo 294 = .ok (.i2l, 1) := by decide +kernel
theorem dX5_ofTwo_295 : decode cX5_ofTwo 295 = .ok (.lstore_n 3, 1) := by decide +kernel
theorem dX5_ofTwo_296 : decode cX5_ofTwo 296 = .ok (.lload_n 3, 1) := by decide +kernel
theorem dX5_ofTwo_297 : decode cX5_ofTwo 297 = .ok (.ldc2_w 157, 3) := by decide +kernel
theorem dX5_ofTwo_300 : decode cX5_ofTwo 300 = .ok (.lcmp, 1) := by decide +kernel
theorem dX5_ofTwo_301 : decode cX5_ofTwo 301 = .ok (.ifCond .le 9, 3) := by decide +kernel
theorem dX5_ofTwo_304 : decode cX5_ofTwo 304 = .ok (.ldc2_w 157, 3) := by decide +kernel
theorem dX5_ofTwo_307 : decode cX5_ofTwo 307 = .ok (.goto 18, 3) := by decide +kernel
theorem dX5_ofTwo_310 : decode cX5_ofTwo 310 = .ok (.lload_n 3, 1) := by decide +kernel
theorem dX5_ofTwo_311 : decode cX5_ofTwo 311 = .ok (.ldc2_w 159, 3) := by decide +kernel
theorem dX5_ofTwo_314 : decode cX5_ofTwo 314 = .ok (.lcmp, 1) := by decide +kernel
theorem dX5_ofTwo_315 : decode cX5_ofTwo 315 = .ok (.ifCond .ge 9, 3) := by decide +kernel
theorem dX5_ofTwo_318 : decode cX5_ofTwo 318 = .ok (.ldc2_w 159, 3) := by decide +kernel
theorem dX5_ofTwo_321 : decode cX5_ofTwo 321 = .ok (.goto 4, 3) := by decide +kernel
theorem dX5_ofTwo_324 : decode cX5_ofTwo 324 = .ok (.lload_n 3, 1) := by decide +kernel
theorem dX5_ofTwo_325 : decode cX5_ofTwo 325 = .ok (.l2i, 1) := by decide +kernel
theorem dX5_ofTwo_326 : decode cX5_ofTwo 326 = .ok (.ireturn, 1) := by decide +kernel
theorem dX6_init_0 : decode cX6_init 0 = .ok (.aload_n 0, 1) := by decide +kernel
theorem dX6_init_1 : decode cX6_init 1 = .ok (.invokespecial 3, 3) := by decide +kernel
theorem dX6_init_4 : decode cX6_init 4 = .ok (.aload_n 0, 1) := by decide +kernel
theorem dX6_init_5 : decode cX6_init 5 = .ok (.bipush 48, 2) := by decide +kernel
theorem dX6_init_7 : decode cX6_init 7 = .ok (.newarray .int, 2) := by decide +kernel
theorem dX6_init_9 : decode cX6_init 9 = .ok (.putfield 9, 3) := by decide +kernel
theorem dX6_init_12 : decode cX6_init 12 = .ok (.aload_n 0, 1) := by decide +kernel
theorem dX6_init_13 : decode cX6_init 13 = .ok (.iconst 0, 1) := by decide +kernel
theorem dX6_init_14 : decode cX6_init 14 = .ok (.putfield 15, 3) := by decide +kernel
theorem dX6_init_17 : decode cX6_init 17 = .ok (.aload_n 0, 1) := by decide +kernel
theorem dX6_init_18 : decode cX6_init 18 = .ok (.bipush 99, 2) := by decide +kernel
theorem dX6_init_20 : decode cX6_init 20 = .ok (.newarray .int, 2) := by decide +kernel
theorem dX6_init_22 : decode cX6_init 22 = .ok (.putfield 19, 3) := by decide +kernel
theorem dX6_init_25 : decode cX6_init 25 = .ok (.aload_n 0, 1) := by decide +kernel
theorem dX6_init_26 : decode cX6_init 26 = .ok (.iconst 0, 1) := by decide +kernel
theorem dX6_init_27 : decode cX6_init 27 = .ok (.putfield 22, 3) := by decide +kernel
theorem dX6_init_30 : decode cX6_init 30 = .ok (.aload_n 0, 1) := by decide +kernel
theorem dX6_init_31 : decode cX6_init 31 = .ok (.sipush 1620, 3) := by decide +kernel
theorem dX6_init_34 : decode cX6_init 34 = .ok (.newarray .int, 2) := by decide +kernel
theorem dX6_init_36 : decode cX6_init 36 = .ok (.putfield 25, 3) := by decide +kernel
theorem dX6_init_39 : decode cX6_init 39 = .ok (.aload_n 0, 1) := by decide +kernel
theorem dX6_init_40 : decode cX6_init 40 = .ok (.iconst 0, 1) := by decide +kernel
theorem dX6_init_41 : decode cX6_init 41 = .ok (.putfield 28, 3) := by decide +kernel
theorem dX6_init_44 : decode cX6_init 44 = .ok (.aload_n 0, 1) := by decide +kernel
theorem dX6_init_45 : decode cX6_init 45 = .ok (.iconst 0, 1) := by decide +kernel
theorem dX6_init_46 : decode cX6_init 46 = .ok (.putfield 31, 3) := by decide +kernel
theorem dX6_init_49 : decode cX6_init 49 = .ok (.aload_n 0, 1) := by decide +kernel
theorem dX6_init_50 : decode cX6_init 50 = .ok (.iconst 0, 1) := by decide +kernel
theorem dX6_init_51 : decode cX6_init 51 = .ok (.putfield 34, 3) := by decide +kernel
theorem dX6_init_54 : decode cX6_init 54 = .ok (.aload_n 0, 1) := by decide +kernel
theorem dX6_init_55 : decode cX6_init 55 = .ok (.aload_n 1, 1) := by decide +kernel
theorem dX6_init_56 : decode cX6_init 56 = .ok (.putfield 37, 3) := by decide +kernel
theorem dX6_init_59 : decode cX6_init 59 = .ok (.aload_n 0, 1) := by decide +kernel
theorem dX6_init_60 : decode cX6_init 60 = .ok (.aload_n 1, 1) := by decide +kernel
theorem dX6_init_61 : decode cX6_init 61 = .ok (.getfield 41, 3) := by decide +kernel
theorem dX6_init_64 : decode cX6_init 64 = .ok (.putfield 47, 3) := by decide +kernel
theorem dX6_init_67 : decode cX6_init 67 = .ok (.aload_n 0, 1) := by decide +kernel
theorem dX6_init_68 : decode cX6_init 68 = .ok (.aload_n 1, 1) := by decide +kernel
theorem dX6_init_69 : decode cX6_init 69 = .ok (.getfield 48, 3) := by decide +kernel
theorem dX6_init_72 : decode cX6_init 72 = .ok (.putfield 52, 3) := by decide +kernel
theorem dX6_init_75 : decode cX6_init 75 = .ok (.return_, 1) := by decide +kernel
theorem dX6_take_0 : decode cX6_take 0 = .ok (.aload_n 1, 1) := by decide +kernel
theorem dX6_take_1 : decode cX6_take 1 = .ok (.getfield 53, 3) := by decide +kernel
theorem dX6_take_4 : decode cX6_take 4 = .ok (.iconst 3, 1) := by decide +kernel
theorem dX6_take_5 : decode cX6_take 5 = .ok (.idiv, 1) := by decide +kernel
theorem dX6_take_6 : decode cX6_take 6 = .ok (.istore_n 3, 1) := by decide +kernel
theorem dX6_take_7 : decode cX6_take 7 = .ok (.iload_n 3, 1) := by decide +kernel
theorem dX6_take_8 : decode cX6_take 8 = .ok (.iconst 1, 1) := by decide +kernel
theorem dX6_take_9 : decode cX6_take 9 = .ok (.if_icmp .lt 19, 3) := by decide +kernel
theorem dX6_take_12 : decode cX6_take 12 = .ok (.iload_n 3, 1) := by decide +kernel
theorem dX6_take_13 : decode cX6_take 13 = .ok (.bipush 16, 2) := by decide +kernel
theorem dX6_take_15 : decode cX6_take 15 = .ok (.if_icmp .gt 13, 3) := by decide +kernel
theorem dX6_take_18 : decode cX6_take 18 = .ok (.iload_n 3, 1) := by decide +kernel
theorem dX6_take_19 : decode cX6_take 19 = .ok (.iconst 3, 1) := by decide +kernel
theorem dX6_take_20 : decode cX6_take 20 = .ok (.imul, 1) := by decide +kernel
theorem dX6_take_21 : decode cX6_take 21 = .ok (.aload_n 1, 1) := by decide +kernel
theorem dX6_take_22 : decode cX6_take 22 = .ok (.getfield 53, 3) := by decide +kernel
theorem dX6_take_25 : decode cX6_take 25 = .ok (.if_icmp .eq 5, 3) := by decide +kernel
theorem dX6_take_28 : decode cX6_take 28 = .ok (.iconst 0, 1) := by decide +kernel
theorem dX6_take_29 : decode cX6_take 29 = .ok (.ireturn, 1) := by decide +kernel
theorem dX6_take_30 : decode cX6_take 30 = .ok (.iconst 0, 1) := by decide +kernel
theorem dX6_take_31 : decode cX6_take 31 = .ok (.istore 4, 2) := by decide +kernel
theorem dX6_take_33 : decode cX6_take 33 = .ok (.iload 4, 2) := by decide +kernel
theorem dX6_take_35 : decode cX6_take 35 = .ok (.aload_n 1, 1) := by decide +kernel
theorem dX6_take_36 : decode cX6_take 36 = .ok (.getfield 53, 3) := by decide +kernel
theorem dX6_take_39 : decode cX6_take 39 = .ok (.if_icmp .ge 47, 3) := by decide +kernel
theorem dX6_take_42 : decode cX6_take 42 = .ok (.aload_n 1, 1) := by decide +kernel
theorem dX6_take_43 : decode cX6_take 43 = .ok (.iload 4, 2) := by decide +kernel
theorem dX6_take_45 : decode cX6_take 45 = .ok (.invokevirtual 58, 3) := by decide +kernel
theorem dX6_take_48 : decode cX6_take 48 = .ok (.bipush 30, 2) := by decide +kernel
theorem dX6_take_50 : decode cX6_take 50 = .ok (.if_icmp .gt 28, 3) := by decide +kernel
theorem dX6_take_53 : decode cX6_take 53 = .ok (.aload_n 1, 1) := by decide +kernel
theorem dX6_take_54 : decode cX6_take 54 = .ok (.iload 4, 2) := by decide +kernel
theorem dX6_take_56 : decode cX6_take 56 = .ok (.iconst 1, 1) := by decide +kernel
theorem dX6_take_57 : decode cX6_take 57 = .ok (.iadd, 1) := by decide +kernel
theorem dX6_take_58 : decode cX6_take 58 = .ok (.invokevirtual 58, 3) := by decide +kernel
theorem dX6_take_61 : decode cX6_take 61 = .ok (.iload_n 2, 1) := by decide +kernel
theorem dX6_take_62 : decode cX6_take 62 = .ok (.if_icmp .ge 16, 3) := by decide +kernel
theorem dX6_take_65 : decode cX6_take 65 = .ok (.aload_n 1, 1) := by decide +kernel
theorem dX6_take_66 : decode cX6_take 66 = .ok (.iload 4, 2) := by decide +kernel
theorem dX6_take_68 : decode cX6_take 68 = .ok (.iconst 2, 1) := by decide +kernel
theorem dX6_take_69 : decode cX6_take 69 = .ok (.iadd, 1) := by decide +kernel
theorem dX6_take_70 : decode cX6_take 70 = .ok (.invokevirtual 58, 3) := by decide +kernel
theorem dX6_take_73 : decode cX6_take 73 = .ok (.bipush 8, 2) := by decide +kernel
theorem dX6_take_75 : decode cX6_take 75 = .ok (.if_icmp .le 5, 3) := by decide +kernel
theorem dX6_take_78 : decode cX6_take 78 = .ok (.iconst 0, 1) := by decide +kernel
theorem dX6_take_79 : decode cX6_take 79 = .ok (.ireturn, 1) := by decide +kernel
theorem dX6_take_80 : decode cX6_take 80 = .ok (.iinc 4 3, 3) := by decide +kernel
theorem dX6_take_83 : decode cX6_take 83 = .ok (.goto (-50), 3) := by decide +kernel
theorem dX6_take_86 : decode cX6_take 86 = .ok (.aload_n 1, 1) := by decide +kernel
theorem dX6_take_87 : decode cX6_take 87 = .ok (.getfield 62, 3) := by decide +kernel
theorem dX6_take_90 : decode cX6_take 90 = .ok (.iconst 0, 1) := by decide +kernel
theorem dX6_take_91 : decode cX6_take 91 = .ok (.aload_n 0, 1) := by decide +kernel
theorem dX6_take_92 : decode cX6_take 92 = .ok (.getfield 9, 3) := by decide +kernel
theorem dX6_take_95 : decode cX6_take 95 = .ok (.iconst 0, 1) := by decide +kernel
theorem dX6_take_96 : decode cX6_take 96 = .ok (.aload_n 1, 1) := by decide +kernel
theorem dX6_take_97 : decode cX6_take 97 = .ok (.getfield 53, 3) := by decide +kernel
theorem dX6_take_100 : decode cX6_take 100 = .ok (.invokestatic 65, 3) := by decide +kernel
theorem dX6_take_103 : decode cX6_take 103 = .ok (.aload_n 0, 1) := by decide +kernel
theorem dX6_take_104 : decode cX6_take 104 = .ok (.iload_n 3, 1) := by decide +kernel
theorem dX6_take_105 : decode cX6_take 105 = .ok (.putfield 15, 3) := by decide +kernel
theorem dX6_take_108 : decode cX6_take 108 = .ok (.iconst 1, 1) := by decide +kernel
theorem dX6_take_109 : decode cX6_take 109 = .ok (.ireturn, 1) := by decide +kernel
theorem dX6_gather_0 : decode cX6_gather 0 = .ok (.aload_n 0, 1) := by decide +kernel
theorem dX6_gather_1 : decode cX6_gather 1 = .ok (.invokevirtual 71, 3) := by decide +kernel
theorem dX6_gather_4 : decode cX6_gather 4 = .ok (.istore_n 2, 1) := by decide +kernel
theorem dX6_gather_5 : decode cX6_gather 5 = .ok (.aload_n 0, 1) := by decide +kernel
theorem dX6_gather_6 : decode cX6_gather 6 = .ok (.iconst 0, 1) := by decide +kernel
theorem dX6_gather_7 : decode cX6_gather 7 = .ok (.putfield 22, 3) := by decide +kernel
theorem dX6_gather_10 : decode cX6_gather 10 = .ok (.iload_n 2, 1) := by decide +kernel
theorem dX6_gather_11 : decode cX6_gather 11 = .ok (.aload_n 0, 1) := by decide +kernel
theorem dX6_gather_12 : decode cX6_gather 12 = .ok (.getfield 37, 3) := by decide +kernel
theorem dX6_gather_15 : decode cX6_gather 15 = .ok (.bipush 30, 2) := by decide +kernel
theorem dX6_gather_17 : decode cX6_gather 17 = .ok (.invokevirtual 75, 3) := by decide +kernel
theorem dX6_gather_20 : decode cX6_gather 20 = .ok (.if_icmp .le 4, 3) := by decide +kernel
theorem dX6_gather_23 : decode cX6_gather 23 = .ok (.return_, 1) := by decide +kernel
theorem dX6_gather_24 : decode cX6_gather 24 = .ok (.iconst 1, 1) := by decide +kernel
theorem dX6_gather_25 : decode cX6_gather 25 = .ok (.istore_n 3, 1) := by decide +kernel
theorem dX6_gather_26 : decode cX6_gather 26 = .ok (.iload_n 3, 1) := by decide +kernel
theorem dX6_gather_27 : decode cX6_gather 27 = .ok (.bipush 99, 2) := by decide +kernel
theorem dX6_gather_29 : decode cX6_gather 29 = .ok (.if_icmp .gt 47, 3) := by decide +kernel
theorem dX6_gather_32 : decode cX6_gather 32 = .ok (.aload_n 0, 1) := by decide +kernel
theorem dX6_gather_33 : decode cX6_gather 33 = .ok (.getfield 37, 3) := by decide +kernel
theorem dX6_gather_36 : decode cX6_gather 36 = .ok (.invokevirtual 78, 3) := by decide +kernel
theorem dX6_gather_39 : decode cX6_gather 39 = .ok (.getfield 82, 3) := by decide +kernel
theorem dX6_gather_42 : decode cX6_gather 42 = .ok (.iload_n 1, 1) := by decide +kernel
theorem dX6_gather_43 : decode cX6_gather 43 = .ok (.iload_n 3, 1) := by decide +kernel
theorem dX6_gather_44 : decode cX6_gather 44 = .ok (.iastore, 1) := by decide +kernel
theorem dX6_gather_45 : decode cX6_gather 45 = .ok (.aload_n 0, 1) := by decide +kernel
theorem dX6_gather_46 : decode cX6_gather 46 = .ok (.iload_n 2, 1) := by decide +kernel
theorem dX6_gather_47 : decode cX6_gather 47 = .ok (.invokevirtual 87, 3) := by decide +kernel
theorem dX6_gather_50 : decode cX6_gather 50 = .ok (.ifCond .eq 20, 3) := by decide +kernel
theorem dX6_gather_53 : decode cX6_gather 53 = .ok (.aload_n 0, 1) := by decide +kernel
theorem dX6_gather_54 : decode cX6_gather 54 = .ok (.getfield 19, 3) := by decide +kernel
theorem dX6_gather_57 : decode cX6_gather 57 = .ok (.aload_n 0, 1) := by decide +kernel
theorem dX6_gather_58 : decode cX6_gather 58 = .ok (.dup, 1) := by decide +kernel
theorem dX6_gather_59 : decode cX6_gather 59 = .ok (.getfield 22, 3) := by decide +kernel
theorem dX6_gather_62 : decode cX6_gather 62 = .ok (.dup_x1, 1) := by decide +kernel
theorem dX6_gather_63 : decode cX6_gather 63 = .ok (.iconst 1, 1) := by decide +kernel
theorem dX6_gather_64 : decode cX6_gather 64 = .ok (.iadd, 1) := by decide +kernel
theorem dX6_gather_65 : decode cX6_gather 65 = .ok (.putfield 22, 3) := by decide +kernel
theorem dX6_gather_68 : decode cX6_gather 68 = .ok (.iload_n 3, 1) := by decide +kernel
theorem dX6_gather_69 : decode cX6_gather 69 = .ok (.iastore, 1) := by decide +kernel
theorem dX6_gather_70 : decode cX6_gather 70 = .ok (.iinc 3 1, 3) := by decide +kernel
theorem dX6_gather_73 : decode cX6_gather 73 = .ok (.goto (-47), 3) := by decide +kernel
theorem dX6_gather_76 : decode cX6_gather 76 = .ok (.return_, 1) := by decide +kernel
theorem dX6_lastSeen_0 : decode cX6_lastSeen 0 = .ok (.iconst 0, 1) := by decide +kernel
theorem dX6_lastSeen_1 : decode cX6_lastSeen 1 = .ok (.istore_n 1, 1) := by decide +kernel
theorem dX6_lastSeen_2 : decode cX6_lastSeen 2 = .ok (.iconst 0, 1) := by decide +kernel
theorem dX6_lastSeen_3 : decode cX6_lastSeen 3 = .ok (.istore_n 2, 1) := by decide +kernel
theorem dX6_lastSeen_4 : decode cX6_lastSeen 4 = .ok (.iload_n 2, 1) := by decide +kernel
theorem dX6_lastSeen_5 : decode cX6_lastSeen 5 = .ok (.aload_n 0, 1) := by decide +kernel
theorem dX6_lastSeen_6 : decode cX6_lastSeen 6 = .ok (.getfield 15, 3) := by decide +kernel
theorem dX6_lastSeen_9 : decode cX6_lastSeen 9 = .ok (.if_icmp .ge 22, 3) := by decide +kernel
theorem dX6_lastSeen_12 : decode cX6_lastSeen 12 = .ok (.iload_n 1, 1) := by decide +kernel
theorem dX6_lastSeen_13 : decode cX6_lastSeen 13 = .ok (.aload_n 0, 1) := by decide +kernel
theorem dX6_lastSeen_14 : decode cX6_lastSeen 14 = .ok (.getfield 9, 3) := by decide +kernel
theorem dX6_lastSeen_17 : decode cX6_lastSeen 17 = .ok (.iload_n 2, 1) := by decide +kernel
theorem dX6_lastSeen_18 : decode cX6_lastSeen 18 = .ok (.iconst 3, 1) := by decide +kernel
theorem dX6_lastSeen_19 : decode cX6_lastSeen 19 = .ok (.imul, 1) := by decide +kernel
theorem dX6_lastSeen_20 : decode cX6_lastSeen 20 = .ok (.iaload, 1) := by decide +kernel
theorem dX6_lastSeen_21 : decode cX6_lastSeen 21 = .ok (.invokestatic 91, 3) := by decide +kernel
theorem dX6_lastSeen_24 : decode cX6_lastSeen 24 = .ok (.istore_n 1, 1) := by decide +kernel
theorem dX6_lastSeen_25 : decode cX6_lastSeen 25 = .ok (.iinc 2 1, 3) := by decide +kernel
theorem dX6_lastSeen_28 : decode cX6_lastSeen 28 = .ok (.goto (-24), 3) := by decide +kernel
theorem dX6_lastSeen_31 : decode cX6_lastSeen 31 = .ok (.iload_n 1, 1) := by decide +kernel
theorem dX6_lastSeen_32 : decode cX6_lastSeen 32 = .ok (.ireturn, 1) := by decide +kernel
theorem dX6_isAllSo_0 : decode cX6_isAllSo 0 = .ok (.iconst 0, 1) := by decide +kernel
theorem dX6_isAllSo_1 : decode cX6_isAllSo 1 = .ok (.istore_n 2, 1) := by decide +kernel
theorem dX6_isAllSo_2 : decode cX6_isAllSo 2 = .ok (.iload_n 2, 1) := by decide +kernel
theorem dX6_isAllSo_3 : decode cX6_isAllSo 3 = .ok (.iload_n 1, 1) := by decide +kernel
theorem dX6_isAllSo_4 : decode cX6_isAllSo 4 = .ok (.if_icmp .gt 85, 3) := by decide +kernel
theorem dX6_isAllSo_7 : decode cX6_isAllSo 7 = .ok (.iload_n 2, 1) := by decide +kernel
theorem dX6_isAllSo_8 : decode cX6_isAllSo 8 = .ok (.ifCond .le 15, 3) := by decide +kernel
theorem dX6_isAllSo_11 : decode cX6_isAllSo 11 = .ok (.aload_n 0, 1) := by decide +kernel
theorem dX6_isAllSo_12 : decode cX6_isAllSo 12 = .ok (.getfield 47, 3) := by decide +kernel
theorem dX6_isAllSo_15 : decode cX6_isAllSo 15 = .ok (.aload_n 0, 1) := by decide +kernel
theorem dX6_isAllSo_16 : decode cX6_isAllSo 16 = .ok (.getfield 52, 3) := by decide +kernel
theorem dX6_isAllSo_19 : decode cX6_isAllSo 19 = .ok (.invokevirtual 97, 3) := by decide +kernel
theorem dX6_isAllSo_22 : decode cX6_isAllSo 22 = .ok (.pop, 1) := by decide +kernel
theorem dX6_isAllSo_23 : decode cX6_isAllSo 23 = .ok (.iconst 0, 1) := by decide +kernel
theorem dX6_isAllSo_24 : decode cX6_isAllSo 24 = .ok (.istore_n 3, 1) := by decide +kernel
theorem dX6_isAllSo_25 : decode cX6_isAllSo 25 = .ok (.iload_n 3, 1) := by decide +kernel
theorem dX6_isAllSo_26 : decode cX6_isAllSo 26 = .ok (.aload_n 0, 1) := by decide +kernel
theorem dX6_isAllSo_27 : decode cX6_isAllSo 27 = .ok (.getfield 15, 3) := by decide +kernel
theorem dX6_isAllSo_30 : decode cX6_isAllSo 30 = .ok (.iconst 3, 1) := by decide +kernel
theorem dX6_isAllSo_31 : decode cX6_isAllSo 31 = .ok (.imul, 1) := by decide +kernel
theorem dX6_isAllSo_32 : decode cX6_isAllSo 32 = .ok (.if_icmp .ge 51, 3) := by decide +kernel
theorem dX6_isAllSo_35 : decode cX6_isAllSo 35 = .ok (.aload_n 0, 1) := by decide +kernel
theorem dX6_isAllSo_36 : decode cX6_isAllSo 36 = .ok (.getfield 9, 3) := by decide +kernel
theorem dX6_isAllSo_39 : decode cX6_isAllSo 39 = .ok (.iload_n 3, 1) := by decide +kernel
theorem dX6_isAllSo_40 : decode cX6_isAllSo 40 = .ok (.iaload, 1) := by decide +kernel
theorem dX6_isAllSo_41 : decode cX6_isAllSo 41 = .ok (.iload_n 2, 1) := by decide +kernel
theorem dX6_isAllSo_42 : decode cX6_isAllSo 42 = .ok (.if_icmp .ne 35, 3) := by decide +kernel
theorem dX6_isAllSo_45 : decode cX6_isAllSo 45 = .ok (.aload_n 0, 1) := by decide +kernel
theorem dX6_isAllSo_46 : decode cX6_isAllSo 46 = .ok (.getfield 47, 3) := by decide +kernel
theorem dX6_isAllSo_49 : decode cX6_isAllSo 49 = .ok (.aload_n 0, 1) := by decide +kernel
theorem dX6_isAllSo_50 : decode cX6_isAllSo 50 = .ok (.getfield 52, 3) := by decide +kernel
theorem dX6_isAllSo_53 : decode cX6_isAllSo 53 = .ok (.aload_n 0, 1) := by decide +kernel
theorem dX6_isAllSo_54 : decode cX6_isAllSo 54 = .ok (.getfield 9, 3) := by decide +kernel
theorem dX6_isAllSo_57 : decode cX6_isAllSo 57 = .ok (.iload_n 3, 1) := by decide +kernel
theorem dX6_isAllSo_58 : decode cX6_isAllSo 58 = .ok (.iconst 1, 1) := by decide +kernel
theorem dX6_isAllSo_59 : decode cX6_isAllSo 59 = .ok (.iadd, 1) := by decide +kernel
theorem dX6_isAllSo_60 : decode cX6_isAllSo 60 = .ok (.iaload, 1) := by decide +kernel
theorem dX6_isAllSo_61 : decode cX6_isAllSo 61 = .ok (.invokevirtual 103, 3) := by decide +kernel
theorem dX6_isAllSo_64 : decode cX6_isAllSo 64 = .ok (.aload_n 0, 1) := by decide +kernel
theorem dX6_isAllSo_65 : decode cX6_isAllSo 65 = .ok (.getfield 9, 3) := by decide +kernel
theorem dX6_isAllSo_68 : decode cX6_isAllSo 68 = .ok (.iload_n 3, 1) := by decide +kernel
theorem dX6_isAllSo_69 : decode cX6_isAllSo 69 = .ok (.iconst 2, 1) := by decide +kernel
theorem dX6_isAllSo_70 : decode cX6_isAllSo 70 = .ok (.iadd, 1) := by decide +kernel
theorem dX6_isAllSo_71 : decode cX6_isAllSo 71 = .ok (.iaload, 1) := by decide +kernel
theorem dX6_isAllSo_72 : decode cX6_isAllSo 72 = .ok (.if_icmp .eq 5, 3) := by decide +kernel
theorem dX6_isAllSo_75 : decode cX6_isAllSo 75 = .ok (.iconst 0, 1) := by decide +kernel
theorem dX6_isAllSo_76 : decode cX6_isAllSo 76 = .ok (.ireturn, 1) := by decide +kernel
theorem dX6_isAllSo_77 : decode cX6_isAllSo 77 = .ok (.iinc 3 3, 3) := by decide +kernel
theorem dX6_isAllSo_80 : decode cX6_isAllSo 80 = .ok (.goto (-55), 3) := by decide +kernel
theorem dX6_isAllSo_83 : decode cX6_isAllSo 83 = .ok (.iinc 2 1, 3) := by decide +kernel
theorem dX6_isAllSo_86 : decode cX6_isAllSo 86 = .ok (.goto (-84), 3) := by decide +kernel
theorem dX6_isAllSo_89 : decode cX6_isAllSo 89 = .ok (.iconst 1, 1) := by decide +kernel
theorem dX6_isAllSo_90 : decode cX6_isAllSo 90 = .ok (.ireturn, 1) := by decide +kernel
theorem dX6_searchTelling_0 : decode cX6_searchTelling 0 = .ok (.aload_n 0, 1) := by decide +kernel
theorem dX6_searchTelling_1 : decode cX6_searchTelling 1 = .ok (.getfield 37, 3) := by decide +kernel
theorem dX6_searchTelling_4 : decode cX6_searchTelling 4 = .ok (.bipush 30, 2) := by decide +kernel
theorem dX6_searchTelling_6 : decode cX6_searchTelling 6 = .ok (.invokevirtual 75, 3) := by decide +kernel
theorem dX6_searchTelling_9 : decode cX6_searchTelling 9 = .ok (.istore_n 2, 1) := by decide +kernel
theorem dX6_searchTelling_10 : decode cX6_searchTelling 10 = .ok (.aload_n 0, 1) := by decide +kernel
theorem dX6_searchTelling_11 : decode cX6_searchTelling 11 = .ok (.iload_n 1, 1) := by decide +kernel
theorem dX6_searchTelling_12 : decode cX6_searchTelling 12 = .ok (.iload_n 2, 1) := by decide +kernel
theorem dX6_searchTelling_13 : decode cX6_searchTelling 13 = .ok (.invokevirtual 107, 3) := by decide +kernel
theorem dX6_searchTelling_16 : decode cX6_searchTelling 16 = .ok (.aload_n 0, 1) := by decide +kernel
theorem dX6_searchTelling_17 : decode cX6_searchTelling 17 = .ok (.iconst 1, 1) := by decide +kernel
theorem dX6_searchTelling_18 : decode cX6_searchTelling 18 = .ok (.putfield 28, 3) := by decide +kernel
theorem dX6_searchTelling_21 : decode cX6_searchTelling 21 = .ok (.aload_n 0, 1) := by decide +kernel
theorem dX6_searchTelling_22 : decode cX6_searchTelling 22 = .ok (.iconst 0, 1) := by decide +kernel
theorem dX6_searchTelling_23 : decode cX6_searchTelling 23 = .ok (.putfield 31, 3) := by decide +kernel
theorem dX6_searchTelling_26 : decode cX6_searchTelling 26 = .ok (.aload_n 0, 1) := by decide +kernel
theorem dX6_searchTelling_27 : decode cX6_searchTelling 27 = .ok (.aload_n 0, 1) := by decide +kernel
theorem dX6_searchTelling_28 : decode cX6_searchTelling 28 = .ok (.getfield 22, 3) := by decide +kernel
theorem dX6_searchTelling_31 : decode cX6_searchTelling 31 = .ok (.putfield 34, 3) := by decide +kernel
theorem dX6_searchTelling_34 : decode cX6_searchTelling 34 = .ok (.iconst 1, 1) := by decide +kernel
theorem dX6_searchTelling_35 : decode cX6_searchTelling 35 = .ok (.istore_n 3, 1) := by decide +kernel
theorem dX6_searchTelling_36 : decode cX6_searchTelling 36 = .ok (.iload_n 3, 1) := by decide +kernel
theorem dX6_searchTelling_37 : decode cX6_searchTelling 37 = .ok (.iload_n 2, 1) := by decide +kernel
theorem dX6_searchTelling_38 : decode cX6_searchTelling 38 = .ok (.if_icmp .gt 68, 3) := by decide +kernel
theorem dX6_searchTelling_41 : decode cX6_searchTelling 41 = .ok (.iconst 0, 1) := by decide +kernel
theorem dX6_searchTelling_42 : decode cX6_searchTelling 42 = .ok (.istore 4, 2) := by decide +kernel
theorem dX6_searchTelling_44 : decode cX6_searchTelling 44 = .ok (.iload 4, 2) := by decide +kernel
theorem dX6_searchTelling_46 : decode cX6_searchTelling 46 = .ok (.aload_n 0, 1) := by decide +kernel
theorem dX6_searchTelling_47 : decode cX6_searchTelling 47 = .ok (.getfield 47, 3) := by decide +kernel
theorem dX6_searchTelling_50 : decode cX6_searchTelling 50 = .ok (.getfield 111, 3) := by decide +kernel
theorem dX6_searchTelling_53 : decode cX6_searchTelling 53 = .ok (.getfield 115, 3) := by decide +kernel
theorem dX6_searchTelling_56 : decode cX6_searchTelling 56 = .ok (.if_icmp .ge 44, 3) := by decide +kernel
theorem dX6_searchTelling_59 : decode cX6_searchTelling 59 = .ok (.aload_n 0, 1) := by decide +kernel
theorem dX6_searchTelling_60 : decode cX6_searchTelling 60 = .ok (.iload_n 3, 1) := by decide +kernel
theorem dX6_searchTelling_61 : decode cX6_searchTelling 61 = .ok (.iload 4, 2) := by decide +kernel
theorem dX6_searchTelling_63 : decode cX6_searchTelling 63 = .ok (.invokevirtual 120, 3) := by decide +kernel
theorem dX6_searchTelling_66 : decode cX6_searchTelling 66 = .ok (.istore 5, 2) := by decide +kernel
theorem dX6_searchTelling_68 : decode cX6_searchTelling 68 = .ok (.iload 5, 2) := by decide +kernel
theorem dX6_searchTelling_70 : decode cX6_searchTelling 70 = .ok (.aload_n 0, 1) := by decide +kernel
theorem dX6_searchTelling_71 : decode cX6_searchTelling 71 = .ok (.getfield 34, 3) := by decide +kernel
theorem dX6_searchTelling_74 : decode cX6_searchTelling 74 = .ok (.if_icmp .ge 20, 3) := by decide +kernel
theorem dX6_searchTelling_77 : decode cX6_searchTelling 77 = .ok (.aload_n 0, 1) := by decide +kernel
theorem dX6_searchTelling_78 : decode cX6_searchTelling 78 = .ok (.iload_n 3, 1) := by decide +kernel
theorem dX6_searchTelling_79 : decode cX6_searchTelling 79 = .ok (.putfield 28, 3) := by decide +kernel
theorem dX6_searchTelling_82 : decode cX6_searchTelling 82 = .ok (.aload_n 0, 1) := by decide +kernel
theorem dX6_searchTelling_83 : decode cX6_searchTelling 83 = .ok (.iload 4, 2) := by decide +kernel
theorem dX6_searchTelling_85 : decode cX6_searchTelling 85 = .ok (.putfield 31, 3) := by decide +kernel
theorem dX6_searchTelling_88 : decode cX6_searchTelling 88 = .ok (.aload_n 0, 1) := by decide +kernel
theorem dX6_searchTelling_89 : decode cX6_searchTelling 89 = .ok (.iload 5, 2) := by decide +kernel
theorem dX6_searchTelling_91 : decode cX6_searchTelling 91 = .ok (.putfield 34, 3) := by decide +kernel
theorem dX6_searchTelling_94 : decode cX6_searchTelling 94 = .ok (.iinc 4 1, 3) := by decide +kernel
theorem dX6_searchTelling_97 : decode cX6_searchTelling 97 = .ok (.goto (-53), 3) := by decide +kernel
theorem dX6_searchTelling_100 : decode cX6_searchTelling 100 = .ok (.iinc 3 1, 3) := by decide +kernel
theorem dX6_searchTelling_103 : decode cX6_searchTelling 103 = .ok (.goto (-67), 3) := by decide +kernel
theorem dX6_searchTelling_106 : decode cX6_searchTelling 106 = .ok (.return_, 1) := by decide +kernel
theorem dX6_tallyAll_0 : decode cX6_tallyAll 0 = .ok (.aload_n 0, 1) := by decide +kernel
theorem dX6_tallyAll_1 : decode cX6_tallyAll 1 = .ok (.getfield 47, 3) := by decide +kernel
theorem dX6_tallyAll_4 : decode cX6_tallyAll 4 = .ok (.getfield 111, 3) := by decide +kernel
theorem dX6_tallyAll_7 : decode cX6_tallyAll 7 = .ok (.getfield 123, 3) := by decide +kernel
theorem dX6_tallyAll_10 : decode cX6_tallyAll 10 = .ok (.istore_n 3, 1) := by decide +kernel
theorem dX6_tallyAll_11 : decode cX6_tallyAll 11 = .ok (.iconst 0, 1) := by decide +kernel
theorem dX6_tallyAll_12 : decode cX6_tallyAll 12 = .ok (.istore 4, 2) := by decide +kernel
theorem dX6_tallyAll_14 : decode cX6_tallyAll 14 = .ok (.iload 4, 2) := by decide +kernel
theorem dX6_tallyAll_16 : decode cX6_tallyAll 16 = .ok (.aload_n 0, 1) := by decide +kernel
theorem dX6_tallyAll_17 : decode cX6_tallyAll 17 = .ok (.getfield 25, 3) := by decide +kernel
theorem dX6_tallyAll_20 : decode cX6_tallyAll 20 = .ok (.arraylength, 1) := by decide +kernel
theorem dX6_tallyAll_21 : decode cX6_tallyAll 21 = .ok (.if_icmp .ge 17, 3) := by decide +kernel
theorem dX6_tallyAll_24 : decode cX6_tallyAll 24 = .ok (.aload_n 0, 1) := by decide +kernel
theorem dX6_tallyAll_25 : decode cX6_tallyAll 25 = .ok (.getfield 25, 3) := by decide +kernel
theorem dX6_tallyAll_28 : decode cX6_tallyAll 28 = .ok (.iload 4, 2) := by decide +kernel
theorem dX6_tallyAll_30 : decode cX6_tallyAll 30 = .ok (.iconst 0, 1) := by decide +kernel
theorem dX6_tallyAll_31 : decode cX6_tallyAll 31 = .ok (.iastore, 1) := by decide +kernel
theorem dX6_tallyAll_32 : decode cX6_tallyAll 32 = .ok (.iinc 4 1, 3) := by decide +kernel
theorem dX6_tallyAll_35 : decode cX6_tallyAll 35 = .ok (.goto (-21), 3) := by decide +kernel
theorem dX6_tallyAll_38 : decode cX6_tallyAll 38 = .ok (.iconst 0, 1) := by decide +kernel
theorem dX6_tallyAll_39 : decode cX6_tallyAll 39 = .ok (.istore 4, 2) := by decide +kernel
theorem dX6_tallyAll_41 : decode cX6_tallyAll 41 = .ok (.iload 4, 2) := by decide +kernel
theorem dX6_tallyAll_43 : decode cX6_tallyAll 43 = .ok (.aload_n 0, 1) := by decide +kernel
theorem dX6_tallyAll_44 : decode cX6_tallyAll 44 = .ok (.getfield 22, 3) := by decide +kernel
theorem dX6_tallyAll_47 : decode cX6_tallyAll 47 = .ok (.if_icmp .ge 108, 3) := by decide +kernel
theorem dX6_tallyAll_50 : decode cX6_tallyAll 50 = .ok (.aload_n 0, 1) := by decide +kernel
theorem dX6_tallyAll_51 : decode cX6_tallyAll 51 = .ok (.getfield 37, 3) := by decide +kernel
theorem dX6_tallyAll_54 : decode cX6_tallyAll 54 = .ok (.invokevirtual 78, 3) := by decide +kernel
theorem dX6_tallyAll_57 : decode cX6_tallyAll 57 = .ok (.getfield 82, 3) := by decide +kernel
theorem dX6_tallyAll_60 : decode cX6_tallyAll 60 = .ok (.iload_n 1, 1) := by decide +kernel
theorem dX6_tallyAll_61 : decode cX6_tallyAll 61 = .ok (.aload_n 0, 1) := by decide +kernel
theorem dX6_tallyAll_62 : decode cX6_tallyAll 62 = .ok (.getfield 19, 3) := by decide +kernel
theorem dX6_tallyAll_65 : decode cX6_tallyAll 65 = .ok (.iload 4, 2) := by decide +kernel
theorem dX6_tallyAll_67 : decode cX6_tallyAll 67 = .ok (.iaload, 1) := by decide +kernel
theorem dX6_tallyAll_68 : decode cX6_tallyAll 68 = .ok (.iastore, 1) := by decide +kernel
theorem dX6_tallyAll_69 : decode cX6_tallyAll 69 = .ok (.iconst 1, 1) := by decide +kernel
theorem dX6_tallyAll_70 : decode cX6_tallyAll 70 = .ok (.istore 5, 2) := by decide +kernel
theorem dX6_tallyAll_72 : decode cX6_tallyAll 72 = .ok (.iload 5, 2) := by decide +kernel
theorem dX6_tallyAll_74 : decode cX6_tallyAll 74 = .ok (.iload_n 2, 1) := by decide +kernel
theorem dX6_tallyAll_75 : decode cX6_tallyAll 75 = .ok (.if_icmp .gt 74, 3) := by decide +kernel
theorem dX6_tallyAll_78 : decode cX6_tallyAll 78 = .ok (.aload_n 0, 1) := by decide +kernel
theorem dX6_tallyAll_79 : decode cX6_tallyAll 79 = .ok (.getfield 47, 3) := by decide +kernel
theorem dX6_tallyAll_82 : decode cX6_tallyAll 82 = .ok (.aload_n 0, 1) := by decide +kernel
theorem dX6_tallyAll_83 : decode cX6_tallyAll 83 = .ok (.getfield 52, 3) := by decide +kernel
theorem dX6_tallyAll_86 : decode cX6_tallyAll 86 = .ok (.invokevirtual 97, 3) := by decide +kernel
theorem dX6_tallyAll_89 : decode cX6_tallyAll 89 = .ok (.pop, 1) := by decide +kernel
theorem dX6_tallyAll_90 : decode cX6_tallyAll 90 = .ok (.iconst 0, 1) := by decide +kernel
theorem dX6_tallyAll_91 : decode cX6_tallyAll 91 = .ok (.istore 6, 2) := by decide +kernel
theorem dX6_tallyAll_93 : decode cX6_tallyAll 93 = .ok (.iload 6, 2) := by decide +kernel
theorem dX6_tallyAll_95 : decode cX6_tallyAll 95 = .ok (.iload_n 3, 1) := by decide +kernel
theorem dX6_tallyAll_96 : decode cX6_tallyAll 96 = .ok (.if_icmp .ge 47, 3) := by decide +kernel
theorem dX6_tallyAll_99 : decode cX6_tallyAll 99 = .ok (.aload_n 0, 1) := by decide +kernel
theorem dX6_tallyAll_100 : decode cX6_tallyAll 100 = .ok (.getfield 25, 3) := by decide +kernel
theorem dX6_tallyAll_103 : decode cX6_tallyAll 103 = .ok (.iload 5, 2) := by decide +kernel
theorem dX6_tallyAll_105 : decode cX6_tallyAll 105 = .ok (.iload 6, 2) := by decide +kernel
theorem dX6_tallyAll_107 : decode cX6_tallyAll 107 = .ok (.invokestatic 126, 3) := by decide +kernel
theorem dX6_tallyAll_110 : decode cX6_tallyAll 110 = .ok (.aload_n 0, 1) := by decide +kernel
theorem dX6_tallyAll_111 : decode cX6_tallyAll 111 = .ok (.getfield 47, 3) := by decide +kernel
theorem dX6_tallyAll_114 : decode cX6_tallyAll 114 = .ok (.aload_n 0, 1) := by decide +kernel
theorem dX6_tallyAll_115 : decode cX6_tallyAll 115 = .ok (.getfield 52, 3) := by decide +kernel
theorem dX6_tallyAll_118 : decode cX6_tallyAll 118 = .ok (.aload_n 0, 1) := by decide +kernel
theorem dX6_tallyAll_119 : decode cX6_tallyAll 119 = .ok (.getfield 52, 3) := by decide +kernel
theorem dX6_tallyAll_122 : decode cX6_tallyAll 122 = .ok (.getfield 129, 3) := by decide +kernel
theorem dX6_tallyAll_125 : decode cX6_tallyAll 125 = .ok (.iload 6, 2) := by decide +kernel
theorem dX6_tallyAll_127 : decode cX6_tallyAll 127 = .ok (.iaload, 1) := by decide +kernel
theorem dX6_tallyAll_128 : decode cX6_tallyAll 128 = .ok (.invokevirtual 103, 3) := by decide +kernel
theorem dX6_tallyAll_131 : decode cX6_tallyAll 131 = .ok (.iadd, 1) := by decide +kernel
theorem dX6_tallyAll_132 : decode cX6_tallyAll 132 = .ok (.dup2, 1) := by decide +kernel
theorem dX6_tallyAll_133 : decode cX6_tallyAll 133 = .ok (.iaload, 1) := by decide +kernel
theorem dX6_tallyAll_134 : decode cX6_tallyAll 134 = .ok (.iconst 1, 1) := by decide +kernel
theorem dX6_tallyAll_135 : decode cX6_tallyAll 135 = .ok (.iadd, 1) := by decide +kernel
theorem dX6_tallyAll_136 : decode cX6_tallyAll 136 = .ok (.iastore, 1) := by decide +kernel
theorem dX6_tallyAll_137 : decode cX6_tallyAll 137 = .ok (.iinc 6 1, 3) := by decide +kernel
theorem dX6_tallyAll_140 : decode cX6_tallyAll 140 = .ok (.goto (-47), 3) := by decide +kernel
theorem dX6_tallyAll_143 : decode cX6_tallyAll 143 = .ok (.iinc 5 1, 3) := by decide +kernel
theorem dX6_tallyAll_146 : decode cX6_tallyAll 146 = .ok (.goto (-74), 3) := by decide +kernel
theorem dX6_tallyAll_149 : decode cX6_tallyAll 149 = .ok (.iinc 4 1, 3) := by decide +kernel
theorem dX6_tallyAll_152 : decode cX6_tallyAll 152 = .ok (.goto (-111), 3) := by decide +kernel
theorem dX6_tallyAll_155 : decode cX6_tallyAll 155 = .ok (.return_, 1) := by decide +kernel
theorem dX6_tallyFrom_0 : decode cX6_tallyFrom 0 = .ok (.iload_n 0, 1) := by decide +kernel
theorem dX6_tallyFrom_1 : decode cX6_tallyFrom 1 = .ok (.iconst 1, 1) := by decide +kernel
theorem dX6_tallyFrom_2 : decode cX6_tallyFrom 2 = .ok (.isub, 1) := by decide +kernel
theorem dX6_tallyFrom_3 : decode cX6_tallyFrom 3 = .ok (.bipush 6, 2) := by decide +kernel
theorem dX6_tallyFrom_5 : decode cX6_tallyFrom 5 = .ok (.imul, 1) := by decide +kernel
theorem dX6_tallyFrom_6 : decode cX6_tallyFrom 6 = .ok (.iload_n 1, 1) := by decide +kernel
theorem dX6_tallyFrom_7 : decode cX6_tallyFrom 7 = .ok (.iadd, 1) := by decide +kernel
theorem dX6_tallyFrom_8 : decode cX6_tallyFrom 8 = .ok (.bipush 9, 2) := by decide +kernel
theorem dX6_tallyFrom_10 : decode cX6_tallyFrom 10 = .ok (.imul, 1) := by decide +kernel
theorem dX6_tallyFrom_11 : decode cX6_tallyFrom 11 = .ok (.ireturn, 1) := by decide +kernel
theorem dX6_mostLeft_0 : decode cX6_mostLeft 0 = .ok (.iconst 0, 1) := by decide +kernel
theorem dX6_mostLeft_1 : decode cX6_mostLeft 1 = .ok (.istore_n 3, 1) := by decide +kernel
theorem dX6_mostLeft_2 : decode cX6_mostLeft 2 = .ok (.iload_n 3, 1) := by decide +kernel
theorem dX6_mostLeft_3 : decode cX6_mostLeft 3 = .ok (.aload_n 0, 1) := by decide +kernel
theorem dX6_mostLeft_4 : decode cX6_mostLeft 4 = .ok (.getfield 47, 3) := by decide +kernel
theorem dX6_mostLeft_7 : decode cX6_mostLeft 7 = .ok (.getfield 111, 3) := by decide +kernel
theorem dX6_mostLeft_10 : decode cX6_mostLeft 10 = .ok (.getfield 123, 3) := by decide +kernel
theorem dX6_mostLeft_13 : decode cX6_mostLeft 13 = .ok (.if_icmp .ge 69, 3) := by decide +kernel
theorem dX6_mostLeft_16 : decode cX6_mostLeft 16 = .ok (.aload_n 0, 1) := by decide +kernel
theorem dX6_mostLeft_17 : decode cX6_mostLeft 17 = .ok (.getfield 52, 3) := by decide +kernel
theorem dX6_mostLeft_20 : decode cX6_mostLeft 20 = .ok (.getfield 129, 3) := by decide +kernel
theorem dX6_mostLeft_23 : decode cX6_mostLeft 23 = .ok (.iload_n 3, 1) := by decide +kernel
theorem dX6_mostLeft_24 : decode cX6_mostLeft 24 = .ok (.iaload, 1) := by decide +kernel
theorem dX6_mostLeft_25 : decode cX6_mostLeft 25 = .ok (.iload_n 2, 1) := by decide +kernel
theorem dX6_mostLeft_26 : decode cX6_mostLeft 26 = .ok (.if_icmp .ne 50, 3) := by decide +kernel
theorem dX6_mostLeft_29 : decode cX6_mostLeft 29 = .ok (.iload_n 1, 1) := by decide +kernel
theorem dX6_mostLeft_30 : decode cX6_mostLeft 30 = .ok (.iload_n 3, 1) := by decide +kernel
theorem dX6_mostLeft_31 : decode cX6_mostLeft 31 = .ok (.invokestatic 126, 3) := by decide +kernel
theorem dX6_mostLeft_34 : decode cX6_mostLeft 34 = .ok (.istore 4, 2) := by decide +kernel
theorem dX6_mostLeft_36 : decode cX6_mostLeft 36 = .ok (.iconst 0, 1) := by decide +kernel
theorem dX6_mostLeft_37 : decode cX6_mostLeft 37 = .ok (.istore 5, 2) := by decide +kernel
theorem dX6_mostLeft_39 : decode cX6_mostLeft 39 = .ok (.iload 4, 2) := by decide +kernel
theorem dX6_mostLeft_41 : decode cX6_mostLeft 41 = .ok (.istore 6, 2) := by decide +kernel
theorem dX6_mostLeft_43 : decode cX6_mostLeft 43 = .ok (.iload 6, 2) := by decide +kernel
theorem dX6_mostLeft_45 : decode cX6_mostLeft 45 = .ok (.iload 4, 2) := by decide +kernel
theorem dX6_mostLeft_47 : decode cX6_mostLeft 47 = .ok (.bipush 8, 2) := by decide +kernel
theorem dX6_mostLeft_49 : decode cX6_mostLeft 49 = .ok (.iadd, 1) := by decide +kernel
theorem dX6_mostLeft_50 : decode cX6_mostLeft 50 = .ok (.if_icmp .gt 23, 3) := by decide +kernel
theorem dX6_mostLeft_53 : decode cX6_mostLeft 53 = .ok (.iload 5, 2) := by decide +kernel
theorem dX6_mostLeft_55 : decode cX6_mostLeft 55 = .ok (.aload_n 0, 1) := by decide +kernel
theorem dX6_mostLeft_56 : decode cX6_mostLeft 56 = .ok (.getfield 25, 3) := by decide +kernel
theorem dX6_mostLeft_59 : decode cX6_mostLeft 59 = .ok (.iload 6, 2) := by decide +kernel
theorem dX6_mostLeft_61 : decode cX6_mostLeft 61 = .ok (.iaload, 1) := by decide +kernel
theorem dX6_mostLeft_62 : decode cX6_mostLeft 62 = .ok (.invokestatic 91, 3) := by decide +kernel
theorem dX6_mostLeft_65 : decode cX6_mostLeft 65 = .ok (.istore 5, 2) := by decide +kernel
theorem dX6_mostLeft_67 : decode cX6_mostLeft 67 = .ok (.iinc 6 1, 3) := by decide +kernel
theorem dX6_mostLeft_70 : decode cX6_mostLeft 70 = .ok (.goto (-27), 3) := by decide +kernel
theorem dX6_mostLeft_73 : decode cX6_mostLeft 73 = .ok (.iload 5, 2) := by decide +kernel
theorem dX6_mostLeft_75 : decode cX6_mostLeft 75 = .ok (.ireturn, 1) := by decide +kernel
theorem dX6_mostLeft_76 : decode cX6_mostLeft 76 = .ok (.iinc 3 1, 3) := by decide +kernel
theorem dX6_mostLeft_79 : decode cX6_mostLeft 79 = .ok (.goto (-77), 3) := by decide +kernel
theorem dX6_mostLeft_82 : decode cX6_mostLeft 82 = .ok (.aload_n 0, 1) := by decide +kernel
theorem dX6_mostLeft_83 : decode cX6_mostLeft 83 = .ok (.getfield 22, 3) := by decide +kernel
theorem dX6_mostLeft_86 : decode cX6_mostLeft 86 = .ok (.ireturn, 1) := by decide +kernel
theorem dX7_init_0 : decode cX7_init 0 = .ok (.aload_n 0, 1) := by decide +kernel
theorem dX7_init_1 : decode cX7_init 1 = .ok (.invokespecial 3, 3) := by decide +kernel
theorem dX7_init_4 : decode cX7_init 4 = .ok (.aload_n 0, 1) := by decide +kernel
theorem dX7_init_5 : decode cX7_init 5 = .ok (.iconst 0, 1) := by decide +kernel
theorem dX7_init_6 : decode cX7_init 6 = .ok (.putfield 9, 3) := by decide +kernel
theorem dX7_init_9 : decode cX7_init 9 = .ok (.aload_n 0, 1) := by decide +kernel
theorem dX7_init_10 : decode cX7_init 10 = .ok (.iconst 0, 1) := by decide +kernel
theorem dX7_init_11 : decode cX7_init 11 = .ok (.putfield 15, 3) := by decide +kernel
theorem dX7_init_14 : decode cX7_init 14 = .ok (.aload_n 0, 1) := by decide +kernel
theorem dX7_init_15 : decode cX7_init 15 = .ok (.bipush 6, 2) := by decide +kernel
theorem dX7_init_17 : decode cX7_init 17 = .ok (.newarray .int, 2) := by decide +kernel
theorem dX7_init_19 : decode cX7_init 19 = .ok (.putfield 18, 3) := by decide +kernel
theorem dX7_init_22 : decode cX7_init 22 = .ok (.aload_n 0, 1) := by decide +kernel
theorem dX7_init_23 : decode cX7_init 23 = .ok (.bipush 8, 2) := by decide +kernel
theorem dX7_init_25 : decode cX7_init 25 = .ok (.newarray .int, 2) := by decide +kernel
theorem dX7_init_27 : decode cX7_init 27 = .ok (.putfield 22, 3) := by decide +kernel
theorem dX7_init_30 : decode cX7_init 30 = .ok (.aload_n 0, 1) := by decide +kernel
theorem dX7_init_31 : decode cX7_init 31 = .ok (.bipush 8, 2) := by decide +kernel
theorem dX7_init_33 : decode cX7_init 33 = .ok (.newarray .int, 2) := by decide +kernel
theorem dX7_init_35 : decode cX7_init 35 = .ok (.putfield 25, 3) := by decide +kernel
theorem dX7_init_38 : decode cX7_init 38 = .ok (.return_, 1) := by decide +kernel
theorem dX7_beginAt_0 : decode cX7_beginAt 0 = .ok (.aload_n 0, 1) := by decide +kernel
theorem dX7_beginAt_1 : decode cX7_beginAt 1 = .ok (.iconst 0, 1) := by decide +kernel
theorem dX7_beginAt_2 : decode cX7_beginAt 2 = .ok (.putfield 9, 3) := by decide +kernel
theorem dX7_beginAt_5 : decode cX7_beginAt 5 = .ok (.aload_n 0, 1) := by decide +kernel
theorem dX7_beginAt_6 : decode cX7_beginAt 6 = .ok (.aload_n 1, 1) := by decide +kernel
theorem dX7_beginAt_7 : decode cX7_beginAt 7 = .ok (.getfield 28, 3) := by decide +kernel
theorem dX7_beginAt_10 : decode cX7_beginAt 10 = .ok (.putfield 15, 3) := by decide +kernel
theorem dX7_beginAt_13 : decode cX7_beginAt 13 = .ok (.aload_n 1, 1) := by decide +kernel
theorem dX7_beginAt_14 : decode cX7_beginAt 14 = .ok (.getfield 31, 3) := by decide +kernel
theorem dX7_beginAt_17 : decode cX7_beginAt 17 = .ok (.iconst 0, 1) := by decide +kernel
theorem dX7_beginAt_18 : decode cX7_beginAt 18 = .ok (.aload_n 0, 1) := by decide +kernel
theorem dX7_beginAt_19 : decode cX7_beginAt 19 = .ok (.getfield 18, 3) := by decide +kernel
theorem dX7_beginAt_22 : decode cX7_beginAt 22 = .ok (.iconst 0, 1) := by decide +kernel
theorem dX7_beginAt_23 : decode cX7_beginAt 23 = .ok (.bipush 6, 2) := by decide +kernel
theorem dX7_beginAt_25 : decode cX7_beginAt 25 = .ok (.invokestatic 32, 3) := by decide +kernel
theorem dX7_beginAt_28 : decode cX7_beginAt 28 = .ok (.iconst 0, 1) := by decide +kernel
theorem dX7_beginAt_29 : decode cX7_beginAt 29 = .ok (.istore_n 2, 1) := by decide +kernel
theorem dX7_beginAt_30 : decode cX7_beginAt 30 = .ok (.iload_n 2, 1) := by decide +kernel
theorem dX7_beginAt_31 : decode cX7_beginAt 31 = .ok (.bipush 8, 2) := by decide +kernel
theorem dX7_beginAt_33 : decode cX7_beginAt 33 = .ok (.if_icmp .ge 14, 3) := by decide +kernel
theorem dX7_beginAt_36 : decode cX7_beginAt 36 = .ok (.aload_n 0, 1) := by decide +kernel
theorem dX7_beginAt_37 : decode cX7_beginAt 37 = .ok (.iload_n 2, 1) := by decide +kernel
theorem dX7_beginAt_38 : decode cX7_beginAt 38 = .ok (.invokevirtual 38, 3) := by decide +kernel
theorem dX7_beginAt_41 : decode cX7_beginAt 41 = .ok (.iinc 2 1, 3) := by decide +kernel
theorem dX7_beginAt_44 : decode cX7_beginAt 44 = .ok (.goto (-14), 3) := by decide +kernel
theorem dX7_beginAt_47 : decode cX7_beginAt 47 = .ok (.return_, 1) := by decide +kernel
theorem dX7_copyFrom_0 : decode cX7_copyFrom 0 = .ok (.aload_n 0, 1) := by decide +kernel
theorem dX7_copyFrom_1 : decode cX7_copyFrom 1 = .ok (.aload_n 1, 1) := by decide +kernel
theorem dX7_copyFrom_2 : decode cX7_copyFrom 2 = .ok (.getfield 9, 3) := by decide +kernel
theorem dX7_copyFrom_5 : decode cX7_copyFrom 5 = .ok (.putfield 9, 3) := by decide +kernel
theorem dX7_copyFrom_8 : decode cX7_copyFrom 8 = .ok (.aload_n 0, 1) := by decide +kernel
theorem dX7_copyFrom_9 : decode cX7_copyFrom 9 = .ok (.aload_n 1, 1) := by decide +kernel
theorem dX7_copyFrom_10 : decode cX7_copyFrom 10 = .ok (.getfield 15, 3) := by decide +kernel
theorem dX7_copyFrom_13 : decode cX7_copyFrom 13 = .ok (.putfield 15, 3) := by decide +kernel
theorem dX7_copyFrom_16 : decode cX7_copyFrom 16 = .ok (.aload_n 1, 1) := by decide +kernel
theorem dX7_copyFrom_17 : decode cX7_copyFrom 17 = .ok (.getfield 18, 3) := by decide +kernel
theorem dX7_copyFrom_20 : decode cX7_copyFrom 20 = .ok (.iconst 0, 1) := by decide +kernel
theorem dX7_copyFrom_21 : decode cX7_copyFrom 21 = .ok (.aload_n 0, 1) := by decide +kernel
theorem dX7_copyFrom_22 : decode cX7_copyFrom 22 = .ok (.getfield 18, 3) := by decide +kernel
theorem dX7_copyFrom_25 : decode cX7_copyFrom 25 = .ok (.iconst 0, 1) := by decide +kernel
theorem dX7_copyFrom_26 : decode cX7_copyFrom 26 = .ok (.bipush 6, 2) := by decide +kernel
theorem dX7_copyFrom_28 : decode cX7_copyFrom 28 = .ok (.invokestatic 32, 3) := by decide +kernel
theorem dX7_copyFrom_31 : decode cX7_copyFrom 31 = .ok (.aload_n 1, 1) := by decide +kernel
theorem dX7_copyFrom_32 : decode cX7_copyFrom 32 = .ok (.getfield 22, 3) := by decide +kernel
theorem dX7_copyFrom_35 : decode cX7_copyFrom 35 = .ok (.iconst 0, 1) := by decide +kernel
theorem dX7_copyFrom_36 : decode cX7_copyFrom 36 = .ok (.aload_n 0, 1) := by decide +kernel
theorem dX7_copyFrom_37 : decode cX7_copyFrom 37 = .ok (.getfield 22, 3) := by decide +kernel
theorem dX7_copyFrom_40 : decode cX7_copyFrom 40 = .ok (.iconst 0, 1) := by decide +kernel
theorem dX7_copyFrom_41 : decode cX7_copyFrom 41 = .ok (.bipush 8, 2) := by decide +kernel
theorem dX7_copyFrom_43 : decode cX7_copyFrom 43 = .ok (.invokestatic 32, 3) := by decide +kernel
theorem dX7_copyFrom_46 : decode cX7_copyFrom 46 = .ok (.aload_n 1, 1) := by decide +kernel
theorem dX7_copyFrom_47 : decode cX7_copyFrom 47 = .ok (.getfield 25, 3) := by decide +kernel
theorem dX7_copyFrom_50 : decode cX7_copyFrom 50 = .ok (.iconst 0, 1) := by decide +kernel
theorem dX7_copyFrom_51 : decode cX7_copyFrom 51 = .ok (.aload_n 0, 1) := by decide +kernel
theorem dX7_copyFrom_52 : decode cX7_copyFrom 52 = .ok (.getfield 25, 3) := by decide +kernel
theorem dX7_copyFrom_55 : decode cX7_copyFrom 55 = .ok (.iconst 0, 1) := by decide +kernel
theorem dX7_copyFrom_56 : decode cX7_copyFrom 56 = .ok (.bipush 8, 2) := by decide +kernel
theorem dX7_copyFrom_58 : decode cX7_copyFrom 58 = .ok (.invokestatic 32, 3) := by decide +kernel
theorem dX7_copyFrom_61 : decode cX7_copyFrom 61 = .ok (.return_, 1) := by decide +kernel
theorem dX7_readPicture_0 : decode cX7_readPicture 0 = .ok (.aload_n 0, 1) := by decide +kernel
theorem dX7_readPicture_1 : decode cX7_readPicture 1 = .ok (.aload_n 1, 1) := by decide +kernel
theorem dX7_readPicture_2 : decode cX7_readPicture 2 = .ok (.iconst 0, 1) := by decide +kernel
theorem dX7_readPicture_3 : decode cX7_readPicture 3 = .ok (.invokevirtual 42, 3) := by decide +kernel
theorem dX7_readPicture_6 : decode cX7_readPicture 6 = .ok (.putfield 9, 3) := by decide +kernel
theorem dX7_readPicture_9 : decode cX7_readPicture 9 = .ok (.aload_n 0, 1) := by decide +kernel
theorem dX7_readPicture_10 : decode cX7_readPicture 10 = .ok (.aload_n 1, 1) := by decide +kernel
theorem dX7_readPicture_11 : decode cX7_readPicture 11 = .ok (.iconst 2, 1) := by decide +kernel
theorem dX7_readPicture_12 : decode cX7_readPicture 12 = .ok (.invokevirtual 42, 3) := by decide +kernel
theorem dX7_readPicture_15 : decode cX7_readPicture 15 = .ok (.putfield 15, 3) := by decide +kernel
theorem dX7_readPicture_18 : decode cX7_readPicture 18 = .ok (.iconst 4, 1) := by decide +kernel
theorem dX7_readPicture_19 : decode cX7_readPicture 19 = .ok (.istore_n 3, 1) := by decide +kernel
theorem dX7_readPicture_20 : decode cX7_readPicture 20 = .ok (.iconst 0, 1) := by decide +kernel
theorem dX7_readPicture_21 : decode cX7_readPicture 21 = .ok (.istore 4, 2) := by decide +kernel
theorem dX7_readPicture_23 : decode cX7_readPicture 23 = .ok (.iload 4, 2) := by decide +kernel
theorem dX7_readPicture_25 : decode cX7_readPicture 25 = .ok (.aload_n 2, 1) := by decide +kernel
theorem dX7_readPicture_26 : decode cX7_readPicture 26 = .ok (.getfield 48, 3) := by decide +kernel
theorem dX7_readPicture_29 : decode cX7_readPicture 29 = .ok (.if_icmp .ge 24, 3) := by decide +kernel
theorem dX7_readPicture_32 : decode cX7_readPicture 32 = .ok (.aload_n 0, 1) := by decide +kernel
theorem dX7_readPicture_33 : decode cX7_readPicture 33 = .ok (.getfield 18, 3) := by decide +kernel
theorem dX7_readPicture_36 : decode cX7_readPicture 36 = .ok (.iload 4, 2) := by decide +kernel
theorem dX7_readPicture_38 : decode cX7_readPicture 38 = .ok (.aload_n 1, 1) := by decide +kernel
theorem dX7_readPicture_39 : decode cX7_readPicture 39 = .ok (.iload_n 3, 1) := by decide +kernel
theorem dX7_readPicture_40 : decode cX7_readPicture 40 = .ok (.iinc 3 1, 3) := by decide +kernel
theorem dX7_readPicture_43 : decode cX7_readPicture 43 = .ok (.invokevirtual 51, 3) := by decide +kernel
theorem dX7_readPicture_46 : decode cX7_readPicture 46 = .ok (.iastore, 1) := by decide +kernel
theorem dX7_readPicture_47 : decode cX7_readPicture 47 = .ok (.iinc 4 1, 3) := by decide +kernel
theorem dX7_readPicture_50 : decode cX7_readPicture 50 = .ok (.goto (-27), 3) := by decide +kernel
theorem dX7_readPicture_53 : decode cX7_readPicture 53 = .ok (.iconst 0, 1) := by decide +kernel
theorem dX7_readPicture_54 : decode cX7_readPicture 54 = .ok (.istore 4, 2) := by decide +kernel
theorem dX7_readPicture_56 : decode cX7_readPicture 56 = .ok (.iload 4, 2) := by decide +kernel
theorem dX7_readPicture_58 : decode cX7_readPicture 58 = .ok (.aload_n 2, 1) := by decide +kernel
theorem dX7_readPicture_59 : decode cX7_readPicture 59 = .ok (.getfield 54, 3) := by decide +kernel
theorem dX7_readPicture_62 : decode cX7_readPicture 62 = .ok (.if_icmp .ge 39, 3) := by decide +kernel
theorem dX7_readPicture_65 : decode cX7_readPicture 65 = .ok (.aload_n 0, 1) := by decide +kernel
theorem dX7_readPicture_66 : decode cX7_readPicture 66 = .ok (.getfield 22, 3) := by decide +kernel
theorem dX7_readPicture_69 : decode cX7_readPicture 69 = .ok (.iload 4, 2) := by decide +kernel
theorem dX7_readPicture_71 : decode cX7_readPicture 71 = .ok (.aload_n 1, 1) := by decide +kernel
theorem dX7_readPicture_72 : decode cX7_readPicture 72 = .ok (.iload_n 3, 1) := by decide +kernel
theorem dX7_readPicture_73 : decode cX7_readPicture 73 = .ok (.iinc 3 1, 3) := by decide +kernel
theorem dX7_readPicture_76 : decode cX7_readPicture 76 = .ok (.invokevirtual 51, 3) := by decide +kernel
theorem dX7_readPicture_79 : decode cX7_readPicture 79 = .ok (.iastore, 1) := by decide +kernel
theorem dX7_readPicture_80 : decode cX7_readPicture 80 = .ok (.aload_n 0, 1) := by decide +kernel
theorem dX7_readPicture_81 : decode cX7_readPicture 81 = .ok (.getfield 25, 3) := by decide +kernel
theorem dX7_readPicture_84 : decode cX7_readPicture 84 = .ok (.iload 4, 2) := by decide +kernel
theorem dX7_readPicture_86 : decode cX7_readPicture 86 = .ok (.aload_n 1, 1) := by decide +kernel
theorem dX7_readPicture_87 : decode cX7_readPicture 87 = .ok (.iload_n 3, 1) := by decide +kernel
theorem dX7_readPicture_88 : decode cX7_readPicture 88 = .ok (.iinc 3 1, 3) := by decide +kernel
theorem dX7_readPicture_91 : decode cX7_readPicture 91 = .ok (.invokevirtual 51, 3) := by decide +kernel
theorem dX7_readPicture_94 : decode cX7_readPicture 94 = .ok (.iastore, 1) := by decide +kernel
theorem dX7_readPicture_95 : decode cX7_readPicture 95 = .ok (.iinc 4 1, 3) := by decide +kernel
theorem dX7_readPicture_98 : decode cX7_readPicture 98 = .ok (.goto (-42), 3) := by decide +kernel
theorem dX7_readPicture_101 : decode cX7_readPicture 101 = .ok (.return_, 1) := by decide +kernel
theorem dX7_kindle_0 : decode cX7_kindle 0 = .ok (.aload_n 0, 1) := by decide +kernel
theorem dX7_kindle_1 : decode cX7_kindle 1 = .ok (.dup, 1) := by decide +kernel
theorem dX7_kindle_2 : decode cX7_kindle 2 = .ok (.getfield 15, 3) := by decide +kernel
theorem dX7_kindle_5 : decode cX7_kindle 5 = .ok (.iload_n 2, 1) := by decide +kernel
theorem dX7_kindle_6 : decode cX7_kindle 6 = .ok (.isub, 1) := by decide +kernel
theorem dX7_kindle_7 : decode cX7_kindle 7 = .ok (.putfield 15, 3) := by decide +kernel
theorem dX7_kindle_10 : decode cX7_kindle 10 = .ok (.aload_n 0, 1) := by decide +kernel
theorem dX7_kindle_11 : decode cX7_kindle 11 = .ok (.iload_n 1, 1) := by decide +kernel
theorem dX7_kindle_12 : decode cX7_kindle 12 = .ok (.iload_n 2, 1) := by decide +kernel
theorem dX7_kindle_13 : decode cX7_kindle 13 = .ok (.invokevirtual 57, 3) := by decide +kernel
theorem dX7_kindle_16 : decode cX7_kindle 16 = .ok (.return_, 1) := by decide +kernel
theorem dX7_setCandle_0 : decode cX7_setCandle 0 = .ok (.aload_n 0, 1) := by decide +kernel
theorem dX7_setCandle_1 : decode cX7_setCandle 1 = .ok (.getfield 22, 3) := by decide +kernel
theorem dX7_setCandle_4 : decode cX7_setCandle 4 = .ok (.iload_n 1, 1) := by decide +kernel
theorem dX7_setCandle_5 : decode cX7_setCandle 5 = .ok (.iload_n 2, 1) := by decide +kernel
theorem dX7_setCandle_6 : decode cX7_setCandle 6 = .ok (.iastore, 1) := by decide +kernel
theorem dX7_setCandle_7 : decode cX7_setCandle 7 = .ok (.aload_n 0, 1) := by decide +kernel
theorem dX7_setCandle_8 : decode cX7_setCandle 8 = .ok (.getfield 25, 3) := by decide +kernel
theorem dX7_setCandle_11 : decode cX7_setCandle 11 = .ok (.iload_n 1, 1) := by decide +kernel
theorem dX7_setCandle_12 : decode cX7_setCandle 12 = .ok (.iconst 0, 1) := by decide +kernel
theorem dX7_setCandle_13 : decode cX7_setCandle 13 = .ok (.iastore, 1) := by decide +kernel
theorem dX7_setCandle_14 : decode cX7_setCandle 14 = .ok (.return_, 1) := by decide +kernel
theorem dX7_putOut_0 : decode cX7_putOut 0 = .ok (.aload_n 0, 1) := by decide +kernel
theorem dX7_putOut_1 : decode cX7_putOut 1 = .ok (.iload_n 1, 1) := by decide +kernel
theorem dX7_putOut_2 : decode cX7_putOut 2 = .ok (.iconst 0, 1) := by decide +kernel
theorem dX7_putOut_3 : decode cX7_putOut 3 = .ok (.invokevirtual 57, 3) := by decide +kernel
theorem dX7_putOut_6 : decode cX7_putOut 6 = .ok (.return_, 1) := by decide +kernel
theorem dX7_quench_0 : decode cX7_quench 0 = .ok (.aload_n 0, 1) := by decide +kernel
theorem dX7_quench_1 : decode cX7_quench 1 = .ok (.getfield 22, 3) := by decide +kernel
theorem dX7_quench_4 : decode cX7_quench 4 = .ok (.iload_n 1, 1) := by decide +kernel
theorem dX7_quench_5 : decode cX7_quench 5 = .ok (.iaload, 1) := by decide +kernel
theorem dX7_quench_6 : decode cX7_quench 6 = .ok (.istore_n 2, 1) := by decide +kernel
theorem dX7_quench_7 : decode cX7_quench 7 = .ok (.aload_n 0, 1) := by decide +kernel
theorem dX7_quench_8 : decode cX7_quench 8 = .ok (.iload_n 2, 1) := by decide +kernel
theorem dX7_quench_9 : decode cX7_quench 9 = .ok (.invokevirtual 61, 3) := by decide +kernel
theorem dX7_quench_12 : decode cX7_quench 12 = .ok (.aload_n 0, 1) := by decide +kernel
theorem dX7_quench_13 : decode cX7_quench 13 = .ok (.iload_n 1, 1) := by decide +kernel
theorem dX7_quench_14 : decode cX7_quench 14 = .ok (.invokevirtual 38, 3) := by decide +kernel
theorem dX7_quench_17 : decode cX7_quench 17 = .ok (.iload_n 2, 1) := by decide +kernel
theorem dX7_quench_18 : decode cX7_quench 18 = .ok (.ireturn, 1) := by decide +kernel
theorem dX7_addTallow_0 : decode cX7_addTallow 0 = .ok (.aload_n 0, 1) := by decide +kernel
theorem dX7_addTallow_1 : decode cX7_addTallow 1 = .ok (.sipush 999, 3) := by decide +kernel
theorem dX7_addTallow_4 : decode cX7_addTallow 4 = .ok (.aload_n 0, 1) := by decide +kernel
theorem dX7_addTallow_5 : decode cX7_addTallow 5 = .ok (.getfield 15, 3) := by decide +kernel
theorem dX7_addTallow_8 : decode cX7_addTallow 8 = .ok (.iload_n 1, 1) := by decide +kernel
theorem dX7_addTallow_9 : decode cX7_addTallow 9 = .ok (.iadd, 1) := by decide +kernel
theorem dX7_addTallow_10 : decode cX7_addTallow 10 = .ok (.invokestatic 64, 3) := by decide +kernel
theorem dX7_addTallow_13 : decode cX7_addTallow 13 = .ok (.putfield 15, 3) := by decide +kernel
theorem dX7_addTallow_16 : decode cX7_addTallow 16 = .ok (.return_, 1) := by decide +kernel
theorem dX7_burn_0 : decode cX7_burn 0 = .ok (.aload_n 0, 1) := by decide +kernel
theorem dX7_burn_1 : decode cX7_burn 1 = .ok (.getfield 22, 3) := by decide +kernel
theorem dX7_burn_4 : decode cX7_burn 4 = .ok (.iload_n 1, 1) := by decide +kernel
theorem dX7_burn_5 : decode cX7_burn 5 = .ok (.dup2, 1) := by decide +kernel
theorem dX7_burn_6 : decode cX7_burn 6 = .ok (.iaload, 1) := by decide +kernel
theorem dX7_burn_7 : decode cX7_burn 7 = .ok (.iconst 0, 1) := by decide +kernel
theorem dX7_burn_8 : decode cX7_burn 8 = .ok (.aload_n 0, 1) := by decide +kernel
theorem dX7_burn_9 : decode cX7_burn 9 = .ok (.getfield 22, 3) := by decide +kernel
theorem dX7_burn_12 : decode cX7_burn 12 = .ok (.iload_n 1, 1) := by decide +kernel
theorem dX7_burn_13 : decode cX7_burn 13 = .ok (.iaload, 1) := by decide +kernel
theorem dX7_burn_14 : decode cX7_burn 14 = .ok (.iload_n 2, 1) := by decide +kernel
theorem dX7_burn_15 : decode cX7_burn 15 = .ok (.invokestatic 64, 3) := by decide +kernel
theorem dX7_burn_18 : decode cX7_burn 18 = .ok (.invokestatic 70, 3) := by decide +kernel
theorem dX7_burn_21 : decode cX7_burn 21 = .ok (.isub, 1) := by decide +kernel
theorem dX7_burn_22 : decode cX7_burn 22 = .ok (.iastore, 1) := by decide +kernel
theorem dX7_burn_23 : decode cX7_burn 23 = .ok (.aload_n 0, 1) := by decide +kernel
theorem dX7_burn_24 : decode cX7_burn 24 = .ok (.getfield 25, 3) := by decide +kernel
theorem dX7_burn_27 : decode cX7_burn 27 = .ok (.iload_n 1, 1) := by decide +kernel
theorem dX7_burn_28 : decode cX7_burn 28 = .ok (.bipush 99, 2) := by decide +kernel
theorem dX7_burn_30 : decode cX7_burn 30 = .ok (.aload_n 0, 1) := by decide +kernel
theorem dX7_burn_31 : decode cX7_burn 31 = .ok (.getfield 25, 3) := by decide +kernel
theorem dX7_burn_34 : decode cX7_burn 34 = .ok (.iload_n 1, 1) := by decide +kernel
theorem dX7_burn_35 : decode cX7_burn 35 = .ok (.iaload, 1) := by decide +kernel
theorem dX7_burn_36 : decode cX7_burn 36 = .ok (.iconst 1, 1) := by decide +kernel
theorem dX7_burn_37 : decode cX7_burn 37 = .ok (.iadd, 1) := by decide +kernel
theorem dX7_burn_38 : decode cX7_burn 38 = .ok (.invokestatic 64, 3) := by decide +kernel
theorem dX7_burn_41 : decode cX7_burn 41 = .ok (.iastore, 1) := by decide +kernel
theorem dX7_burn_42 : decode cX7_burn 42 = .ok (.return_, 1) := by decide +kernel
theorem dX7_swapHomes_0 : decode cX7_swapHomes 0 = .ok (.aload_n 0, 1) := by decide +kernel
theorem dX7_swapHomes_1 : decode cX7_swapHomes 1 = .ok (.getfield 18, 3) := by decide +kernel
theorem dX7_swapHomes_4 : decode cX7_swapHomes 4 = .ok (.iload_n 1, 1) := by decide +kernel
theorem dX7_swapHomes_5 : decode cX7_swapHomes 5 = .ok (.iaload, 1) := by decide +kernel
theorem dX7_swapHomes_6 : decode cX7_swapHomes 6 = .ok (.istore_n 3, 1) := by decide +kernel
theorem dX7_swapHomes_7 : decode cX7_swapHomes 7 = .ok (.aload_n 0, 1) := by decide +kernel
theorem dX7_swapHomes_8 : decode cX7_swapHomes 8 = .ok (.getfield 18, 3) := by decide +kernel
theorem dX7_swapHomes_11 : decode cX7_swapHomes 11 = .ok (.iload_n 1, 1) := by decide +kernel
theorem dX7_swapHomes_12 : decode cX7_swapHomes 12 = .ok (.aload_n 0, 1) := by decide +kernel
theorem dX7_swapHomes_13 : decode cX7_swapHomes 13 = .ok (.getfield 18, 3) := by decide +kernel
theorem dX7_swapHomes_16 : decode cX7_swapHomes 16 = .ok (.iload_n 2, 1) := by decide +kernel
theorem dX7_swapHomes_17 : decode cX7_swapHomes 17 = .ok (.iaload, 1) := by decide +kernel
theorem dX7_swapHomes_18 : decode cX7_swapHomes 18 = .ok (.iastore, 1) := by decide +kernel
theorem dX7_swapHomes_19 : decode cX7_swapHomes 19 = .ok (.aload_n 0, 1) := by decide +kernel
theorem dX7_swapHomes_20 : decode cX7_swapHomes 20 = .ok (.getfield 18, 3) := by decide +kernel
theorem dX7_swapHomes_23 : decode cX7_swapHomes 23 = .ok (.iload_n 2, 1) := by decide +kernel
theorem dX7_swapHomes_24 : decode cX7_swapHomes 24 = .ok (.iload_n 3, 1) := by decide +kernel
theorem dX7_swapHomes_25 : decode cX7_swapHomes 25 = .ok (.iastore, 1) := by decide +kernel
theorem dX7_swapHomes_26 : decode cX7_swapHomes 26 = .ok (.return_, 1) := by decide +kernel
theorem dX8_init_0 : decode cX8_init 0 = .ok (.aload_n 0, 1) := by decide +kernel
theorem dX8_init_1 : decode cX8_init 1 = .ok (.invokespecial 3, 3) := by decide +kernel
theorem dX8_init_4 : decode cX8_init 4 = .ok (.aload_n 0, 1) := by decide +kernel
theorem dX8_init_5 : decode cX8_init 5 = .ok (.iconst 0, 1) := by decide +kernel
theorem dX8_init_6 : decode cX8_init 6 = .ok (.putfield 9, 3) := by decide +kernel
theorem dX8_init_9 : decode cX8_init 9 = .ok (.aload_n 0, 1) := by decide +kernel
theorem dX8_init_10 : decode cX8_init 10 = .ok (.iconst 0, 1) := by decide +kernel
theorem dX8_init_11 : decode cX8_init 11 = .ok (.putfield 15, 3) := by decide +kernel
theorem dX8_init_14 : decode cX8_init 14 = .ok (.aload_n 0, 1) := by decide +kernel
theorem dX8_init_15 : decode cX8_init 15 = .ok (.iconst 0, 1) := by decide +kernel
theorem dX8_init_16 : decode cX8_init 16 = .ok (.putfield 18, 3) := by decide +kernel
theorem dX8_init_19 : decode cX8_init 19 = .ok (.aload_n 0, 1) := by decide +kernel
theorem dX8_init_20 : decode cX8_init 20 = .ok (.iconst 0, 1) := by decide +kernel
theorem dX8_init_21 : decode cX8_init 21 = .ok (.putfield 21, 3) := by decide +kernel
theorem dX8_init_24 : decode cX8_init 24 = .ok (.aload_n 0, 1) := by decide +kernel
theorem dX8_init_25 : decode cX8_init 25 = .ok (.iconst 0, 1) := by decide +kernel
theorem dX8_init_26 : decode cX8_init 26 = .ok (.putfield 24, 3) := by decide +kernel
theorem dX8_init_29 : decode cX8_init 29 = .ok (.aload_n 0, 1) := by decide +kernel
theorem dX8_init_30 : decode cX8_init 30 = .ok (.iconst 0, 1) := by decide +kernel
theorem dX8_init_31 : decode cX8_init 31 = .ok (.putfield 27, 3) := by decide +kernel
theorem dX8_init_34 : decode cX8_init 34 = .ok (.aload_n 0, 1) := by decide +kernel
theorem dX8_init_35 : decode cX8_init 35 = .ok (.iconst 0, 1) := by decide +kernel
theorem dX8_init_36 : decode cX8_init 36 = .ok (.putfield 30, 3) := by decide +kernel
theorem dX8_init_39 : decode cX8_init 39 = .ok (.aload_n 0, 1) := by decide +kernel
theorem dX8_init_40 : decode cX8_init 40 = .ok (.bipush 6, 2) := by decide +kernel
theorem dX8_init_42 : decode cX8_init 42 = .ok (.newarray .int, 2) := by decide +kernel
theorem dX8_init_44 : decode cX8_init 44 = .ok (.putfield 33, 3) := by decide +kernel
theorem dX8_init_47 : decode cX8_init 47 = .ok (.aload_n 0, 1) := by decide +kernel
theorem dX8_init_48 : decode cX8_init 48 = .ok (.bipush 6, 2) := by decide +kernel
theorem dX8_init_50 : decode cX8_init 50 = .ok (.newarray .int, 2) := by decide +kernel
theorem dX8_init_52 : decode cX8_init 52 = .ok (.putfield 37, 3) := by decide +kernel
theorem dX8_init_55 : decode cX8_init 55 = .ok (.aload_n 0, 1) := by decide +kernel
theorem dX8_init_56 : decode cX8_init 56 = .ok (.bipush 6, 2) := by decide +kernel
theorem dX8_init_58 : decode cX8_init 58 = .ok (.newarray .int, 2) := by decide +kernel
theorem dX8_init_60 : decode cX8_init 60 = .ok (.putfield 40, 3) := by decide +kernel
theorem dX8_init_63 : decode cX8_init 63 = .ok (.aload_n 0, 1) := by decide +kernel
theorem dX8_init_64 : decode cX8_init 64 = .ok (.bipush 8, 2) := by decide +kernel
theorem dX8_init_66 : decode cX8_init 66 = .ok (.newarray .int, 2) := by decide +kernel
theorem dX8_init_68 : decode cX8_init 68 = .ok (.putfield 43, 3) := by decide +kernel
theorem dX8_init_71 : decode cX8_init 71 = .ok (.aload_n 0, 1) := by decide +kernel
theorem dX8_init_72 : decode cX8_init 72 = .ok (.bipush 8, 2) := by decide +kernel
theorem dX8_init_74 : decode cX8_init 74 = .ok (.newarray .int, 2) := by decide +kernel
theorem dX8_init_76 : decode cX8_init 76 = .ok (.putfield 46, 3) := by decide +kernel
theorem dX8_init_79 : decode cX8_init 79 = .ok (.aload_n 0, 1) := by decide +kernel
theorem dX8_init_80 : decode cX8_init 80 = .ok (.bipush 8, 2) := by decide +kernel
theorem dX8_init_82 : decode cX8_init 82 = .ok (.newarray .int, 2) := by decide +kernel
theorem dX8_init_84 : decode cX8_init 84 = .ok (.putfield 49, 3) := by decide +kernel
theorem dX8_init_87 : decode cX8_init 87 = .ok (.aload_n 0, 1) := by decide +kernel
theorem dX8_init_88 : decode cX8_init 88 = .ok (.bipush 16, 2) := by decide +kernel
theorem dX8_init_90 : decode cX8_init 90 = .ok (.newarray .int, 2) := by decide +kernel
theorem dX8_init_92 : decode cX8_init 92 = .ok (.putfield 52, 3) := by decide +kernel
theorem dX8_init_95 : decode cX8_init 95 = .ok (.aload_n 0, 1) := by decide +kernel
theorem dX8_init_96 : decode cX8_init 96 = .ok (.bipush 16, 2) := by decide +kernel
theorem dX8_init_98 : decode cX8_init 98 = .ok (.newarray .int, 2) := by decide +kernel
theorem dX8_init_100 : decode cX8_init 100 = .ok (.putfield 55, 3) := by decide +kernel
theorem dX8_init_103 : decode cX8_init 103 = .ok (.aload_n 0, 1) := by decide +kernel
theorem dX8_init_104 : decode cX8_init 104 = .ok (.bipush 16, 2) := by decide +kernel
theorem dX8_init_106 : decode cX8_init 106 = .ok (.newarray .int, 2) := by decide +kernel
theorem dX8_init_108 : decode cX8_init 108 = .ok (.putfield 58, 3) := by decide +kernel
theorem dX8_init_111 : decode cX8_init 111 = .ok (.aload_n 0, 1) := by decide +kernel
theorem dX8_init_112 : decode cX8_init 112 = .ok (.new 61, 3) := by decide +kernel
theorem dX8_init_115 : decode cX8_init 115 = .ok (.dup, 1) := by decide +kernel
theorem dX8_init_116 : decode cX8_init 116 = .ok (.invokespecial 63, 3) := by decide +kernel
theorem dX8_init_119 : decode cX8_init 119 = .ok (.putfield 64, 3) := by decide +kernel
theorem dX8_init_122 : decode cX8_init 122 = .ok (.return_, 1) := by decide +kernel
theorem dX8_clear_0 : decode cX8_clear 0 = .ok (.aload_n 0, 1) := by decide +kernel
theorem dX8_clear_1 : decode cX8_clear 1 = .ok (.iconst 0, 1) := by decide +kernel
theorem dX8_clear_2 : decode cX8_clear 2 = .ok (.putfield 9, 3) := by decide +kernel
theorem dX8_clear_5 : decode cX8_clear 5 = .ok (.aload_n 0, 1) := by decide +kernel
theorem dX8_clear_6 : decode cX8_clear 6 = .ok (.iconst 0, 1) := by decide +kernel
theorem dX8_clear_7 : decode cX8_clear 7 = .ok (.putfield 15, 3) := by decide +kernel
theorem dX8_clear_10 : decode cX8_clear 10 = .ok (.aload_n 0, 1) := by decide +kernel
theorem dX8_clear_11 : decode cX8_clear 11 = .ok (.iconst 0, 1) := by decide +kernel
theorem dX8_clear_12 : decode cX8_clear 12 = .ok (.putfield 18, 3) := by decide +kernel
theorem dX8_clear_15 : decode cX8_clear 15 = .ok (.aload_n 0, 1) := by decide +kernel
theorem dX8_clear_16 : decode cX8_clear 16 = .ok (.iconst 0, 1) := by decide +kernel
theorem dX8_clear_17 : decode cX8_clear 17 = .ok (.putfield 21, 3) := by decide +kernel
theorem dX8_clear_20 : decode cX8_clear 20 = .ok (.aload_n 0, 1) := by decide +kernel
theorem dX8_clear_21 : decode cX8_clear 21 = .ok (.iconst 0, 1) := by decide +kernel
theorem dX8_clear_22 : decode cX8_clear 22 = .ok (.putfield 24, 3) := by decide +kernel
theorem dX8_clear_25 : decode cX8_clear 25 = .ok (.aload_n 0, 1) := by decide +kernel
theorem dX8_clear_26 : decode cX8_clear 26 = .ok (.bipush 100, 2) := by decide +kernel
theorem dX8_clear_28 : decode cX8_clear 28 = .ok (.putfield 27, 3) := by decide +kernel
theorem dX8_clear_31 : decode cX8_clear 31 = .ok (.aload_n 0, 1) := by decide +kernel
theorem dX8_clear_32 : decode cX8_clear 32 = .ok (.iconst 0, 1) := by decide +kernel
theorem dX8_clear_33 : decode cX8_clear 33 = .ok (.putfield 30, 3) := by decide +kernel
theorem dX8_clear_36 : decode cX8_clear 36 = .ok (.return_, 1) := by decide +kernel
theorem dX8_addPerson_0 : decode cX8_addPerson 0 = .ok (.aload_n 0, 1) := by decide +kernel
theorem dX8_addPerson_1 : decode cX8_addPerson 1 = .ok (.getfield 18, 3) := by decide +kernel
theorem dX8_addPerson_4 : decode cX8_addPerson 4 = .ok (.bipush 6, 2) := by decide +kernel
theorem dX8_addPerson_6 : decode cX8_addPerson 6 = .ok (.if_icmp .ge 43, 3) := by decide +kernel
theorem dX8_addPerson_9 : decode cX8_addPerson 9 = .ok (.aload_n 0, 1) := by decide +kernel
theorem dX8_addPerson_10 : decode cX8_addPerson 10 = .ok (.getfield 33, 3) := by decide +kernel
theorem dX8_addPerson_13 : decode cX8_addPerson 13 = .ok (.aload_n 0, 1) := by decide +kernel
theorem dX8_addPerson_14 : decode cX8_addPerson 14 = .ok (.getfield 18, 3) := by decide +kernel
theorem dX8_addPerson_17 : decode cX8_addPerson 17 = .ok (.iload_n 1, 1) := by decide +kernel
theorem dX8_addPerson_18 : decode cX8_addPerson 18 = .ok (.iastore, 1) := by decide +kernel
theorem dX8_addPerson_19 : decode cX8_addPerson 19 = .ok (.aload_n 0, 1) := by decide +kernel
theorem dX8_addPerson_20 : decode cX8_addPerson 20 = .ok (.getfield 37, 3) := by decide +kernel
theorem dX8_addPerson_23 : decode cX8_addPerson 23 = .ok (.aload_n 0, 1) := by decide +kernel
theorem dX8_addPerson_24 : decode cX8_addPerson 24 = .ok (.getfield 18, 3) := by decide +kernel
theorem dX8_addPerson_27 : decode cX8_addPerson 27 = .ok (.iload_n 2, 1) := by decide +kernel
theorem dX8_addPerson_28 : decode cX8_addPerson 28 = .ok (.iastore, 1) := by decide +kernel
theorem dX8_addPerson_29 : decode cX8_addPerson 29 = .ok (.aload_n 0, 1) := by decide +kernel
theorem dX8_addPerson_30 : decode cX8_addPerson 30 = .ok (.getfield 40, 3) := by decide +kernel
theorem dX8_addPerson_33 : decode cX8_addPerson 33 = .ok (.aload_n 0, 1) := by decide +kernel
theorem dX8_addPerson_34 : decode cX8_addPerson 34 = .ok (.getfield 18, 3) := by decide +kernel
theorem dX8_addPerson_37 : decode cX8_addPerson 37 = .ok (.iload_n 3, 1) := by decide +kernel
theorem dX8_addPerson_38 : decode cX8_addPerson 38 = .ok (.iastore, 1) := by decide +kernel
theorem dX8_addPerson_39 : decode cX8_addPerson 39 = .ok (.aload_n 0, 1) := by decide +kernel
theorem dX8_addPerson_40 : decode cX8_addPerson 40 = .ok (.dup, 1) := by decide +kernel
theorem dX8_addPerson_41 : decode cX8_addPerson 41 = .ok (.getfield 18, 3) := by decide +kernel
theorem dX8_addPerson_44 : decode cX8_addPerson 44 = .ok (.iconst 1, 1) := by decide +kernel
theorem dX8_addPerson_45 : decode cX8_addPerson 45 = .ok (.iadd, 1) := by decide +kernel
theorem dX8_addPerson_46 : decode cX8_addPerson 46 = .ok (.putfield 18, 3) := by decide +kernel
theorem dX8_addPerson_49 : decode cX8_addPerson 49 = .ok (.return_, 1) := by decide +kernel
theorem dX8_addLie_0 : decode cX8_addLie 0 = .ok (.iload_n 2, 1) := by decide +kernel
theorem dX8_addLie_1 : decode cX8_addLie 1 = .ok (.ifCond .lt 52, 3) := by decide +kernel
theorem dX8_addLie_4 : decode cX8_addLie 4 = .ok (.aload_n 0, 1) := by decide +kernel
theorem dX8_addLie_5 : decode cX8_addLie 5 = .ok (.getfield 21, 3) := by decide +kernel
theorem dX8_addLie_8 : decode cX8_addLie 8 = .ok (.bipush 8, 2) := by decide +kernel
theorem dX8_addLie_10 : decode cX8_addLie 10 = .ok (.if_icmp .ge 43, 3) := by decide +kernel
theorem dX8_addLie_13 : decode cX8_addLie 13 = .ok (.aload_n 0, 1) := by decide +kernel
theorem dX8_addLie_14 : decode cX8_addLie 14 = .ok (.getfield 43, 3) := by decide +kernel
theorem dX8_addLie_17 : decode cX8_addLie 17 = .ok (.aload_n 0, 1) := by decide +kernel
theorem dX8_addLie_18 : decode cX8_addLie 18 = .ok (.getfield 21, 3) := by decide +kernel
theorem dX8_addLie_21 : decode cX8_addLie 21 = .ok (.iload_n 1, 1) := by decide +kernel
theorem dX8_addLie_22 : decode cX8_addLie 22 = .ok (.iastore, 1) := by decide +kernel
theorem dX8_addLie_23 : decode cX8_addLie 23 = .ok (.aload_n 0, 1) := by decide +kernel
theorem dX8_addLie_24 : decode cX8_addLie 24 = .ok (.getfield 46, 3) := by decide +kernel
theorem dX8_addLie_27 : decode cX8_addLie 27 = .ok (.aload_n 0, 1) := by decide +kernel
theorem dX8_addLie_28 : decode cX8_addLie 28 = .ok (.getfield 21, 3) := by decide +kernel
theorem dX8_addLie_31 : decode cX8_addLie 31 = .ok (.iload_n 2, 1) := by decide +kernel
theorem dX8_addLie_32 : decode cX8_addLie 32 = .ok (.iastore, 1) := by decide +kernel
theorem dX8_addLie_33 : decode cX8_addLie 33 = .ok (.aload_n 0, 1) := by decide +kernel
theorem dX8_addLie_34 : decode cX8_addLie 34 = .ok (.getfield 49, 3) := by decide +kernel
theorem dX8_addLie_37 : decode cX8_addLie 37 = .ok (.aload_n 0, 1) := by decide +kernel
theorem dX8_addLie_38 : decode cX8_addLie 38 = .ok (.getfield 21, 3) := by decide +kernel
theorem dX8_addLie_41 : decode cX8_addLie 41 = .ok (.iconst (-1), 1) := by decide +kernel
theorem dX8_addLie_42 : decode cX8_addLie 42 = .ok (.iastore, 1) := by decide +kernel
theorem dX8_addLie_43 : decode cX8_addLie 43 = .ok (.aload_n 0, 1) := by decide +kernel
theorem dX8_addLie_44 : decode cX8_addLie 44 = .ok (.dup, 1) := by decide +kernel
theorem dX8_addLie_45 : decode cX8_addLie 45 = .ok (.getfield 21, 3) := by decide +kernel
theorem dX8_addLie_48 : decode cX8_addLie 48 = .ok (.iconst 1, 1) := by decide +kernel
theorem dX8_addLie_49 : decode cX8_addLie 49 = .ok (.iadd, 1) := by decide +kernel
theorem dX8_addLie_50 : decode cX8_addLie 50 = .ok (.putfield 21, 3) := by decide +kernel
theorem dX8_addLie_53 : decode cX8_addLie 53 = .ok (.return_, 1) := by decide +kernel
theorem dX8_addRow_0 : decode cX8_addRow 0 = .ok (.iload_n 1, 1) := by decide +kernel
theorem dX8_addRow_1 : decode cX8_addRow 1 = .ok (.ifCond .lt 52, 3) := by decide +kernel
theorem dX8_addRow_4 : decode cX8_addRow 4 = .ok (.aload_n 0, 1) := by decide +kernel
theorem dX8_addRow_5 : decode cX8_addRow 5 = .ok (.getfield 24, 3) := by decide +kernel
theorem dX8_addRow_8 : decode cX8_addRow 8 = .ok (.bipush 16, 2) := by decide +kernel
theorem dX8_addRow_10 : decode cX8_addRow 10 = .ok (.if_icmp .ge 43, 3) := by decide +kernel
theorem dX8_addRow_13 : decode cX8_addRow 13 = .ok (.aload_n 0, 1) := by decide +kernel
theorem dX8_addRow_14 : decode cX8_addRow 14 = .ok (.getfield 52, 3) := by decide +kernel
theorem dX8_addRow_17 : decode cX8_addRow 17 = .ok (.aload_n 0, 1) := by decide +kernel
theorem dX8_addRow_18 : decode cX8_addRow 18 = .ok (.getfield 24, 3) := by decide +kernel
theorem dX8_addRow_21 : decode cX8_addRow 21 = .ok (.iload_n 1, 1) := by decide +kernel
theorem dX8_addRow_22 : decode cX8_addRow 22 = .ok (.iastore, 1) := by decide +kernel
theorem dX8_addRow_23 : decode cX8_addRow 23 = .ok (.aload_n 0, 1) := by decide +kernel
theorem dX8_addRow_24 : decode cX8_addRow 24 = .ok (.getfield 55, 3) := by decide +kernel
theorem dX8_addRow_27 : decode cX8_addRow 27 = .ok (.aload_n 0, 1) := by decide +kernel
theorem dX8_addRow_28 : decode cX8_addRow 28 = .ok (.getfield 24, 3) := by decide +kernel
theorem dX8_addRow_31 : decode cX8_addRow 31 = .ok (.iload_n 2, 1) := by decide +kernel
theorem dX8_addRow_32 : decode cX8_addRow 32 = .ok (.iastore, 1) := by decide +kernel
theorem dX8_addRow_33 : decode cX8_addRow 33 = .ok (.aload_n 0, 1) := by decide +kernel
theorem dX8_addRow_34 : decode cX8_addRow 34 = .ok (.getfield 58, 3) := by decide +kernel
theorem dX8_addRow_37 : decode cX8_addRow 37 = .ok (.aload_n 0, 1) := by decide +kernel
theorem dX8_addRow_38 : decode cX8_addRow 38 = .ok (.getfield 24, 3) := by decide +kernel
theorem dX8_addRow_41 : decode cX8_addRow 41 = .ok (.iload_n 3, 1) := by decide +kernel
theorem dX8_addRow_42 : decode cX8_addRow 42 = .ok (.iastore, 1) := by decide +kernel
theorem dX8_addRow_43 : decode cX8_addRow 43 = .ok (.aload_n 0, 1) := by decide +kernel
theorem dX8_addRow_44 : decode cX8_addRow 44 = .ok (.dup, 1) := by decide +kernel
theorem dX8_addRow_45 : decode cX8_addRow 45 = .ok (.getfield 24, 3) := by decide +kernel
theorem dX8_addRow_48 : decode cX8_addRow 48 = .ok (.iconst 1, 1) := by decide +kernel
theorem dX8_addRow_49 : decode cX8_addRow 49 = .ok (.iadd, 1) := by decide +kernel
theorem dX8_addRow_50 : decode cX8_addRow 50 = .ok (.putfield 24, 3) := by decide +kernel
theorem dX8_addRow_53 : decode cX8_addRow 53 = .ok (.return_, 1) := by decide +kernel
theorem dX8_personNamed_0 : decode cX8_personNamed 0 = .ok (.iconst 0, 1) := by decide +kernel
theorem dX8_personNamed_1 : decode cX8_personNamed 1 = .ok (.istore_n 2, 1) := by decide +kernel
theorem dX8_personNamed_2 : decode cX8_personNamed 2 = .ok (.iload_n 2, 1) := by decide +kernel
theorem dX8_personNamed_3 : decode cX8_personNamed 3 = .ok (.aload_n 0, 1) := by decide +kernel
theorem dX8_personNamed_4 : decode cX8_personNamed 4 = .ok (.getfield 18, 3) := by decide +kernel
theorem dX8_personNamed_7 : decode cX8_personNamed 7 = .ok (.if_icmp .ge 21, 3) := by decide +kernel
theorem dX8_personNamed_10 : decode cX8_personNamed 10 = .ok (.aload_n 0, 1) := by decide +kernel
theorem dX8_personNamed_11 : decode cX8_personNamed 11 = .ok (.getfield 33, 3) := by decide +kernel
theorem dX8_personNamed_14 : decode cX8_personNamed 14 = .ok (.iload_n 2, 1) := by decide +kernel
theorem dX8_personNamed_15 : decode cX8_personNamed 15 = .ok (.iaload, 1) := by decide +kernel
theorem dX8_personNamed_16 : decode cX8_personNamed 16 = .ok (.iload_n 1, 1) := by decide +kernel
theorem dX8_personNamed_17 : decode cX8_personNamed 17 = .ok (.if_icmp .ne 5, 3) := by decide +kernel
theorem dX8_personNamed_20 : decode cX8_personNamed 20 = .ok (.iload_n 2, 1) := by decide +kernel
theorem dX8_personNamed_21 : decode cX8_personNamed 21 = .ok (.ireturn, 1) := by decide +kernel
theorem dX8_personNamed_22 : decode cX8_personNamed 22 = .ok (.iinc 2 1, 3) := by decide +kernel
theorem dX8_personNamed_25 : decode cX8_personNamed 25 = .ok (.goto (-23), 3) := by decide +kernel
theorem dX8_personNamed_28 : decode cX8_personNamed 28 = .ok (.iconst (-1), 1) := by decide +kernel
theorem dX8_personNamed_29 : decode cX8_personNamed 29 = .ok (.ireturn, 1) := by decide +kernel
theorem dX8_lieNamed_0 : decode cX8_lieNamed 0 = .ok (.iconst 0, 1) := by decide +kernel
theorem dX8_lieNamed_1 : decode cX8_lieNamed 1 = .ok (.istore_n 2, 1) := by decide +kernel
theorem dX8_lieNamed_2 : decode cX8_lieNamed 2 = .ok (.iload_n 2, 1) := by decide +kernel
theorem dX8_lieNamed_3 : decode cX8_lieNamed 3 = .ok (.aload_n 0, 1) := by decide +kernel
theorem dX8_lieNamed_4 : decode cX8_lieNamed 4 = .ok (.getfield 21, 3) := by decide +kernel
theorem dX8_lieNamed_7 : decode cX8_lieNamed 7 = .ok (.if_icmp .ge 21, 3) := by decide +kernel
theorem dX8_lieNamed_10 : decode cX8_lieNamed 10 = .ok (.aload_n 0, 1) := by decide +kernel
theorem dX8_lieNamed_11 : decode cX8_lieNamed 11 = .ok (.getfield 43, 3) := by decide +kernel
theorem dX8_lieNamed_14 : decode cX8_lieNamed 14 = .ok (.iload_n 2, 1) := by decide +kernel
theorem dX8_lieNamed_15 : decode cX8_lieNamed 15 = .ok (.iaload, 1) := by decide +kernel
theorem dX8_lieNamed_16 : decode cX8_lieNamed 16 = .ok (.iload_n 1, 1) := by decide +kernel
theorem dX8_lieNamed_17 : decode cX8_lieNamed 17 = .ok (.if_icmp .ne 5, 3) := by decide +kernel
theorem dX8_lieNamed_20 : decode cX8_lieNamed 20 = .ok (.iload_n 2, 1) := by decide +kernel
theorem dX8_lieNamed_21 : decode cX8_lieNamed 21 = .ok (.ireturn, 1) := by decide +kernel
theorem dX8_lieNamed_22 : decode cX8_lieNamed 22 = .ok (.iinc 2 1, 3) := by decide +kernel
theorem dX8_lieNamed_25 : decode cX8_lieNamed 25 = .ok (.goto (-23), 3) := by decide +kernel
theorem dX8_lieNamed_28 : decode cX8_lieNamed 28 = .ok (.iconst (-1), 1) := by decide +kernel
theorem dX8_lieNamed_29 : decode cX8_lieNamed 29 = .ok (.ireturn, 1) := by decide +kernel
theorem dX8_hanging_0 : decode cX8_hanging 0 = .ok (.iconst 1, 1) := by decide +kernel
theorem dX8_hanging_1 : decode cX8_hanging 1 = .ok (.iload_n 1, 1) := by decide +kernel
theorem dX8_hanging_2 : decode cX8_hanging 2 = .ok (.ishl, 1) := by decide +kernel
theorem dX8_hanging_3 : decode cX8_hanging 3 = .ok (.istore_n 2, 1) := by decide +kernel
theorem dX8_hanging_4 : decode cX8_hanging 4 = .ok (.iload_n 1, 1) := by decide +kernel
theorem dX8_hanging_5 : decode cX8_hanging 5 = .ok (.iconst 1, 1) := by decide +kernel
theorem dX8_hanging_6 : decode cX8_hanging 6 = .ok (.iadd, 1) := by decide +kernel
theorem dX8_hanging_7 : decode cX8_hanging 7 = .ok (.istore_n 3, 1) := by decide +kernel
theorem dX8_hanging_8 : decode cX8_hanging 8 = .ok (.iload_n 3, 1) := by decide +kernel
theorem dX8_hanging_9 : decode cX8_hanging 9 = .ok (.aload_n 0, 1) := by decide +kernel
theorem dX8_hanging_10 : decode cX8_hanging 10 = .ok (.getfield 21, 3) := by decide +kernel
theorem dX8_hanging_13 : decode cX8_hanging 13 = .ok (.if_icmp .ge 38, 3) := by decide +kernel
theorem dX8_hanging_16 : decode cX8_hanging 16 = .ok (.aload_n 0, 1) := by decide +kernel
theorem dX8_hanging_17 : decode cX8_hanging 17 = .ok (.getfield 49, 3) := by decide +kernel
theorem dX8_hanging_20 : decode cX8_hanging 20 = .ok (.iload_n 3, 1) := by decide +kernel
theorem dX8_hanging_21 : decode cX8_hanging 21 = .ok (.iaload, 1) := by decide +kernel
theorem dX8_hanging_22 : decode cX8_hanging 22 = .ok (.ifCond .lt 23, 3) := by decide +kernel
theorem dX8_hanging_25 : decode cX8_hanging 25 = .ok (.iload_n 2, 1) := by decide +kernel
theorem dX8_hanging_26 : decode cX8_hanging 26 = .ok (.aload_n 0, 1) := by decide +kernel
theorem dX8_hanging_27 : decode cX8_hanging 27 = .ok (.getfield 49, 3) := by decide +kernel
theorem dX8_hanging_30 : decode cX8_hanging 30 = .ok (.iload_n 3, 1) := by decide +kernel
theorem dX8_hanging_31 : decode cX8_hanging 31 = .ok (.iaload, 1) := by decide +kernel
theorem dX8_hanging_32 : decode cX8_hanging 32 = .ok (.ishr, 1) := by decide +kernel
theorem dX8_hanging_33 : decode cX8_hanging 33 = .ok (.iconst 1, 1) := by decide +kernel
theorem dX8_hanging_34 : decode cX8_hanging 34 = .ok (.iand, 1) := by decide +kernel
theorem dX8_hanging_35 : decode cX8_hanging 35 = .ok (.iconst 1, 1) := by decide +kernel
theorem dX8_hanging_36 : decode cX8_hanging 36 = .ok (.if_icmp .ne 9, 3) := by decide +kernel
theorem dX8_hanging_39 : decode cX8_hanging 39 = .ok (.iload_n 2, 1) := by decide +kernel
theorem dX8_hanging_40 : decode cX8_hanging 40 = .ok (.iconst 1, 1) := by decide +kernel
theorem dX8_hanging_41 : decode cX8_hanging 41 = .ok (.iload_n 3, 1) := by decide +kernel
theorem dX8_hanging_42 : decode cX8_hanging 42 = .ok (.ishl, 1) := by decide +kernel
theorem dX8_hanging_43 : decode cX8_hanging 43 = .ok (.ior, 1) := by decide +kernel
theorem dX8_hanging_44 : decode cX8_hanging 44 = .ok (.istore_n 2, 1) := by decide +kernel
theorem dX8_hanging_45 : decode cX8_hanging 45 = .ok (.iinc 3 1, 3) := by decide +kernel
theorem dX8_hanging_48 : decode cX8_hanging 48 = .ok (.goto (-40), 3) := by decide +kernel
theorem dX8_hanging_51 : decode cX8_hanging 51 = .ok (.iload_n 2, 1) := by decide +kernel
theorem dX8_hanging_52 : decode cX8_hanging 52 = .ok (.iconst 1, 1) := by decide +kernel
theorem dX8_hanging_53 : decode cX8_hanging 53 = .ok (.iload_n 1, 1) := by decide +kernel
theorem dX8_hanging_54 : decode cX8_hanging 54 = .ok (.ishl, 1) := by decide +kernel
theorem dX8_hanging_55 : decode cX8_hanging 55 = .ok (.ixor, 1) := by decide +kernel
theorem dX8_hanging_56 : decode cX8_hanging 56 = .ok (.ireturn, 1) := by decide +kernel
theorem dX9_init_0 : decode cX9_init 0 = .ok (.aload_n 0, 1) := by decide +kernel
theorem dX9_init_1 : decode cX9_init 1 = .ok (.invokespecial 3, 3) := by decide +kernel
theorem dX9_init_4 : decode cX9_init 4 = .ok (.aload_n 0, 1) := by decide +kernel
theorem dX9_init_5 : decode cX9_init 5 = .ok (.aload_n 1, 1) := by decide +kernel
theorem dX9_init_6 : decode cX9_init 6 = .ok (.putfield 9, 3) := by decide +kernel
theorem dX9_init_9 : decode cX9_init 9 = .ok (.aload_n 0, 1) := by decide +kernel
theorem dX9_init_10 : decode cX9_init 10 = .ok (.aload_n 2, 1) := by decide +kernel
theorem dX9_init_11 : decode cX9_init 11 = .ok (.putfield 15, 3) := by decide +kernel
theorem dX9_init_14 : decode cX9_init 14 = .ok (.return_, 1) := by decide +kernel
theorem dX9_readAll_0 : decode cX9_readAll 0 = .ok (.aload_n 0, 1) := by decide +kernel
theorem dX9_readAll_1 : decode cX9_readAll 1 = .ok (.aload_n 1, 1) := by decide +kernel
theorem dX9_readAll_2 : decode cX9_readAll 2 = .ok (.putfield 15, 3) := by decide +kernel
theorem dX9_readAll_5 : decode cX9_readAll 5 = .ok (.aload_n 1, 1) := by decide +kernel
theorem dX9_readAll_6 : decode cX9_readAll 6 = .ok (.invokevirtual 19, 3) := by decide +kernel
theorem dX9_readAll_9 : decode cX9_readAll 9 = .ok (.aload_n 0, 1) := by decide +kernel
theorem dX9_readAll_10 : decode cX9_readAll 10 = .ok (.getfield 9, 3) := by decide +kernel
theorem dX9_readAll_13 : decode cX9_readAll 13 = .ok (.aload_n 1, 1) := by decide +kernel
theorem dX9_readAll_14 : decode cX9_readAll 14 = .ok (.getfield 24, 3) := by decide +kernel
theorem dX9_readAll_17 : decode cX9_readAll 17 = .ok (.invokevirtual 28, 3) := by decide +kernel
theorem dX9_readAll_20 : decode cX9_readAll 20 = .ok (.aload_n 0, 1) := by decide +kernel
theorem dX9_readAll_21 : decode cX9_readAll 21 = .ok (.getfield 9, 3) := by decide +kernel
theorem dX9_readAll_24 : decode cX9_readAll 24 = .ok (.invokevirtual 34, 3) := by decide +kernel
theorem dX9_readAll_27 : decode cX9_readAll 27 = .ok (.iconst (-1), 1) := by decide +kernel
theorem dX9_readAll_28 : decode cX9_readAll 28 = .ok (.if_icmp .ne 18, 3) := by decide +kernel
theorem dX9_readAll_31 : decode cX9_readAll 31 = .ok (.aload_n 0, 1) := by decide +kernel
theorem dX9_readAll_32 : decode cX9_readAll 32 = .ok (.getfield 9, 3) := by decide +kernel
theorem dX9_readAll_35 : decode cX9_readAll 35 = .ok (.iconst 1, 1) := by decide +kernel
theorem dX9_readAll_36 : decode cX9_readAll 36 = .ok (.aload_n 0, 1) := by decide +kernel
theorem dX9_readAll_37 : decode cX9_readAll 37 = .ok (.getfield 9, 3) := by decide +kernel
theorem dX9_readAll_40 : decode cX9_readAll 40 = .ok (.getfield 38, 3) := by decide +kernel
theorem dX9_readAll_43 : decode cX9_readAll 43 = .ok (.invokevirtual 42, 3) := by decide +kernel
theorem dX9_readAll_46 : decode cX9_readAll 46 = .ok (.iconst 0, 1) := by decide +kernel
theorem dX9_readAll_47 : decode cX9_readAll 47 = .ok (.istore_n 2, 1) := by decide +kernel
theorem dX9_readAll_48 : decode cX9_readAll 48 = .ok (.iload_n 2, 1) := by decide +kernel
theorem dX9_readAll_49 : decode cX9_readAll 49 = .ok (.bipush 60, 2) := by decide +kernel
theorem dX9_readAll_51 : decode cX9_readAll 51 = .ok (.if_icmp .gt 84, 3) := by decide +kernel
theorem dX9_readAll_54 : decode cX9_readAll 54 = .ok (.aload_n 0, 1) := by decide +kernel
theorem dX9_readAll_55 : decode cX9_readAll 55 = .ok (.getfield 9, 3) := by decide +kernel
theorem dX9_readAll_58 : decode cX9_readAll 58 = .ok (.invokevirtual 34, 3) := by decide +kernel
theorem dX9_readAll_61 : decode cX9_readAll 61 = .ok (.iconst (-1), 1) := by decide +kernel
theorem dX9_readAll_62 : decode cX9_readAll 62 = .ok (.if_icmp .eq 73, 3) := by decide +kernel
theorem dX9_readAll_65 : decode cX9_readAll 65 = .ok (.aload_n 0, 1) := by decide +kernel
theorem dX9_readAll_66 : decode cX9_readAll 66 = .ok (.getfield 9, 3) := by decide +kernel
theorem dX9_readAll_69 : decode cX9_readAll 69 = .ok (.invokevirtual 46, 3) := by decide +kernel
theorem dX9_readAll_72 : decode cX9_readAll 72 = .ok (.istore_n 3, 1) := by decide +kernel
theorem dX9_readAll_73 : decode cX9_readAll 73 = .ok (.aload_n 0, 1) := by decide +kernel
theorem dX9_readAll_74 : decode cX9_readAll 74 = .ok (.iload_n 3, 1) := by decide +kernel
theorem dX9_readAll_75 : decode cX9_readAll 75 = .ok (.iload_n 2, 1) := by decide +kernel
theorem dX9_readAll_76 : decode cX9_readAll 76 = .ok (.invokevirtual 49, 3) := by decide +kernel
theorem dX9_readAll_79 : decode cX9_readAll 79 = .ok (.istore 4, 2) := by decide +kernel
theorem dX9_readAll_81 : decode cX9_readAll 81 = .ok (.iload 4, 2) := by decide +kernel
theorem dX9_readAll_83 : decode cX9_readAll 83 = .ok (.ifCond .ne 30, 3) := by decide +kernel
theorem dX9_readAll_86 : decode cX9_readAll 86 = .ok (.aload_n 0, 1) := by decide +kernel
theorem dX9_readAll_87 : decode cX9_readAll 87 = .ok (.iload_n 3, 1) := by decide +kernel
theorem dX9_readAll_88 : decode cX9_readAll 88 = .ok (.invokevirtual 53, 3) := by decide +kernel
theorem dX9_readAll_91 : decode cX9_readAll 91 = .ok (.aload_n 0, 1) := by decide +kernel
theorem dX9_readAll_92 : decode cX9_readAll 92 = .ok (.getfield 9, 3) := by decide +kernel
theorem dX9_readAll_95 : decode cX9_readAll 95 = .ok (.bipush 59, 2) := by decide +kernel
theorem dX9_readAll_97 : decode cX9_readAll 97 = .ok (.invokevirtual 57, 3) := by decide +kernel
theorem dX9_readAll_100 : decode cX9_readAll 100 = .ok (.aload_n 1, 1) := by decide +kernel
theorem dX9_readAll_101 : decode cX9_readAll 101 = .ok (.dup, 1) := by decide +kernel
theorem dX9_readAll_102 : decode cX9_readAll 102 = .ok (.getfield 60, 3) := by decide +kernel
theorem dX9_readAll_105 : decode cX9_readAll 105 = .ok (.iconst 1, 1) := by decide +kernel
theorem dX9_readAll_106 : decode cX9_readAll 106 = .ok (.iadd, 1) := by decide +kernel
theorem dX9_readAll_107 : decode cX9_readAll 107 = .ok (.putfield 60, 3) := by decide +kernel
theorem dX9_readAll_110 : decode cX9_readAll 110 = .ok (.goto 19, 3) := by decide +kernel
theorem dX9_readAll_113 : decode cX9_readAll 113 = .ok (.aload_n 0, 1) := by decide +kernel
theorem dX9_readAll_114 : decode cX9_readAll 114 = .ok (.getfield 9, 3) := by decide +kernel
theorem dX9_readAll_117 : decode cX9_readAll 117 = .ok (.iload 4, 2) := by decide +kernel
theorem dX9_readAll_119 : decode cX9_readAll 119 = .ok (.aload_n 0, 1) := by decide +kernel
theorem dX9_readAll_120 : decode cX9_readAll 120 = .ok (.getfield 9, 3) := by decide +kernel
theorem dX9_readAll_123 : decode cX9_readAll 123 = .ok (.getfield 38, 3) := by decide +kernel
theorem dX9_readAll_126 : decode cX9_readAll 126 = .ok (.invokevirtual 42, 3) := by decide +kernel
theorem dX9_readAll_129 : decode cX9_readAll 129 = .ok (.iinc 2 1, 3) := by decide +kernel
theorem dX9_readAll_132 : decode cX9_readAll 132 = .ok (.goto (-84), 3) := by decide +kernel
theorem dX9_readAll_135 : decode cX9_readAll 135 = .ok (.aload_n 1, 1) := by decide +kernel
theorem dX9_readAll_136 : decode cX9_readAll 136 = .ok (.getfield 24, 3) := by decide +kernel
theorem dX9_readAll_139 : decode cX9_readAll 139 = .ok (.invokevirtual 63, 3) := by decide +kernel
theorem dX9_readAll_142 : decode cX9_readAll 142 = .ok (.return_, 1) := by decide +kernel
theorem dX9_faultOf_0 : decode cX9_faultOf 0 = .ok (.iload_n 2, 1) := by decide +kernel
theorem dX9_faultOf_1 : decode cX9_faultOf 1 = .ok (.bipush 60, 2) := by decide +kernel
theorem dX9_faultOf_3 : decode cX9_faultOf 3 = .ok (.if_icmp .ge 11, 3) := by decide +kernel
theorem dX9_faultOf_6 : decode cX9_faultOf 6 = .ok (.aload_n 0, 1) := by decide +kernel
theorem dX9_faultOf_7 : decode cX9_faultOf 7 = .ok (.iload_n 1, 1) := by decide +kernel
theorem dX9_faultOf_8 : decode cX9_faultOf 8 = .ok (.invokevirtual 68, 3) := by decide +kernel
theorem dX9_faultOf_11 : decode cX9_faultOf 11 = .ok (.ifCond .eq 5, 3) := by decide +kernel
theorem dX9_faultOf_14 : decode cX9_faultOf 14 = .ok (.iconst 5, 1) := by decide +kernel
theorem dX9_faultOf_15 : decode cX9_faultOf 15 = .ok (.ireturn, 1) := by decide +kernel
theorem dX9_faultOf_16 : decode cX9_faultOf 16 = .ok (.iload_n 1, 1) := by decide +kernel
theorem dX9_faultOf_17 : decode cX9_faultOf 17 = .ok (.ifCond .ne 7, 3) := by decide +kernel
theorem dX9_faultOf_20 : decode cX9_faultOf 20 = .ok (.iconst 1, 1) := by decide +kernel
theorem dX9_faultOf_21 : decode cX9_faultOf 21 = .ok (.goto 4, 3) := by decide +kernel
theorem dX9_faultOf_24 : decode cX9_faultOf 24 = .ok (.iconst 0, 1) := by decide +kernel
theorem dX9_faultOf_25 : decode cX9_faultOf 25 = .ok (.iload_n 2, 1) := by decide +kernel
theorem dX9_faultOf_26 : decode cX9_faultOf 26 = .ok (.ifCond .ne 7, 3) := by decide +kernel
theorem dX9_faultOf_29 : decode cX9_faultOf 29 = .ok (.iconst 1, 1) := by decide +kernel
theorem dX9_faultOf_30 : decode cX9_faultOf 30 = .ok (.goto 4, 3) := by decide +kernel
theorem dX9_faultOf_33 : decode cX9_faultOf 33 = .ok (.iconst 0, 1) := by decide +kernel
theorem dX9_faultOf_34 : decode cX9_faultOf 34 = .ok (.if_icmp .eq 7, 3) := by decide +kernel
theorem dX9_faultOf_37 : decode cX9_faultOf 37 = .ok (.iconst 1, 1) := by decide +kernel
theorem dX9_faultOf_38 : decode cX9_faultOf 38 = .ok (.goto 4, 3) := by decide +kernel
theorem dX9_faultOf_41 : decode cX9_faultOf 41 = .ok (.iconst 0, 1) := by decide +kernel
theorem dX9_faultOf_42 : decode cX9_faultOf 42 = .ok (.ireturn, 1) := by decide +kernel
theorem dX9_isTooMany_0 : decode cX9_isTooMany 0 = .ok (.iload_n 1, 1) := by decide +kernel
theorem dX9_isTooMany_1 : decode cX9_isTooMany 1 = .ok (.tableswitch 157 1 13 #[67, 157, 157, 85, 157, 157, 157, 103, 157, 157, 121, 133, 145], 67) := by decide +kernel
theorem dX9_isTooMany_68 : decode cX9_isTooMany 68 = .ok (.aload_n 0, 1) := by decide +kernel
theorem dX9_isTooMany_69 : decode cX9_isTooMany 69 = .ok (.getfield 15, 3) := by decide +kernel
theorem dX9_isTooMany_72 : decode cX9_isTooMany 72 = .ok (.getfield 72, 3) := by decide +kernel
theorem dX9_isTooMany_75 : decode cX9_isTooMany 75 = .ok (.bipush 6, 2) := by decide +kernel
theorem dX9_isTooMany_77 : decode cX9_isTooMany 77 = .ok (.if_icmp .lt 7, 3) := by decide +kernel
theorem dX9_isTooMany_80 : decode cX9_isTooMany 80 = .ok (.iconst 1, 1) := by decide +kernel
theorem dX9_isTooMany_81 : decode cX9_isTooMany 81 = .ok (.goto 4, 3) := by decide +kernel
theorem dX9_isTooMany_84 : decode cX9_isTooMany 84 = .ok (.iconst 0, 1) := by decide +kernel
theorem dX9_isTooMany_85 : decode cX9_isTooMany 85 = .ok (.ireturn, 1) := by decide +kernel
theorem dX9_isTooMany_86 : decode cX9_isTooMany 86 = .ok (.aload_n 0, 1) := by decide +kernel
theorem dX9_isTooMany_87 : decode cX9_isTooMany 87 = .ok (.getfield 15, 3) := by decide +kernel
theorem dX9_isTooMany_90 : decode cX9_isTooMany 90 = .ok (.getfield 75, 3) := by decide +kernel
theorem dX9_isTooMany_93 : decode cX9_isTooMany 93 = .ok (.bipush 8, 2) := by decide +kernel
theorem dX9_isTooMany_95 : decode cX9_isTooMany 95 = .ok (.if_icmp .lt 7, 3) := by decide +kernel
theorem dX9_isTooMany_98 : decode cX9_isTooMany 98 = .ok (.iconst 1, 1) := by decide +kernel
theorem dX9_isTooMany_99 : decode cX9_isTooMany 99 = .ok (.goto 4, 3) := by decide +kernel
theorem dX9_isTooMany_102 : decode cX9_isTooMany 102 = .ok (.iconst 0, 1) := by decide +kernel
theorem dX9_isTooMany_103 : decode cX9_isTooMany 103 = .ok (.ireturn, 1) := by decide +kernel
theorem dX9_isTooMany_104 : decode cX9_isTooMany 104 = .ok (.aload_n 0, 1) := by decide +kernel
theorem dX9_isTooMany_105 : decode cX9_isTooMany 105 = .ok (.getfield 15, 3) := by decide +kernel
theorem dX9_isTooMany_108 : decode cX9_isTooMany 108 = .ok (.getfield 78, 3) := by decide +kernel
theorem dX9_isTooMany_111 : decode cX9_isTooMany 111 = .ok (.bipush 16, 2) := by decide +kernel
theorem dX9_isTooMany_113 : decode cX9_isTooMany 113 = .ok (.if_icmp .lt 7, 3) := by decide +kernel
theorem dX9_isTooMany_116 : decode cX9_isTooMany 116 = .ok (.iconst 1, 1) := by decide +kernel
theorem dX9_isTooMany_117 : decode cX9_isTooMany 117 = .ok (.goto 4, 3) := by decide +kernel
theorem dX9_isTooMany_120 : decode cX9_isTooMany 120 = .ok (.iconst 0, 1) := by decide +kernel
theorem dX9_isTooMany_121 : decode cX9_isTooMany 121 = .ok (.ireturn, 1) := by decide +kernel
theorem dX9_isTooMany_122 : decode cX9_isTooMany 122 = .ok (.aload_n 0, 1) := by decide +kernel
theorem dX9_isTooMany_123 : decode cX9_isTooMany 123 = .ok (.getfield 15, 3) := by decide +kernel
theorem dX9_isTooMany_126 : decode cX9_isTooMany 126 = .ok (.getfield 24, 3) := by decide +kernel
theorem dX9_isTooMany_129 : decode cX9_isTooMany 129 = .ok (.iconst 0, 1) := by decide +kernel
theorem dX9_isTooMany_130 : decode cX9_isTooMany 130 = .ok (.invokevirtual 81, 3) := by decide +kernel
theorem dX9_isTooMany_133 : decode cX9_isTooMany 133 = .ok (.ireturn, 1) := by decide +kernel
theorem dX9_isTooMany_134 : decode cX9_isTooMany 134 = .ok (.aload_n 0, 1) := by decide +kernel
theorem dX9_isTooMany_135 : decode cX9_isTooMany 135 = .ok (.getfield 15, 3) := by decide +kernel
theorem dX9_isTooMany_138 : decode cX9_isTooMany 138 = .ok (.getfield 24, 3) := by decide +kernel
theorem dX9_isTooMany_141 : decode cX9_isTooMany 141 = .ok (.iconst 1, 1) := by decide +kernel
theorem dX9_isTooMany_142 : decode cX9_isTooMany 142 = .ok (.invokevirtual 81, 3) := by decide +kernel
theorem dX9_isTooMany_145 : decode cX9_isTooMany 145 = .ok (.ireturn, 1) := by decide +kernel
theorem dX9_isTooMany_146 : decode cX9_isTooMany 146 = .ok (.aload_n 0, 1) := by decide +kernel
theorem dX9_isTooMany_147 : decode cX9_isTooMany 147 = .ok (.getfield 15, 3) := by decide +kernel
theorem dX9_isTooMany_150 : decode cX9_isTooMany 150 = .ok (.getfield 24, 3) := by decide +kernel
theorem dX9_isTooMany_153 : decode cX9_isTooMany 153 = .ok (.iconst 2, 1) := by decide +kernel
theorem dX9_isTooMany_154 : decode cX9_isTooMany 154 = .ok (.invokevirtual 81, 3) := by decide +kernel
theorem dX9_isTooMany_157 : decode cX9_isTooMany 157 = .ok (.ireturn, 1) := by decide +kernel
theorem dX9_isTooMany_158 : decode cX9_isTooMany 158 = .ok (.iconst 0, 1) := by decide +kernel
theorem dX9_isTooMany_159 : decode cX9_isTooMany 159 = .ok (.ireturn, 1) := by decide +kernel
theorem dX9_readOne_0 : decode cX9_readOne 0 = .ok (.aload_n 0, 1) := by decide +kernel
theorem dX9_readOne_1 : decode cX9_readOne 1 = .ok (.getfield 9, 3) := by decide +kernel
theorem dX9_readOne_4 : decode cX9_readOne 4 = .ok (.getfield 38, 3) := by decide +kernel
theorem dX9_readOne_7 : decode cX9_readOne 7 = .ok (.istore_n 2, 1) := by decide +kernel
theorem dX9_readOne_8 : decode cX9_readOne 8 = .ok (.aload_n 0, 1) := by decide +kernel
theorem dX9_readOne_9 : decode cX9_readOne 9 = .ok (.getfield 9, 3) := by decide +kernel
theorem dX9_readOne_12 : decode cX9_readOne 12 = .ok (.aload_n 0, 1) := by decide +kernel
theorem dX9_readOne_13 : decode cX9_readOne 13 = .ok (.getfield 9, 3) := by decide +kernel
theorem dX9_readOne_16 : decode cX9_readOne 16 = .ok (.getfield 84, 3) := by decide +kernel
theorem dX9_readOne_19 : decode cX9_readOne 19 = .ok (.putfield 38, 3) := by decide +kernel
theorem dX9_readOne_22 : decode cX9_readOne 22 = .ok (.iload_n 1, 1) := by decide +kernel
theorem dX9_readOne_23 : decode cX9_readOne 23 = .ok (.tableswitch 222 0 14 #[73, 93, 222, 222, 100, 222, 107, 222, 114, 222, 121, 142, 162, 182, 202], 73) := by decide +kernel
theorem dX9_readOne_96 : decode cX9_readOne 96 = .ok (.aload_n 0, 1) := by decide +kernel
theorem dX9_readOne_97 : decode cX9_readOne 97 = .ok (.getfield 15, 3) := by decide +kernel
theorem dX9_readOne_100 : decode cX9_readOne 100 = .ok (.aload_n 0, 1) := by decide +kernel
theorem dX9_readOne_101 : decode cX9_readOne 101 = .ok (.getfield 9, 3) := by decide +kernel
theorem dX9_readOne_104 : decode cX9_readOne 104 = .ok (.iconst 2, 1) := by decide +kernel
theorem dX9_readOne_105 : decode cX9_readOne 105 = .ok (.bipush 30, 2) := by decide +kernel
theorem dX9_readOne_107 : decode cX9_readOne 107 = .ok (.invokevirtual 87, 3) := by decide +kernel
theorem dX9_readOne_110 : decode cX9_readOne 110 = .ok (.putfield 90, 3) := by decide +kernel
theorem dX9_readOne_113 : decode cX9_readOne 113 = .ok (.goto 141, 3) := by decide +kernel
theorem dX9_readOne_116 : decode cX9_readOne 116 = .ok (.aload_n 0, 1) := by decide +kernel
theorem dX9_readOne_117 : decode cX9_readOne 117 = .ok (.invokevirtual 93, 3) := by decide +kernel
theorem dX9_readOne_120 : decode cX9_readOne 120 = .ok (.goto 134, 3) := by decide +kernel
theorem dX9_readOne_123 : decode cX9_readOne 123 = .ok (.aload_n 0, 1) := by decide +kernel
theorem dX9_readOne_124 : decode cX9_readOne 124 = .ok (.invokevirtual 96, 3) := by decide +kernel
theorem dX9_readOne_127 : decode cX9_readOne 127 = .ok (.goto 127, 3) := by decide +kernel
theorem dX9_readOne_130 : decode cX9_readOne 130 = .ok (.aload_n 0, 1) := by decide +kernel
theorem dX9_readOne_131 : decode cX9_readOne 131 = .ok (.invokevirtual 99, 3) := by decide +kernel
theorem dX9_readOne_134 : decode cX9_readOne 134 = .ok (.goto 120, 3) := by decide +kernel
theorem dX9_readOne_137 : decode cX9_readOne 137 = .ok (.aload_n 0, 1) := by decide +kernel
theorem dX9_readOne_138 : decode cX9_readOne 138 = .ok (.invokevirtual 102, 3) := by decide +kernel
theorem dX9_readOne_141 : decode cX9_readOne 141 = .ok (.goto 113, 3) := by decide +kernel
theorem dX9_readOne_144 : decode cX9_readOne 144 = .ok (.aload_n 0, 1) := by decide +kernel
theorem dX9_readOne_145 : decode cX9_readOne 145 = .ok (.getfield 15, 3) := by decide +kernel
theorem dX9_readOne_148 : decode cX9_readOne 148 = .ok (.aload_n 0, 1) := by decide +kernel
theorem dX9_readOne_149 : decode cX9_readOne 149 = .ok (.getfield 9, 3) := by decide +kernel
theorem dX9_readOne_152 : decode cX9_readOne 152 = .ok (.iconst 0, 1) := by decide +kernel
theorem dX9_readOne_153 : decode cX9_readOne 153 = .ok (.sipush 999, 3) := by decide +kernel
theorem dX9_readOne_156 : decode cX9_readOne 156 = .ok (.invokevirtual 87, 3) := by decide +kernel
theorem dX9_readOne_159 : decode cX9_readOne 159 = .ok (.putfield 105, 3) := by decide +kernel
theorem dX9_readOne_162 : decode cX9_readOne 162 = .ok (.goto 92, 3) := by decide +kernel
theorem dX9_readOne_165 : decode cX9_readOne 165 = .ok (.aload_n 0, 1) := by decide +kernel
theorem dX9_readOne_166 : decode cX9_readOne 166 = .ok (.getfield 9, 3) := by decide +kernel
theorem dX9_readOne_169 : decode cX9_readOne 169 = .ok (.iconst 0, 1) := by decide +kernel
theorem dX9_readOne_170 : decode cX9_readOne 170 = .ok (.ldc 108, 2) := by decide +kernel
theorem dX9_readOne_172 : decode cX9_readOne 172 = .ok (.invokevirtual 109, 3) := by decide +kernel
theorem dX9_readOne_175 : decode cX9_readOne 175 = .ok (.aload_n 0, 1) := by decide +kernel
theorem dX9_readOne_176 : decode cX9_readOne 176 = .ok (.getfield 9, 3) := by decide +kernel
theorem dX9_readOne_179 : decode cX9_readOne 179 = .ok (.invokevirtual 112, 3) := by decide +kernel
theorem dX9_readOne_182 : decode cX9_readOne 182 = .ok (.goto 72, 3) := by decide +kernel
theorem dX9_readOne_185 : decode cX9_readOne 185 = .ok (.aload_n 0, 1) := by decide +kernel
theorem dX9_readOne_186 : decode cX9_readOne 186 = .ok (.getfield 9, 3) := by decide +kernel
theorem dX9_readOne_189 : decode cX9_readOne 189 = .ok (.iconst 1, 1) := by decide +kernel
theorem dX9_readOne_190 : decode cX9_readOne 190 = .ok (.ldc 115, 2) := by decide +kernel
theorem dX9_readOne_192 : decode cX9_readOne 192 = .ok (.invokevirtual 109, 3) := by decide +kernel
theorem dX9_readOne_195 : decode cX9_readOne 195 = .ok (.aload_n 0, 1) := by decide +kernel
theorem dX9_readOne_196 : decode cX9_readOne 196 = .ok (.getfield 9, 3) := by decide +kernel
theorem dX9_readOne_199 : decode cX9_readOne 199 = .ok (.invokevirtual 112, 3) := by decide +kernel
theorem dX9_readOne_202 : decode cX9_readOne 202 = .ok (.goto 52, 3) := by decide +kernel
theorem dX9_readOne_205 : decode cX9_readOne 205 = .ok (.aload_n 0, 1) := by decide +kernel
theorem dX9_readOne_206 : decode cX9_readOne 206 = .ok (.getfield 9, 3) := by decide +kernel
theorem dX9_readOne_209 : decode cX9_readOne 209 = .ok (.iconst 2, 1) := by decide +kernel
theorem dX9_readOne_210 : decode cX9_readOne 210 = .ok (.ldc 116, 2) := by decide +kernel
theorem dX9_readOne_212 : decode cX9_readOne 212 = .ok (.invokevirtual 109, 3) := by decide +kernel
theorem dX9_readOne_215 : decode cX9_readOne 215 = .ok (.aload_n 0, 1) := by decide +kernel
theorem dX9_readOne_216 : decode cX9_readOne 216 = .ok (.getfield 9, 3) := by decide +kernel
theorem dX9_readOne_219 : decode cX9_readOne 219 = .ok (.invokevirtual 117, 3) := by decide +kernel
theorem dX9_readOne_222 : decode cX9_readOne 222 = .ok (.goto 32, 3) := by decide +kernel
theorem dX9_readOne_225 : decode cX9_readOne 225 = .ok (.aload_n 0, 1) := by decide +kernel
theorem dX9_readOne_226 : decode cX9_readOne 226 = .ok (.getfield 15, 3) := by decide +kernel
theorem dX9_readOne_229 : decode cX9_readOne 229 = .ok (.aload_n 0, 1) := by decide +kernel
theorem dX9_readOne_230 : decode cX9_readOne 230 = .ok (.getfield 9, 3) := by decide +kernel
theorem dX9_readOne_233 : decode cX9_readOne 233 = .ok (.iconst 0, 1) := by decide +kernel
theorem dX9_readOne_234 : decode cX9_readOne 234 = .ok (.bipush 100, 2) := by decide +kernel
theorem dX9_readOne_236 : decode cX9_readOne 236 = .ok (.invokevirtual 87, 3) := by decide +kernel
theorem dX9_readOne_239 : decode cX9_readOne 239 = .ok (.putfield 120, 3) := by decide +kernel
theorem dX9_readOne_242 : decode cX9_readOne 242 = .ok (.goto 12, 3) := by decide +kernel
theorem dX9_readOne_245 : decode cX9_readOne 245 = .ok (.aload_n 0, 1) := by decide +kernel
theorem dX9_readOne_246 : decode cX9_readOne 246 = .ok (.getfield 9, 3) := by decide +kernel
theorem dX9_readOne_249 : decode cX9_readOne 249 = .ok (.iconst 1, 1) := by decide +kernel
theorem dX9_readOne_250 : decode cX9_readOne 250 = .ok (.iload_n 2, 1) := by decide +kernel
theorem dX9_readOne_251 : decode cX9_readOne 251 = .ok (.invokevirtual 42, 3) := by decide +kernel
theorem dX9_readOne_254 : decode cX9_readOne 254 = .ok (.return_, 1) := by decide +kernel
theorem dX9_readPerson_0 : decode cX9_readPerson 0 = .ok (.aload_n 0, 1) := by decide +kernel
theorem dX9_readPerson_1 : decode cX9_readPerson 1 = .ok (.getfield 9, 3) := by decide +kernel
theorem dX9_readPerson_4 : decode cX9_readPerson 4 = .ok (.invokevirtual 123, 3) := by decide +kernel
theorem dX9_readPerson_7 : decode cX9_readPerson 7 = .ok (.istore_n 1, 1) := by decide +kernel
theorem dX9_readPerson_8 : decode cX9_readPerson 8 = .ok (.aload_n 0, 1) := by decide +kernel
theorem dX9_readPerson_9 : decode cX9_readPerson 9 = .ok (.iload_n 1, 1) := by decide +kernel
theorem dX9_readPerson_10 : decode cX9_readPerson 10 = .ok (.invokevirtual 126, 3) := by decide +kernel
theorem dX9_readPerson_13 : decode cX9_readPerson 13 = .ok (.aload_n 0, 1) := by decide +kernel
theorem dX9_readPerson_14 : decode cX9_readPerson 14 = .ok (.getfield 9, 3) := by decide +kernel
theorem dX9_readPerson_17 : decode cX9_readPerson 17 = .ok (.iconst 2, 1) := by decide +kernel
theorem dX9_readPerson_18 : decode cX9_readPerson 18 = .ok (.invokevirtual 129, 3) := by decide +kernel
theorem dX9_readPerson_21 : decode cX9_readPerson 21 = .ok (.aload_n 0, 1) := by decide +kernel
theorem dX9_readPerson_22 : decode cX9_readPerson 22 = .ok (.getfield 9, 3) := by decide +kernel
theorem dX9_readPerson_25 : decode cX9_readPerson 25 = .ok (.iconst 0, 1) := by decide +kernel
theorem dX9_readPerson_26 : decode cX9_readPerson 26 = .ok (.aload_n 0, 1) := by decide +kernel
theorem dX9_readPerson_27 : decode cX9_readPerson 27 = .ok (.getfield 15, 3) := by decide +kernel
theorem dX9_readPerson_30 : decode cX9_readPerson 30 = .ok (.getfield 90, 3) := by decide +kernel
theorem dX9_readPerson_33 : decode cX9_readPerson 33 = .ok (.iconst 1, 1) := by decide +kernel
theorem dX9_readPerson_34 : decode cX9_readPerson 34 = .ok (.isub, 1) := by decide +kernel
theorem dX9_readPerson_35 : decode cX9_readPerson 35 = .ok (.invokevirtual 87, 3) := by decide +kernel
theorem dX9_readPerson_38 : decode cX9_readPerson 38 = .ok (.istore_n 2, 1) := by decide +kernel
theorem dX9_readPerson_39 : decode cX9_readPerson 39 = .ok (.aload_n 0, 1) := by decide +kernel
theorem dX9_readPerson_40 : decode cX9_readPerson 40 = .ok (.getfield 9, 3) := by decide +kernel
theorem dX9_readPerson_43 : decode cX9_readPerson 43 = .ok (.iconst 3, 1) := by decide +kernel
theorem dX9_readPerson_44 : decode cX9_readPerson 44 = .ok (.invokevirtual 129, 3) := by decide +kernel
theorem dX9_readPerson_47 : decode cX9_readPerson 47 = .ok (.aload_n 0, 1) := by decide +kernel
theorem dX9_readPerson_48 : decode cX9_readPerson 48 = .ok (.getfield 9, 3) := by decide +kernel
theorem dX9_readPerson_51 : decode cX9_readPerson 51 = .ok (.iconst 0, 1) := by decide +kernel
theorem dX9_readPerson_52 : decode cX9_readPerson 52 = .ok (.bipush 9, 2) := by decide +kernel
theorem dX9_readPerson_54 : decode cX9_readPerson 54 = .ok (.invokevirtual 87, 3) := by decide +kernel
theorem dX9_readPerson_57 : decode cX9_readPerson 57 = .ok (.istore_n 3, 1) := by decide +kernel
theorem dX9_readPerson_58 : decode cX9_readPerson 58 = .ok (.aload_n 0, 1) := by decide +kernel
theorem dX9_readPerson_59 : decode cX9_readPerson 59 = .ok (.getfield 15, 3) := by decide +kernel
theorem dX9_readPerson_62 : decode cX9_readPerson 62 = .ok (.iload_n 1, 1) := by decide +kernel
theorem dX9_readPerson_63 : decode cX9_readPerson 63 = .ok (.iload_n 2, 1) := by decide +kernel
theorem dX9_readPerson_64 : decode cX9_readPerson 64 = .ok (.iload_n 3, 1) := by decide +kernel
theorem dX9_readPerson_65 : decode cX9_readPerson 65 = .ok (.invokevirtual 132, 3) := by decide +kernel
theorem dX9_readPerson_68 : decode cX9_readPerson 68 = .ok (.return_, 1) := by decide +kernel
theorem dX9_readLie_0 : decode cX9_readLie 0 = .ok (.aload_n 0, 1) := by decide +kernel
theorem dX9_readLie_1 : decode cX9_readLie 1 = .ok (.getfield 9, 3) := by decide +kernel
theorem dX9_readLie_4 : decode cX9_readLie 4 = .ok (.invokevirtual 123, 3) := by decide +kernel
theorem dX9_readLie_7 : decode cX9_readLie 7 = .ok (.istore_n 1, 1) := by decide +kernel
theorem dX9_readLie_8 : decode cX9_readLie 8 = .ok (.aload_n 0, 1) := by decide +kernel
theorem dX9_readLie_9 : decode cX9_readLie 9 = .ok (.iload_n 1, 1) := by decide +kernel
theorem dX9_readLie_10 : decode cX9_readLie 10 = .ok (.invokevirtual 126, 3) := by decide +kernel
theorem dX9_readLie_13 : decode cX9_readLie 13 = .ok (.aload_n 0, 1) := by decide +kernel
theorem dX9_readLie_14 : decode cX9_readLie 14 = .ok (.getfield 9, 3) := by decide +kernel
theorem dX9_readLie_17 : decode cX9_readLie 17 = .ok (.iconst 5, 1) := by decide +kernel
theorem dX9_readLie_18 : decode cX9_readLie 18 = .ok (.invokevirtual 129, 3) := by decide +kernel
theorem dX9_readLie_21 : decode cX9_readLie 21 = .ok (.aload_n 0, 1) := by decide +kernel
theorem dX9_readLie_22 : decode cX9_readLie 22 = .ok (.getfield 15, 3) := by decide +kernel
theorem dX9_readLie_25 : decode cX9_readLie 25 = .ok (.aload_n 0, 1) := by decide +kernel
theorem dX9_readLie_26 : decode cX9_readLie 26 = .ok (.getfield 9, 3) := by decide +kernel
theorem dX9_readLie_29 : decode cX9_readLie 29 = .ok (.invokevirtual 123, 3) := by decide +kernel
theorem dX9_readLie_32 : decode cX9_readLie 32 = .ok (.invokevirtual 136, 3) := by decide +kernel
theorem dX9_readLie_35 : decode cX9_readLie 35 = .ok (.istore_n 2, 1) := by decide +kernel
theorem dX9_readLie_36 : decode cX9_readLie 36 = .ok (.aload_n 0, 1) := by decide +kernel
theorem dX9_readLie_37 : decode cX9_readLie 37 = .ok (.iload_n 2, 1) := by decide +kernel
theorem dX9_readLie_38 : decode cX9_readLie 38 = .ok (.invokevirtual 140, 3) := by decide +kernel
theorem dX9_readLie_41 : decode cX9_readLie 41 = .ok (.aload_n 0, 1) := by decide +kernel
theorem dX9_readLie_42 : decode cX9_readLie 42 = .ok (.getfield 15, 3) := by decide +kernel
theorem dX9_readLie_45 : decode cX9_readLie 45 = .ok (.iload_n 1, 1) := by decide +kernel
theorem dX9_readLie_46 : decode cX9_readLie 46 = .ok (.iload_n 2, 1) := by decide +kernel
theorem dX9_readLie_47 : decode cX9_readLie 47 = .ok (.invokevirtual 143, 3) := by decide +kernel
theorem dX9_readLie_50 : decode cX9_readLie 50 = .ok (.return_, 1) := by decide +kernel
theorem dX9_readHangs_0 : decode cX9_readHangs 0 = .ok (.aload_n 0, 1) := by decide +kernel
theorem dX9_readHangs_1 : decode cX9_readHangs 1 = .ok (.getfield 15, 3) := by decide +kernel
theorem dX9_readHangs_4 : decode cX9_readHangs 4 = .ok (.aload_n 0, 1) := by decide +kernel
theorem dX9_readHangs_5 : decode cX9_readHangs 5 = .ok (.getfield 9, 3) := by decide +kernel
theorem dX9_readHangs_8 : decode cX9_readHangs 8 = .ok (.invokevirtual 123, 3) := by decide +kernel
theorem dX9_readHangs_11 : decode cX9_readHangs 11 = .ok (.invokevirtual 146, 3) := by decide +kernel
theorem dX9_readHangs_14 : decode cX9_readHangs 14 = .ok (.istore_n 1, 1) := by decide +kernel
theorem dX9_readHangs_15 : decode cX9_readHangs 15 = .ok (.aload_n 0, 1) := by decide +kernel
theorem dX9_readHangs_16 : decode cX9_readHangs 16 = .ok (.iload_n 1, 1) := by decide +kernel
theorem dX9_readHangs_17 : decode cX9_readHangs 17 = .ok (.invokevirtual 140, 3) := by decide +kernel
theorem dX9_readHangs_20 : decode cX9_readHangs 20 = .ok (.iload_n 1, 1) := by decide +kernel
theorem dX9_readHangs_21 : decode cX9_readHangs 21 = .ok (.ifCond .lt 31, 3) := by decide +kernel
theorem dX9_readHangs_24 : decode cX9_readHangs 24 = .ok (.aload_n 0, 1) := by decide +kernel
theorem dX9_readHangs_25 : decode cX9_readHangs 25 = .ok (.getfield 15, 3) := by decide +kernel
theorem dX9_readHangs_28 : decode cX9_readHangs 28 = .ok (.getfield 149, 3) := by decide +kernel
theorem dX9_readHangs_31 : decode cX9_readHangs 31 = .ok (.iload_n 1, 1) := by decide +kernel
theorem dX9_readHangs_32 : decode cX9_readHangs 32 = .ok (.iaload, 1) := by decide +kernel
theorem dX9_readHangs_33 : decode cX9_readHangs 33 = .ok (.iconst (-1), 1) := by decide +kernel
theorem dX9_readHangs_34 : decode cX9_readHangs 34 = .ok (.if_icmp .eq 18, 3) := by decide +kernel
theorem dX9_readHangs_37 : decode cX9_readHangs 37 = .ok (.aload_n 0, 1) := by decide +kernel
theorem dX9_readHangs_38 : decode cX9_readHangs 38 = .ok (.getfield 9, 3) := by decide +kernel
theorem dX9_readHangs_41 : decode cX9_readHangs 41 = .ok (.iconst 3, 1) := by decide +kernel
theorem dX9_readHangs_42 : decode cX9_readHangs 42 = .ok (.aload_n 0, 1) := by decide +kernel
theorem dX9_readHangs_43 : decode cX9_readHangs 43 = .ok (.getfield 9, 3) := by decide +kernel
theorem dX9_readHangs_46 : decode cX9_readHangs 46 = .ok (.getfield 153, 3) := by decide +kernel
theorem dX9_readHangs_49 : decode cX9_readHangs 49 = .ok (.invokevirtual 42, 3) := by decide +kernel
theorem dX9_readHangs_52 : decode cX9_readHangs 52 = .ok (.aload_n 0, 1) := by decide +kernel
theorem dX9_readHangs_53 : decode cX9_readHangs 53 = .ok (.getfield 9, 3) := by decide +kernel
theorem dX9_readHangs_56 : decode cX9_readHangs 56 = .ok (.bipush 7, 2) := by decide +kernel
theorem dX9_readHangs_58 : decode cX9_readHangs 58 = .ok (.invokevirtual 129, 3) := by decide +kernel
theorem dX9_readHangs_61 : decode cX9_readHangs 61 = .ok (.aload_n 0, 1) := by decide +kernel
theorem dX9_readHangs_62 : decode cX9_readHangs 62 = .ok (.getfield 15, 3) := by decide +kernel
theorem dX9_readHangs_65 : decode cX9_readHangs 65 = .ok (.aload_n 0, 1) := by decide +kernel
theorem dX9_readHangs_66 : decode cX9_readHangs 66 = .ok (.getfield 9, 3) := by decide +kernel
theorem dX9_readHangs_69 : decode cX9_readHangs 69 = .ok (.invokevirtual 123, 3) := by decide +kernel
theorem dX9_readHangs_72 : decode cX9_readHangs 72 = .ok (.invokevirtual 146, 3) := by decide +kernel
theorem dX9_readHangs_75 : decode cX9_readHangs 75 = .ok (.istore_n 2, 1) := by decide +kernel
theorem dX9_readHangs_76 : decode cX9_readHangs 76 = .ok (.aload_n 0, 1) := by decide +kernel
theorem dX9_readHangs_77 : decode cX9_readHangs 77 = .ok (.iload_n 2, 1) := by decide +kernel
theorem dX9_readHangs_78 : decode cX9_readHangs 78 = .ok (.invokevirtual 140, 3) := by decide +kernel
theorem dX9_readHangs_81 : decode cX9_readHangs 81 = .ok (.iload_n 2, 1) := by decide +kernel
theorem dX9_readHangs_82 : decode cX9_readHangs 82 = .ok (.iload_n 1, 1) := by decide +kernel
theorem dX9_readHangs_83 : decode cX9_readHangs 83 = .ok (.if_icmp .lt 21, 3) := by decide +kernel
theorem dX9_readHangs_86 : decode cX9_readHangs 86 = .ok (.aload_n 0, 1) := by decide +kernel
theorem dX9_readHangs_87 : decode cX9_readHangs 87 = .ok (.getfield 9, 3) := by decide +kernel
theorem dX9_readHangs_90 : decode cX9_readHangs 90 = .ok (.iconst 3, 1) := by decide +kernel
theorem dX9_readHangs_91 : decode cX9_readHangs 91 = .ok (.aload_n 0, 1) := by decide +kernel
theorem dX9_readHangs_92 : decode cX9_readHangs 92 = .ok (.getfield 9, 3) := by decide +kernel
theorem dX9_readHangs_95 : decode cX9_readHangs 95 = .ok (.getfield 153, 3) := by decide +kernel
theorem dX9_readHangs_98 : decode cX9_readHangs 98 = .ok (.invokevirtual 42, 3) := by decide +kernel
theorem dX9_readHangs_101 : decode cX9_readHangs 101 = .ok (.goto 17, 3) := by decide +kernel
theorem dX9_readHangs_104 : decode cX9_readHangs 104 = .ok (.iload_n 1, 1) := by decide +kernel
theorem dX9_readHangs_105 : decode cX9_readHangs 105 = .ok (.ifCond .lt 13, 3) := by decide +kernel
theorem dX9_readHangs_108 : decode cX9_readHangs 108 = .ok (.aload_n 0, 1) := by decide +kernel
theorem dX9_readHangs_109 : decode cX9_readHangs 109 = .ok (.getfield 15, 3) := by decide +kernel
theorem dX9_readHangs_112 : decode cX9_readHangs 112 = .ok (.getfield 149, 3) := by decide +kernel
theorem dX9_readHangs_115 : decode cX9_readHangs 115 = .ok (.iload_n 1, 1) := by decide +kernel
theorem dX9_readHangs_116 : decode cX9_readHangs 116 = .ok (.iload_n 2, 1) := by decide +kernel
theorem dX9_readHangs_117 : decode cX9_readHangs 117 = .ok (.iastore, 1) := by decide +kernel
theorem dX9_readHangs_118 : decode cX9_readHangs 118 = .ok (.return_, 1) := by decide +kernel
theorem dX9_readLight_0 : decode cX9_readLight 0 = .ok (.aload_n 0, 1) := by decide +kernel
theorem dX9_readLight_1 : decode cX9_readLight 1 = .ok (.getfield 15, 3) := by decide +kernel
theorem dX9_readLight_4 : decode cX9_readLight 4 = .ok (.aload_n 0, 1) := by decide +kernel
theorem dX9_readLight_5 : decode cX9_readLight 5 = .ok (.getfield 9, 3) := by decide +kernel
theorem dX9_readLight_8 : decode cX9_readLight 8 = .ok (.invokevirtual 123, 3) := by decide +kernel
theorem dX9_readLight_11 : decode cX9_readLight 11 = .ok (.invokevirtual 146, 3) := by decide +kernel
theorem dX9_readLight_14 : decode cX9_readLight 14 = .ok (.istore_n 1, 1) := by decide +kernel
theorem dX9_readLight_15 : decode cX9_readLight 15 = .ok (.aload_n 0, 1) := by decide +kernel
theorem dX9_readLight_16 : decode cX9_readLight 16 = .ok (.iload_n 1, 1) := by decide +kernel
theorem dX9_readLight_17 : decode cX9_readLight 17 = .ok (.invokevirtual 140, 3) := by decide +kernel
theorem dX9_readLight_20 : decode cX9_readLight 20 = .ok (.aload_n 0, 1) := by decide +kernel
theorem dX9_readLight_21 : decode cX9_readLight 21 = .ok (.getfield 9, 3) := by decide +kernel
theorem dX9_readLight_24 : decode cX9_readLight 24 = .ok (.iconst 2, 1) := by decide +kernel
theorem dX9_readLight_25 : decode cX9_readLight 25 = .ok (.invokevirtual 129, 3) := by decide +kernel
theorem dX9_readLight_28 : decode cX9_readLight 28 = .ok (.aload_n 0, 1) := by decide +kernel
theorem dX9_readLight_29 : decode cX9_readLight 29 = .ok (.getfield 9, 3) := by decide +kernel
theorem dX9_readLight_32 : decode cX9_readLight 32 = .ok (.iconst 0, 1) := by decide +kernel
theorem dX9_readLight_33 : decode cX9_readLight 33 = .ok (.sipush 999, 3) := by decide +kernel
theorem dX9_readLight_36 : decode cX9_readLight 36 = .ok (.invokevirtual 87, 3) := by decide +kernel
theorem dX9_readLight_39 : decode cX9_readLight 39 = .ok (.istore_n 2, 1) := by decide +kernel
theorem dX9_readLight_40 : decode cX9_readLight 40 = .ok (.aload_n 0, 1) := by decide +kernel
theorem dX9_readLight_41 : decode cX9_readLight 41 = .ok (.getfield 9, 3) := by decide +kernel
theorem dX9_readLight_44 : decode cX9_readLight 44 = .ok (.bipush 9, 2) := by decide +kernel
theorem dX9_readLight_46 : decode cX9_readLight 46 = .ok (.invokevirtual 129, 3) := by decide +kernel
theorem dX9_readLight_49 : decode cX9_readLight 49 = .ok (.aload_n 0, 1) := by decide +kernel
theorem dX9_readLight_50 : decode cX9_readLight 50 = .ok (.getfield 9, 3) := by decide +kernel
theorem dX9_readLight_53 : decode cX9_readLight 53 = .ok (.iconst 1, 1) := by decide +kernel
theorem dX9_readLight_54 : decode cX9_readLight 54 = .ok (.bipush 99, 2) := by decide +kernel
theorem dX9_readLight_56 : decode cX9_readLight 56 = .ok (.invokevirtual 87, 3) := by decide +kernel
theorem dX9_readLight_59 : decode cX9_readLight 59 = .ok (.istore_n 3, 1) := by decide +kernel
theorem dX9_readLight_60 : decode cX9_readLight 60 = .ok (.aload_n 0, 1) := by decide +kernel
theorem dX9_readLight_61 : decode cX9_readLight 61 = .ok (.getfield 15, 3) := by decide +kernel
theorem dX9_readLight_64 : decode cX9_readLight 64 = .ok (.iload_n 1, 1) := by decide +kernel
theorem dX9_readLight_65 : decode cX9_readLight 65 = .ok (.iload_n 2, 1) := by decide +kernel
theorem dX9_readLight_66 : decode cX9_readLight 66 = .ok (.iload_n 3, 1) := by decide +kernel
theorem dX9_readLight_67 : decode cX9_readLight 67 = .ok (.invokevirtual 156, 3) := by decide +kernel
theorem dX9_readLight_70 : decode cX9_readLight 70 = .ok (.return_, 1) := by decide +kernel
theorem dX9_refuseKnown_0 : decode cX9_refuseKnown 0 = .ok (.aload_n 0, 1) := by decide +kernel
theorem dX9_refuseKnown_1 : decode cX9_refuseKnown 1 = .ok (.getfield 15, 3) := by decide +kernel
theorem dX9_refuseKnown_4 : decode cX9_refuseKnown 4 = .ok (.iload_n 1, 1) := by decide +kernel
theorem dX9_refuseKnown_5 : decode cX9_refuseKnown 5 = .ok (.invokevirtual 136, 3) := by decide +kernel
theorem dX9_refuseKnown_8 : decode cX9_refuseKnown 8 = .ok (.iconst (-1), 1) := by decide +kernel
theorem dX9_refuseKnown_9 : decode cX9_refuseKnown 9 = .ok (.if_icmp .ne 15, 3) := by decide +kernel
theorem dX9_refuseKnown_12 : decode cX9_refuseKnown 12 = .ok (.aload_n 0, 1) := by decide +kernel
theorem dX9_refuseKnown_13 : decode cX9_refuseKnown 13 = .ok (.getfield 15, 3) := by decide +kernel
theorem dX9_refuseKnown_16 : decode cX9_refuseKnown 16 = .ok (.iload_n 1, 1) := by decide +kernel
theorem dX9_refuseKnown_17 : decode cX9_refuseKnown 17 = .ok (.invokevirtual 146, 3) := by decide +kernel
theorem dX9_refuseKnown_20 : decode cX9_refuseKnown 20 = .ok (.iconst (-1), 1) := by decide +kernel
theorem dX9_refuseKnown_21 : decode cX9_refuseKnown 21 = .ok (.if_icmp .eq 18, 3) := by decide +kernel
theorem dX9_refuseKnown_24 : decode cX9_refuseKnown 24 = .ok (.aload_n 0, 1) := by decide +kernel
theorem dX9_refuseKnown_25 : decode cX9_refuseKnown 25 = .ok (.getfield 9, 3) := by decide +kernel
theorem dX9_refuseKnown_28 : decode cX9_refuseKnown 28 = .ok (.iconst 3, 1) := by decide +kernel
theorem dX9_refuseKnown_29 : decode cX9_refuseKnown 29 = .ok (.aload_n 0, 1) := by decide +kernel
theorem dX9_refuseKnown_30 : decode cX9_refuseKnown 30 = .ok (.getfield 9, 3) := by decide +kernel
theorem dX9_refuseKnown_33 : decode cX9_refuseKnown 33 = .ok (.getfield 153, 3) := by decide +kernel
theorem dX9_refuseKnown_36 : decode cX9_refuseKnown 36 = .ok (.invokevirtual 42, 3) := by decide +kernel
theorem dX9_refuseKnown_39 : decode cX9_refuseKnown 39 = .ok (.return_, 1) := by decide +kernel
theorem dX9_refuseNone_0 : decode cX9_refuseNone 0 = .ok (.iload_n 1, 1) := by decide +kernel
theorem dX9_refuseNone_1 : decode cX9_refuseNone 1 = .ok (.iconst (-1), 1) := by decide +kernel
theorem dX9_refuseNone_2 : decode cX9_refuseNone 2 = .ok (.if_icmp .ne 18, 3) := by decide +kernel
theorem dX9_refuseNone_5 : decode cX9_refuseNone 5 = .ok (.aload_n 0, 1) := by decide +kernel
theorem dX9_refuseNone_6 : decode cX9_refuseNone 6 = .ok (.getfield 9, 3) := by decide +kernel
theorem dX9_refuseNone_9 : decode cX9_refuseNone 9 = .ok (.iconst 3, 1) := by decide +kernel
theorem dX9_refuseNone_10 : decode cX9_refuseNone 10 = .ok (.aload_n 0, 1) := by decide +kernel
theorem dX9_refuseNone_11 : decode cX9_refuseNone 11 = .ok (.getfield 9, 3) := by decide +kernel
theorem dX9_refuseNone_14 : decode cX9_refuseNone 14 = .ok (.getfield 153, 3) := by decide +kernel
theorem dX9_refuseNone_17 : decode cX9_refuseNone 17 = .ok (.invokevirtual 42, 3) := by decide +kernel
theorem dX9_refuseNone_20 : decode cX9_refuseNone 20 = .ok (.return_, 1) := by decide +kernel
theorem dX10_init_0 : decode cX10_init 0 = .ok (.aload_n 0, 1) := by decide +kernel
theorem dX10_init_1 : decode cX10_init 1 = .ok (.invokespecial 3, 3) := by decide +kernel
theorem dX10_init_4 : decode cX10_init 4 = .ok (.aload_n 0, 1) := by decide +kernel
theorem dX10_init_5 : decode cX10_init 5 = .ok (.sipush 1600, 3) := by decide +kernel
theorem dX10_init_8 : decode cX10_init 8 = .ok (.newarray .int, 2) := by decide +kernel
theorem dX10_init_10 : decode cX10_init 10 = .ok (.putfield 9, 3) := by decide +kernel
theorem dX10_init_13 : decode cX10_init 13 = .ok (.aload_n 0, 1) := by decide +kernel
theorem dX10_init_14 : decode cX10_init 14 = .ok (.iconst 0, 1) := by decide +kernel
theorem dX10_init_15 : decode cX10_init 15 = .ok (.putfield 15, 3) := by decide +kernel
theorem dX10_init_18 : decode cX10_init 18 = .ok (.return_, 1) := by decide +kernel
theorem dX10_append_0 : decode cX10_append 0 = .ok (.bipush 24, 2) := by decide +kernel
theorem dX10_append_2 : decode cX10_append 2 = .ok (.istore_n 2, 1) := by decide +kernel
theorem dX10_append_3 : decode cX10_append 3 = .ok (.iload_n 2, 1) := by decide +kernel
theorem dX10_append_4 : decode cX10_append 4 = .ok (.ifCond .lt 42, 3) := by decide +kernel
theorem dX10_append_7 : decode cX10_append 7 = .ok (.aload_n 0, 1) := by decide +kernel
theorem dX10_append_8 : decode cX10_append 8 = .ok (.getfield 15, 3) := by decide +kernel
theorem dX10_append_11 : decode cX10_append 11 = .ok (.sipush 1600, 3) := by decide +kernel
theorem dX10_append_14 : decode cX10_append 14 = .ok (.if_icmp .ge 32, 3) := by decide +kernel
theorem dX10_append_17 : decode cX10_append 17 = .ok (.aload_n 0, 1) := by decide +kernel
theorem dX10_append_18 : decode cX10_append 18 = .ok (.getfield 9, 3) := by decide +kernel
theorem dX10_append_21 : decode cX10_append 21 = .ok (.aload_n 0, 1) := by decide +kernel
theorem dX10_append_22 : decode cX10_append 22 = .ok (.dup, 1) := by decide +kernel
theorem dX10_append_23 : decode cX10_append 23 = .ok (.getfield 15, 3) := by decide +kernel
theorem dX10_append_26 : decode cX10_append 26 = .ok (.dup_x1, 1) := by decide +kernel
theorem dX10_append_27 : decode cX10_append 27 = .ok (.iconst 1, 1) := by decide +kernel
theorem dX10_append_28 : decode cX10_append 28 = .ok (.iadd, 1) := by decide +kernel
theorem dX10_append_29 : decode cX10_append 29 = .ok (.putfield 15, 3) := by decide +kernel
theorem dX10_append_32 : decode cX10_append 32 = .ok (.iload_n 1, 1) := by decide +kernel
theorem dX10_append_33 : decode cX10_append 33 = .ok (.iload_n 2, 1) := by decide +kernel
theorem dX10_append_34 : decode cX10_append 34 = .ok (.iushr, 1) := by decide +kernel
theorem dX10_append_35 : decode cX10_append 35 = .ok (.sipush 255, 3) := by decide +kernel
theorem dX10_append_38 : decode cX10_append 38 = .ok (.iand, 1) := by decide +kernel
theorem dX10_append_39 : decode cX10_append 39 = .ok (.iastore, 1) := by decide +kernel
theorem dX10_append_40 : decode cX10_append 40 = .ok (.iinc 2 (-8), 3) := by decide +kernel
theorem dX10_append_43 : decode cX10_append 43 = .ok (.goto (-40), 3) := by decide +kernel
theorem dX10_append_46 : decode cX10_append 46 = .ok (.return_, 1) := by decide +kernel
theorem dX10_byteAt_0 : decode cX10_byteAt 0 = .ok (.iload_n 1, 1) := by decide +kernel
theorem dX10_byteAt_1 : decode cX10_byteAt 1 = .ok (.ifCond .lt 20, 3) := by decide +kernel
theorem dX10_byteAt_4 : decode cX10_byteAt 4 = .ok (.iload_n 1, 1) := by decide +kernel
theorem dX10_byteAt_5 : decode cX10_byteAt 5 = .ok (.aload_n 0, 1) := by decide +kernel
theorem dX10_byteAt_6 : decode cX10_byteAt 6 = .ok (.getfield 15, 3) := by decide +kernel
theorem dX10_byteAt_9 : decode cX10_byteAt 9 = .ok (.if_icmp .ge 12, 3) := by decide +kernel
theorem dX10_byteAt_12 : decode cX10_byteAt 12 = .ok (.aload_n 0, 1) := by decide +kernel
theorem dX10_byteAt_13 : decode cX10_byteAt 13 = .ok (.getfield 9, 3) := by decide +kernel
theorem dX10_byteAt_16 : decode cX10_byteAt 16 = .ok (.iload_n 1, 1) := by decide +kernel
theorem dX10_byteAt_17 : decode cX10_byteAt 17 = .ok (.iaload, 1) := by decide +kernel
theorem dX10_byteAt_18 : decode cX10_byteAt 18 = .ok (.goto 4, 3) := by decide +kernel
theorem dX10_byteAt_21 : decode cX10_byteAt 21 = .ok (.iconst (-1), 1) := by decide +kernel
theorem dX10_byteAt_22 : decode cX10_byteAt 22 = .ok (.ireturn, 1) := by decide +kernel
theorem dX10_pairAt_0 : decode cX10_pairAt 0 = .ok (.aload_n 0, 1) := by decide +kernel
theorem dX10_pairAt_1 : decode cX10_pairAt 1 = .ok (.iload_n 1, 1) := by decide +kernel
theorem dX10_pairAt_2 : decode cX10_pairAt 2 = .ok (.invokevirtual 19, 3) := by decide +kernel
theorem dX10_pairAt_5 : decode cX10_pairAt 5 = .ok (.bipush 8, 2) := by decide +kernel
theorem dX10_pairAt_7 : decode cX10_pairAt 7 = .ok (.ishl, 1) := by decide +kernel
theorem dX10_pairAt_8 : decode cX10_pairAt 8 = .ok (.aload_n 0, 1) := by decide +kernel
theorem dX10_pairAt_9 : decode cX10_pairAt 9 = .ok (.iload_n 1, 1) := by decide +kernel
theorem dX10_pairAt_10 : decode cX10_pairAt 10 = .ok (.iconst 1, 1) := by decide +kernel
theorem dX10_pairAt_11 : decode cX10_pairAt 11 = .ok (.iadd, 1) := by decide +kernel
theorem dX10_pairAt_12 : decode cX10_pairAt 12 = .ok (.invokevirtual 19, 3) := by decide +kernel
theorem dX10_pairAt_15 : decode cX10_pairAt 15 = .ok (.ior, 1) := by decide +kernel
theorem dX10_pairAt_16 : decode cX10_pairAt 16 = .ok (.ireturn, 1) := by decide +kernel
theorem dX11_init_0 : decode cX11_init 0 = .ok (.aload_n 0, 1) := by decide +kernel
theorem dX11_init_1 : decode cX11_init 1 = .ok (.invokespecial 3, 3) := by decide +kernel
theorem dX11_init_4 : decode cX11_init 4 = .ok (.aload_n 0, 1) := by decide +kernel
theorem dX11_init_5 : decode cX11_init 5 = .ok (.new 9, 3) := by decide +kernel
theorem dX11_init_8 : decode cX11_init 8 = .ok (.dup, 1) := by decide +kernel
theorem dX11_init_9 : decode cX11_init 9 = .ok (.invokespecial 11, 3) := by decide +kernel
theorem dX11_init_12 : decode cX11_init 12 = .ok (.putfield 12, 3) := by decide +kernel
theorem dX11_init_15 : decode cX11_init 15 = .ok (.aload_n 0, 1) := by decide +kernel
theorem dX11_init_16 : decode cX11_init 16 = .ok (.new 16, 3) := by decide +kernel
theorem dX11_init_19 : decode cX11_init 19 = .ok (.dup, 1) := by decide +kernel
theorem dX11_init_20 : decode cX11_init 20 = .ok (.invokespecial 18, 3) := by decide +kernel
theorem dX11_init_23 : decode cX11_init 23 = .ok (.putfield 19, 3) := by decide +kernel
theorem dX11_init_26 : decode cX11_init 26 = .ok (.aload_n 0, 1) := by decide +kernel
theorem dX11_init_27 : decode cX11_init 27 = .ok (.new 23, 3) := by decide +kernel
theorem dX11_init_30 : decode cX11_init 30 = .ok (.dup, 1) := by decide +kernel
theorem dX11_init_31 : decode cX11_init 31 = .ok (.invokespecial 25, 3) := by decide +kernel
theorem dX11_init_34 : decode cX11_init 34 = .ok (.putfield 26, 3) := by decide +kernel
theorem dX11_init_37 : decode cX11_init 37 = .ok (.aload_n 0, 1) := by decide +kernel
theorem dX11_init_38 : decode cX11_init 38 = .ok (.new 23, 3) := by decide +kernel
theorem dX11_init_41 : decode cX11_init 41 = .ok (.dup, 1) := by decide +kernel
theorem dX11_init_42 : decode cX11_init 42 = .ok (.invokespecial 25, 3) := by decide +kernel
theorem dX11_init_45 : decode cX11_init 45 = .ok (.putfield 30, 3) := by decide +kernel
theorem dX11_init_48 : decode cX11_init 48 = .ok (.aload_n 0, 1) := by decide +kernel
theorem dX11_init_49 : decode cX11_init 49 = .ok (.new 33, 3) := by decide +kernel
theorem dX11_init_52 : decode cX11_init 52 = .ok (.dup, 1) := by decide +kernel
theorem dX11_init_53 : decode cX11_init 53 = .ok (.aload_n 0, 1) := by decide +kernel
theorem dX11_init_54 : decode cX11_init 54 = .ok (.getfield 12, 3) := by decide +kernel
theorem dX11_init_57 : decode cX11_init 57 = .ok (.aload_n 0, 1) := by decide +kernel
theorem dX11_init_58 : decode cX11_init 58 = .ok (.getfield 19, 3) := by decide +kernel
theorem dX11_init_61 : decode cX11_init 61 = .ok (.invokespecial 35, 3) := by decide +kernel
theorem dX11_init_64 : decode cX11_init 64 = .ok (.putfield 38, 3) := by decide +kernel
theorem dX11_init_67 : decode cX11_init 67 = .ok (.aload_n 0, 1) := by decide +kernel
theorem dX11_init_68 : decode cX11_init 68 = .ok (.new 42, 3) := by decide +kernel
theorem dX11_init_71 : decode cX11_init 71 = .ok (.dup, 1) := by decide +kernel
theorem dX11_init_72 : decode cX11_init 72 = .ok (.aload_n 0, 1) := by decide +kernel
theorem dX11_init_73 : decode cX11_init 73 = .ok (.getfield 38, 3) := by decide +kernel
theorem dX11_init_76 : decode cX11_init 76 = .ok (.aload_n 0, 1) := by decide +kernel
theorem dX11_init_77 : decode cX11_init 77 = .ok (.getfield 30, 3) := by decide +kernel
theorem dX11_init_80 : decode cX11_init 80 = .ok (.invokespecial 44, 3) := by decide +kernel
theorem dX11_init_83 : decode cX11_init 83 = .ok (.putfield 47, 3) := by decide +kernel
theorem dX11_init_86 : decode cX11_init 86 = .ok (.aload_n 0, 1) := by decide +kernel
theorem dX11_init_87 : decode cX11_init 87 = .ok (.new 51, 3) := by decide +kernel
theorem dX11_init_90 : decode cX11_init 90 = .ok (.dup, 1) := by decide +kernel
theorem dX11_init_91 : decode cX11_init 91 = .ok (.invokespecial 53, 3) := by decide +kernel
theorem dX11_init_94 : decode cX11_init 94 = .ok (.putfield 54, 3) := by decide +kernel
theorem dX11_init_97 : decode cX11_init 97 = .ok (.aload_n 0, 1) := by decide +kernel
theorem dX11_init_98 : decode cX11_init 98 = .ok (.new 58, 3) := by decide +kernel
theorem dX11_init_101 : decode cX11_init 101 = .ok (.dup, 1) := by decide +kernel
theorem dX11_init_102 : decode cX11_init 102 = .ok (.invokespecial 60, 3) := by decide +kernel
theorem dX11_init_105 : decode cX11_init 105 = .ok (.putfield 61, 3) := by decide +kernel
theorem dX11_init_108 : decode cX11_init 108 = .ok (.aload_n 0, 1) := by decide +kernel
theorem dX11_init_109 : decode cX11_init 109 = .ok (.new 65, 3) := by decide +kernel
theorem dX11_init_112 : decode cX11_init 112 = .ok (.dup, 1) := by decide +kernel
theorem dX11_init_113 : decode cX11_init 113 = .ok (.invokespecial 67, 3) := by decide +kernel
theorem dX11_init_116 : decode cX11_init 116 = .ok (.putfield 68, 3) := by decide +kernel
theorem dX11_init_119 : decode cX11_init 119 = .ok (.aload_n 0, 1) := by decide +kernel
theorem dX11_init_120 : decode cX11_init 120 = .ok (.new 72, 3) := by decide +kernel
theorem dX11_init_123 : decode cX11_init 123 = .ok (.dup, 1) := by decide +kernel
theorem dX11_init_124 : decode cX11_init 124 = .ok (.aload_n 0, 1) := by decide +kernel
theorem dX11_init_125 : decode cX11_init 125 = .ok (.getfield 26, 3) := by decide +kernel
theorem dX11_init_128 : decode cX11_init 128 = .ok (.invokespecial 74, 3) := by decide +kernel
theorem dX11_init_131 : decode cX11_init 131 = .ok (.putfield 77, 3) := by decide +kernel
theorem dX11_init_134 : decode cX11_init 134 = .ok (.aload_n 0, 1) := by decide +kernel
theorem dX11_init_135 : decode cX11_init 135 = .ok (.new 81, 3) := by decide +kernel
theorem dX11_init_138 : decode cX11_init 138 = .ok (.dup, 1) := by decide +kernel
theorem dX11_init_139 : decode cX11_init 139 = .ok (.aload_n 0, 1) := by decide +kernel
theorem dX11_init_140 : decode cX11_init 140 = .ok (.getfield 77, 3) := by decide +kernel
theorem dX11_init_143 : decode cX11_init 143 = .ok (.aload_n 0, 1) := by decide +kernel
theorem dX11_init_144 : decode cX11_init 144 = .ok (.getfield 54, 3) := by decide +kernel
theorem dX11_init_147 : decode cX11_init 147 = .ok (.invokespecial 83, 3) := by decide +kernel
theorem dX11_init_150 : decode cX11_init 150 = .ok (.putfield 86, 3) := by decide +kernel
theorem dX11_init_153 : decode cX11_init 153 = .ok (.aload_n 0, 1) := by decide +kernel
theorem dX11_init_154 : decode cX11_init 154 = .ok (.new 90, 3) := by decide +kernel
theorem dX11_init_157 : decode cX11_init 157 = .ok (.dup, 1) := by decide +kernel
theorem dX11_init_158 : decode cX11_init 158 = .ok (.aload_n 0, 1) := by decide +kernel
theorem dX11_init_159 : decode cX11_init 159 = .ok (.getfield 86, 3) := by decide +kernel
theorem dX11_init_162 : decode cX11_init 162 = .ok (.invokespecial 92, 3) := by decide +kernel
theorem dX11_init_165 : decode cX11_init 165 = .ok (.putfield 95, 3) := by decide +kernel
theorem dX11_init_168 : decode cX11_init 168 = .ok (.aload_n 0, 1) := by decide +kernel
theorem dX11_init_169 : decode cX11_init 169 = .ok (.bipush 27, 2) := by decide +kernel
theorem dX11_init_171 : decode cX11_init 171 = .ok (.newarray .int, 2) := by decide +kernel
theorem dX11_init_173 : decode cX11_init 173 = .ok (.putfield 99, 3) := by decide +kernel
theorem dX11_init_176 : decode cX11_init 176 = .ok (.aload_n 0, 1) := by decide +kernel
theorem dX11_init_177 : decode cX11_init 177 = .ok (.iconst 0, 1) := by decide +kernel
theorem dX11_init_178 : decode cX11_init 178 = .ok (.putfield 103, 3) := by decide +kernel
theorem dX11_init_181 : decode cX11_init 181 = .ok (.aload_n 0, 1) := by decide +kernel
theorem dX11_init_182 : decode cX11_init 182 = .ok (.bipush 6, 2) := by decide +kernel
theorem dX11_init_184 : decode cX11_init 184 = .ok (.newarray .int, 2) := by decide +kernel
theorem dX11_init_186 : decode cX11_init 186 = .ok (.putfield 107, 3) := by decide +kernel
theorem dX11_init_189 : decode cX11_init 189 = .ok (.aload_n 0, 1) := by decide +kernel
theorem dX11_init_190 : decode cX11_init 190 = .ok (.iconst 0, 1) := by decide +kernel
theorem dX11_init_191 : decode cX11_init 191 = .ok (.putfield 110, 3) := by decide +kernel
theorem dX11_init_194 : decode cX11_init 194 = .ok (.aload_n 0, 1) := by decide +kernel
theorem dX11_init_195 : decode cX11_init 195 = .ok (.iconst (-1), 1) := by decide +kernel
theorem dX11_init_196 : decode cX11_init 196 = .ok (.putfield 113, 3) := by decide +kernel
theorem dX11_init_199 : decode cX11_init 199 = .ok (.aload_n 0, 1) := by decide +kernel
theorem dX11_init_200 : decode cX11_init 200 = .ok (.iconst 1, 1) := by decide +kernel
theorem dX11_init_201 : decode cX11_init 201 = .ok (.putfield 116, 3) := by decide +kernel
theorem dX11_init_204 : decode cX11_init 204 = .ok (.return_, 1) := by decide +kernel
theorem dX11_feed_0 : decode cX11_feed 0 = .ok (.aload_n 0, 1) := by decide +kernel
theorem dX11_feed_1 : decode cX11_feed 1 = .ok (.getfield 12, 3) := by decide +kernel
theorem dX11_feed_4 : decode cX11_feed 4 = .ok (.getfield 119, 3) := by decide +kernel
theorem dX11_feed_7 : decode cX11_feed 7 = .ok (.bipush 20, 2) := by decide +kernel
theorem dX11_feed_9 : decode cX11_feed 9 = .ok (.iadd, 1) := by decide +kernel
theorem dX11_feed_10 : decode cX11_feed 10 = .ok (.sipush 1600, 3) := by decide +kernel
theorem dX11_feed_13 : decode cX11_feed 13 = .ok (.if_icmp .le 9, 3) := by decide +kernel
theorem dX11_feed_16 : decode cX11_feed 16 = .ok (.aload_n 0, 1) := by decide +kernel
theorem dX11_feed_17 : decode cX11_feed 17 = .ok (.iconst 0, 1) := by decide +kernel
theorem dX11_feed_18 : decode cX11_feed 18 = .ok (.invokevirtual 122, 3) := by decide +kernel
theorem dX11_feed_21 : decode cX11_feed 21 = .ok (.ireturn, 1) := by decide +kernel
theorem dX11_feed_22 : decode cX11_feed 22 = .ok (.aload_n 0, 1) := by decide +kernel
theorem dX11_feed_23 : decode cX11_feed 23 = .ok (.getfield 12, 3) := by decide +kernel
theorem dX11_feed_26 : decode cX11_feed 26 = .ok (.iload_n 1, 1) := by decide +kernel
theorem dX11_feed_27 : decode cX11_feed 27 = .ok (.invokevirtual 126, 3) := by decide +kernel
theorem dX11_feed_30 : decode cX11_feed 30 = .ok (.aload_n 0, 1) := by decide +kernel
theorem dX11_feed_31 : decode cX11_feed 31 = .ok (.getfield 12, 3) := by decide +kernel
theorem dX11_feed_34 : decode cX11_feed 34 = .ok (.iload_n 2, 1) := by decide +kernel
theorem dX11_feed_35 : decode cX11_feed 35 = .ok (.invokevirtual 126, 3) := by decide +kernel
theorem dX11_feed_38 : decode cX11_feed 38 = .ok (.aload_n 0, 1) := by decide +kernel
theorem dX11_feed_39 : decode cX11_feed 39 = .ok (.getfield 12, 3) := by decide +kernel
theorem dX11_feed_42 : decode cX11_feed 42 = .ok (.iload_n 3, 1) := by decide +kernel
theorem dX11_feed_43 : decode cX11_feed 43 = .ok (.invokevirtual 126, 3) := by decide +kernel
theorem dX11_feed_46 : decode cX11_feed 46 = .ok (.aload_n 0, 1) := by decide +kernel
theorem dX11_feed_47 : decode cX11_feed 47 = .ok (.getfield 12, 3) := by decide +kernel
theorem dX11_feed_50 : decode cX11_feed 50 = .ok (.iload 4, 2) := by decide +kernel
theorem dX11_feed_52 : decode cX11_feed 52 = .ok (.invokevirtual 126, 3) := by decide +kernel
theorem dX11_feed_55 : decode cX11_feed 55 = .ok (.aload_n 0, 1) := by decide +kernel
theorem dX11_feed_56 : decode cX11_feed 56 = .ok (.getfield 12, 3) := by decide +kernel
theorem dX11_feed_59 : decode cX11_feed 59 = .ok (.iload 5, 2) := by decide +kernel
theorem dX11_feed_61 : decode cX11_feed 61 = .ok (.invokevirtual 126, 3) := by decide +kernel
theorem dX11_feed_64 : decode cX11_feed 64 = .ok (.aload_n 0, 1) := by decide +kernel
theorem dX11_feed_65 : decode cX11_feed 65 = .ok (.getfield 12, 3) := by decide +kernel
theorem dX11_feed_68 : decode cX11_feed 68 = .ok (.getfield 119, 3) := by decide +kernel
theorem dX11_feed_71 : decode cX11_feed 71 = .ok (.ireturn, 1) := by decide +kernel
theorem dX11_end_0 : decode cX11_end 0 = .ok (.iload_n 1, 1) := by decide +kernel
theorem dX11_end_1 : decode cX11_end 1 = .ok (.ifCond .lt 14, 3) := by decide +kernel
theorem dX11_end_4 : decode cX11_end 4 = .ok (.iload_n 1, 1) := by decide +kernel
theorem dX11_end_5 : decode cX11_end 5 = .ok (.aload_n 0, 1) := by decide +kernel
theorem dX11_end_6 : decode cX11_end 6 = .ok (.getfield 12, 3) := by decide +kernel
theorem dX11_end_9 : decode cX11_end 9 = .ok (.getfield 119, 3) := by decide +kernel
theorem dX11_end_12 : decode cX11_end 12 = .ok (.if_icmp .le 9, 3) := by decide +kernel
theorem dX11_end_15 : decode cX11_end 15 = .ok (.aload_n 0, 1) := by decide +kernel
theorem dX11_end_16 : decode cX11_end 16 = .ok (.iconst 0, 1) := by decide +kernel
theorem dX11_end_17 : decode cX11_end 17 = .ok (.invokevirtual 130, 3) := by decide +kernel
theorem dX11_end_20 : decode cX11_end 20 = .ok (.ireturn, 1) := by decide +kernel
theorem dX11_end_21 : decode cX11_end 21 = .ok (.aload_n 0, 1) := by decide +kernel
theorem dX11_end_22 : decode cX11_end 22 = .ok (.getfield 12, 3) := by decide +kernel
theorem dX11_end_25 : decode cX11_end 25 = .ok (.iload_n 1, 1) := by decide +kernel
theorem dX11_end_26 : decode cX11_end 26 = .ok (.putfield 119, 3) := by decide +kernel
theorem dX11_end_29 : decode cX11_end 29 = .ok (.iconst 1, 1) := by decide +kernel
theorem dX11_end_30 : decode cX11_end 30 = .ok (.ireturn, 1) := by decide +kernel
theorem dX11_street_0 : decode cX11_street 0 = .ok (.aload_n 0, 1) := by decide +kernel
theorem dX11_street_1 : decode cX11_street 1 = .ok (.getfield 47, 3) := by decide +kernel
theorem dX11_street_4 : decode cX11_street 4 = .ok (.aload_n 0, 1) := by decide +kernel
theorem dX11_street_5 : decode cX11_street 5 = .ok (.getfield 30, 3) := by decide +kernel
theorem dX11_street_8 : decode cX11_street 8 = .ok (.invokevirtual 134, 3) := by decide +kernel
theorem dX11_street_11 : decode cX11_street 11 = .ok (.aload_n 0, 1) := by decide +kernel
theorem dX11_street_12 : decode cX11_street 12 = .ok (.invokevirtual 137, 3) := by decide +kernel
theorem dX11_street_15 : decode cX11_street 15 = .ok (.aload_n 0, 1) := by decide +kernel
theorem dX11_street_16 : decode cX11_street 16 = .ok (.getfield 110, 3) := by decide +kernel
theorem dX11_street_19 : decode cX11_street 19 = .ok (.ifCond .eq 9, 3) := by decide +kernel
theorem dX11_street_22 : decode cX11_street 22 = .ok (.aload_n 0, 1) := by decide +kernel
theorem dX11_street_23 : decode cX11_street 23 = .ok (.iconst 1, 1) := by decide +kernel
theorem dX11_street_24 : decode cX11_street 24 = .ok (.invokevirtual 122, 3) := by decide +kernel
theorem dX11_street_27 : decode cX11_street 27 = .ok (.ireturn, 1) := by decide +kernel
theorem dX11_street_28 : decode cX11_street 28 = .ok (.aload_n 0, 1) := by decide +kernel
theorem dX11_street_29 : decode cX11_street 29 = .ok (.getfield 26, 3) := by decide +kernel
theorem dX11_street_32 : decode cX11_street 32 = .ok (.astore_n 1, 1) := by decide +kernel
theorem dX11_street_33 : decode cX11_street 33 = .ok (.aload_n 0, 1) := by decide +kernel
theorem dX11_street_34 : decode cX11_street 34 = .ok (.aload_n 0, 1) := by decide +kernel
theorem dX11_street_35 : decode cX11_street 35 = .ok (.getfield 30, 3) := by decide +kernel
theorem dX11_street_38 : decode cX11_street 38 = .ok (.putfield 26, 3) := by decide +kernel
theorem dX11_street_41 : decode cX11_street 41 = .ok (.aload_n 0, 1) := by decide +kernel
theorem dX11_street_42 : decode cX11_street 42 = .ok (.aload_n 1, 1) := by decide +kernel
theorem dX11_street_43 : decode cX11_street 43 = .ok (.putfield 30, 3) := by decide +kernel
theorem dX11_street_46 : decode cX11_street 46 = .ok (.aload_n 0, 1) := by decide +kernel
theorem dX11_street_47 : decode cX11_street 47 = .ok (.getfield 77, 3) := by decide +kernel
theorem dX11_street_50 : decode cX11_street 50 = .ok (.aload_n 0, 1) := by decide +kernel
theorem dX11_street_51 : decode cX11_street 51 = .ok (.getfield 26, 3) := by decide +kernel
theorem dX11_street_54 : decode cX11_street 54 = .ok (.putfield 140, 3) := by decide +kernel
theorem dX11_street_57 : decode cX11_street 57 = .ok (.aload_n 0, 1) := by decide +kernel
theorem dX11_street_58 : decode cX11_street 58 = .ok (.getfield 54, 3) := by decide +kernel
theorem dX11_street_61 : decode cX11_street 61 = .ok (.aload_n 0, 1) := by decide +kernel
theorem dX11_street_62 : decode cX11_street 62 = .ok (.getfield 26, 3) := by decide +kernel
theorem dX11_street_65 : decode cX11_street 65 = .ok (.invokevirtual 143, 3) := by decide +kernel
theorem dX11_street_68 : decode cX11_street 68 = .ok (.aload_n 0, 1) := by decide +kernel
theorem dX11_street_69 : decode cX11_street 69 = .ok (.invokevirtual 146, 3) := by decide +kernel
theorem dX11_street_72 : decode cX11_street 72 = .ok (.aload_n 0, 1) := by decide +kernel
theorem dX11_street_73 : decode cX11_street 73 = .ok (.getfield 95, 3) := by decide +kernel
theorem dX11_street_76 : decode cX11_street 76 = .ok (.iconst 0, 1) := by decide +kernel
theorem dX11_street_77 : decode cX11_street 77 = .ok (.putfield 149, 3) := by decide +kernel
theorem dX11_street_80 : decode cX11_street 80 = .ok (.aload_n 0, 1) := by decide +kernel
theorem dX11_street_81 : decode cX11_street 81 = .ok (.getfield 26, 3) := by decide +kernel
theorem dX11_street_84 : decode cX11_street 84 = .ok (.getfield 152, 3) := by decide +kernel
theorem dX11_street_87 : decode cX11_street 87 = .ok (.ireturn, 1) := by decide +kernel
theorem dX11_fault_0 : decode cX11_fault 0 = .ok (.iload_n 1, 1) := by decide +kernel
theorem dX11_fault_1 : decode cX11_fault 1 = .ok (.lookupswitch 37 #[(0, 27), (1, 32)], 27) := by decide +kernel
theorem dX11_fault_28 : decode cX11_fault 28 = .ok (.aload_n 0, 1) := by decide +kernel
theorem dX11_fault_29 : decode cX11_fault 29 = .ok (.getfield 110, 3) := by decide +kernel
theorem dX11_fault_32 : decode cX11_fault 32 = .ok (.ireturn, 1) := by decide +kernel
theorem dX11_fault_33 : decode cX11_fault 33 = .ok (.aload_n 0, 1) := by decide +kernel
theorem dX11_fault_34 : decode cX11_fault 34 = .ok (.getfield 113, 3) := by decide +kernel
theorem dX11_fault_37 : decode cX11_fault 37 = .ok (.ireturn, 1) := by decide +kernel
theorem dX11_fault_38 : decode cX11_fault 38 = .ok (.iconst (-1), 1) := by decide +kernel
theorem dX11_fault_39 : decode cX11_fault 39 = .ok (.ireturn, 1) := by decide +kernel
theorem dX11_has_0 : decode cX11_has 0 = .ok (.iload_n 1, 1) := by decide +kernel
theorem dX11_has_1 : decode cX11_has 1 = .ok (.tableswitch 161 0 10 #[59, 67, 75, 83, 91, 99, 107, 122, 137, 145, 153], 59) := by decide +kernel
theorem dX11_has_60 : decode cX11_has 60 = .ok (.aload_n 0, 1) := by decide +kernel
theorem dX11_has_61 : decode cX11_has 61 = .ok (.getfield 26, 3) := by decide +kernel
theorem dX11_has_64 : decode cX11_has 64 = .ok (.getfield 155, 3) := by decide +kernel
theorem dX11_has_67 : decode cX11_has 67 = .ok (.ireturn, 1) := by decide +kernel
theorem dX11_has_68 : decode cX11_has 68 = .ok (.aload_n 0, 1) := by decide +kernel
theorem dX11_has_69 : decode cX11_has 69 = .ok (.getfield 26, 3) := by decide +kernel
theorem dX11_has_72 : decode cX11_has 72 = .ok (.getfield 158, 3) := by decide +kernel
theorem dX11_has_75 : decode cX11_has 75 = .ok (.ireturn, 1) := by decide +kernel
theorem dX11_has_76 : decode cX11_has 76 = .ok (.aload_n 0, 1) := by decide +kernel
theorem dX11_has_77 : decode cX11_has 77 = .ok (.getfield 26, 3) := by decide +kernel
theorem dX11_has_80 : decode cX11_has 80 = .ok (.getfield 161, 3) := by decide +kernel
theorem dX11_has_83 : decode cX11_has 83 = .ok (.ireturn, 1) := by decide +kernel
theorem dX11_has_84 : decode cX11_has 84 = .ok (.aload_n 0, 1) := by decide +kernel
theorem dX11_has_85 : decode cX11_has 85 = .ok (.getfield 26, 3) := by decide +kernel
theorem dX11_has_88 : decode cX11_has 88 = .ok (.getfield 164, 3) := by decide +kernel
theorem dX11_has_91 : decode cX11_has 91 = .ok (.ireturn, 1) := by decide +kernel
theorem dX11_has_92 : decode cX11_has 92 = .ok (.aload_n 0, 1) := by decide +kernel
theorem dX11_has_93 : decode cX11_has 93 = .ok (.getfield 54, 3) := by decide +kernel
theorem dX11_has_96 : decode cX11_has 96 = .ok (.getfield 165, 3) := by decide +kernel
theorem dX11_has_99 : decode cX11_has 99 = .ok (.ireturn, 1) := by decide +kernel
theorem dX11_has_100 : decode cX11_has 100 = .ok (.aload_n 0, 1) := by decide +kernel
theorem dX11_has_101 : decode cX11_has 101 = .ok (.getfield 54, 3) := by decide +kernel
theorem dX11_has_104 : decode cX11_has 104 = .ok (.getfield 168, 3) := by decide +kernel
theorem dX11_has_107 : decode cX11_has 107 = .ok (.ireturn, 1) := by decide +kernel
theorem dX11_has_108 : decode cX11_has 108 = .ok (.aload_n 0, 1) := by decide +kernel
theorem dX11_has_109 : decode cX11_has 109 = .ok (.getfield 77, 3) := by decide +kernel
theorem dX11_has_112 : decode cX11_has 112 = .ok (.aload_n 0, 1) := by decide +kernel
theorem dX11_has_113 : decode cX11_has 113 = .ok (.getfield 54, 3) := by decide +kernel
theorem dX11_has_116 : decode cX11_has 116 = .ok (.invokevirtual 171, 3) := by decide +kernel
theorem dX11_has_119 : decode cX11_has 119 = .ok (.invokestatic 175, 3) := by decide +kernel
theorem dX11_has_122 : decode cX11_has 122 = .ok (.ireturn, 1) := by decide +kernel
theorem dX11_has_123 : decode cX11_has 123 = .ok (.aload_n 0, 1) := by decide +kernel
theorem dX11_has_124 : decode cX11_has 124 = .ok (.getfield 77, 3) := by decide +kernel
theorem dX11_has_127 : decode cX11_has 127 = .ok (.aload_n 0, 1) := by decide +kernel
theorem dX11_has_128 : decode cX11_has 128 = .ok (.getfield 54, 3) := by decide +kernel
theorem dX11_has_131 : decode cX11_has 131 = .ok (.invokevirtual 180, 3) := by decide +kernel
theorem dX11_has_134 : decode cX11_has 134 = .ok (.invokestatic 175, 3) := by decide +kernel
theorem dX11_has_137 : decode cX11_has 137 = .ok (.ireturn, 1) := by decide +kernel
theorem dX11_has_138 : decode cX11_has 138 = .ok (.aload_n 0, 1) := by decide +kernel
theorem dX11_has_139 : decode cX11_has 139 = .ok (.getfield 61, 3) := by decide +kernel
theorem dX11_has_142 : decode cX11_has 142 = .ok (.getfield 183, 3) := by decide +kernel
theorem dX11_has_145 : decode cX11_has 145 = .ok (.ireturn, 1) := by decide +kernel
theorem dX11_has_146 : decode cX11_has 146 = .ok (.aload_n 0, 1) := by decide +kernel
theorem dX11_has_147 : decode cX11_has 147 = .ok (.getfield 95, 3) := by decide +kernel
theorem dX11_has_150 : decode cX11_has 150 = .ok (.getfield 149, 3) := by decide +kernel
theorem dX11_has_153 : decode cX11_has 153 = .ok (.ireturn, 1) := by decide +kernel
theorem dX11_has_154 : decode cX11_has 154 = .ok (.aload_n 0, 1) := by decide +kernel
theorem dX11_has_155 : decode cX11_has 155 = .ok (.getfield 68, 3) := by decide +kernel
theorem dX11_has_158 : decode cX11_has 158 = .ok (.getfield 186, 3) := by decide +kernel
theorem dX11_has_161 : decode cX11_has 161 = .ok (.ireturn, 1) := by decide +kernel
theorem dX11_has_162 : decode cX11_has 162 = .ok (.iconst (-1), 1) := by decide +kernel
theorem dX11_has_163 : decode cX11_has 163 = .ok (.ireturn, 1) := by decide +kernel
theorem dX11_letter_0 : decode cX11_letter 0 = .ok (.iload_n 3, 1) := by decide +kernel
theorem dX11_letter_1 : decode cX11_letter 1 = .ok (.ifCond .lt 9, 3) := by decide +kernel
theorem dX11_letter_4 : decode cX11_letter 4 = .ok (.iload_n 3, 1) := by decide +kernel
theorem dX11_letter_5 : decode cX11_letter 5 = .ok (.bipush 6, 2) := by decide +kernel
theorem dX11_letter_7 : decode cX11_letter 7 = .ok (.if_icmp .lt 5, 3) := by decide +kernel
theorem dX11_letter_10 : decode cX11_letter 10 = .ok (.iconst (-1), 1) := by decide +kernel
theorem dX11_letter_11 : decode cX11_letter 11 = .ok (.ireturn, 1) := by decide +kernel
theorem dX11_letter_12 : decode cX11_letter 12 = .ok (.iload_n 1, 1) := by decide +kernel
theorem dX11_letter_13 : decode cX11_letter 13 = .ok (.ifCond .ne 25, 3) := by decide +kernel
theorem dX11_letter_16 : decode cX11_letter 16 = .ok (.aload_n 0, 1) := by decide +kernel
theorem dX11_letter_17 : decode cX11_letter 17 = .ok (.iload_n 2, 1) := by decide +kernel
theorem dX11_letter_18 : decode cX11_letter 18 = .ok (.invokevirtual 187, 3) := by decide +kernel
theorem dX11_letter_21 : decode cX11_letter 21 = .ok (.ifCond .eq 17, 3) := by decide +kernel
theorem dX11_letter_24 : decode cX11_letter 24 = .ok (.aload_n 0, 1) := by decide +kernel
theorem dX11_letter_25 : decode cX11_letter 25 = .ok (.getfield 26, 3) := by decide +kernel
theorem dX11_letter_28 : decode cX11_letter 28 = .ok (.getfield 190, 3) := by decide +kernel
theorem dX11_letter_31 : decode cX11_letter 31 = .ok (.iload_n 2, 1) := by decide +kernel
theorem dX11_letter_32 : decode cX11_letter 32 = .ok (.iaload, 1) := by decide +kernel
theorem dX11_letter_33 : decode cX11_letter 33 = .ok (.iload_n 3, 1) := by decide +kernel
theorem dX11_letter_34 : decode cX11_letter 34 = .ok (.invokestatic 193, 3) := by decide +kernel
theorem dX11_letter_37 : decode cX11_letter 37 = .ok (.ireturn, 1) := by decide +kernel
theorem dX11_letter_38 : decode cX11_letter 38 = .ok (.iload_n 1, 1) := by decide +kernel
theorem dX11_letter_39 : decode cX11_letter 39 = .ok (.iconst 1, 1) := by decide +kernel
theorem dX11_letter_40 : decode cX11_letter 40 = .ok (.if_icmp .ne 25, 3) := by decide +kernel
theorem dX11_letter_43 : decode cX11_letter 43 = .ok (.aload_n 0, 1) := by decide +kernel
theorem dX11_letter_44 : decode cX11_letter 44 = .ok (.iload_n 2, 1) := by decide +kernel
theorem dX11_letter_45 : decode cX11_letter 45 = .ok (.invokevirtual 197, 3) := by decide +kernel
theorem dX11_letter_48 : decode cX11_letter 48 = .ok (.ifCond .eq 17, 3) := by decide +kernel
theorem dX11_letter_51 : decode cX11_letter 51 = .ok (.aload_n 0, 1) := by decide +kernel
theorem dX11_letter_52 : decode cX11_letter 52 = .ok (.getfield 26, 3) := by decide +kernel
theorem dX11_letter_55 : decode cX11_letter 55 = .ok (.getfield 200, 3) := by decide +kernel
theorem dX11_letter_58 : decode cX11_letter 58 = .ok (.iload_n 2, 1) := by decide +kernel
theorem dX11_letter_59 : decode cX11_letter 59 = .ok (.iaload, 1) := by decide +kernel
theorem dX11_letter_60 : decode cX11_letter 60 = .ok (.iload_n 3, 1) := by decide +kernel
theorem dX11_letter_61 : decode cX11_letter 61 = .ok (.invokestatic 193, 3) := by decide +kernel
theorem dX11_letter_64 : decode cX11_letter 64 = .ok (.ireturn, 1) := by decide +kernel
theorem dX11_letter_65 : decode cX11_letter 65 = .ok (.iconst (-1), 1) := by decide +kernel
theorem dX11_letter_66 : decode cX11_letter 66 = .ok (.ireturn, 1) := by decide +kernel
theorem dX11_person_0 : decode cX11_person 0 = .ok (.aload_n 0, 1) := by decide +kernel
theorem dX11_person_1 : decode cX11_person 1 = .ok (.iload_n 1, 1) := by decide +kernel
theorem dX11_person_2 : decode cX11_person 2 = .ok (.invokevirtual 187, 3) := by decide +kernel
theorem dX11_person_5 : decode cX11_person 5 = .ok (.ifCond .ne 5, 3) := by decide +kernel
theorem dX11_person_8 : decode cX11_person 8 = .ok (.iconst (-1), 1) := by decide +kernel
theorem dX11_person_9 : decode cX11_person 9 = .ok (.ireturn, 1) := by decide +kernel
theorem dX11_person_10 : decode cX11_person 10 = .ok (.iload_n 2, 1) := by decide +kernel
theorem dX11_person_11 : decode cX11_person 11 = .ok (.tableswitch 58 0 2 #[25, 35, 45], 25) := by decide +kernel
theorem dX11_person_36 : decode cX11_person 36 = .ok (.aload_n 0, 1) := by decide +kernel
theorem dX11_person_37 : decode cX11_person 37 = .ok (.getfield 54, 3) := by decide +kernel
theorem dX11_person_40 : decode cX11_person 40 = .ok (.getfield 203, 3) := by decide +kernel
theorem dX11_person_43 : decode cX11_person 43 = .ok (.iload_n 1, 1) := by decide +kernel
theorem dX11_person_44 : decode cX11_person 44 = .ok (.iaload, 1) := by decide +kernel
theorem dX11_person_45 : decode cX11_person 45 = .ok (.ireturn, 1) := by decide +kernel
theorem dX11_person_46 : decode cX11_person 46 = .ok (.aload_n 0, 1) := by decide +kernel
theorem dX11_person_47 : decode cX11_person 47 = .ok (.getfield 26, 3) := by decide +kernel
theorem dX11_person_50 : decode cX11_person 50 = .ok (.getfield 206, 3) := by decide +kernel
theorem dX11_person_53 : decode cX11_person 53 = .ok (.iload_n 1, 1) := by decide +kernel
theorem dX11_person_54 : decode cX11_person 54 = .ok (.iaload, 1) := by decide +kernel
theorem dX11_person_55 : decode cX11_person 55 = .ok (.ireturn, 1) := by decide +kernel
theorem dX11_person_56 : decode cX11_person 56 = .ok (.aload_n 0, 1) := by decide +kernel
theorem dX11_person_57 : decode cX11_person 57 = .ok (.getfield 77, 3) := by decide +kernel
theorem dX11_person_60 : decode cX11_person 60 = .ok (.aload_n 0, 1) := by decide +kernel
theorem dX11_person_61 : decode cX11_person 61 = .ok (.getfield 54, 3) := by decide +kernel
theorem dX11_person_64 : decode cX11_person 64 = .ok (.iload_n 1, 1) := by decide +kernel
theorem dX11_person_65 : decode cX11_person 65 = .ok (.invokevirtual 209, 3) := by decide +kernel
theorem dX11_person_68 : decode cX11_person 68 = .ok (.ireturn, 1) := by decide +kernel
theorem dX11_person_69 : decode cX11_person 69 = .ok (.iconst (-1), 1) := by decide +kernel
theorem dX11_person_70 : decode cX11_person 70 = .ok (.ireturn, 1) := by decide +kernel
theorem dX11_lie_0 : decode cX11_lie 0 = .ok (.aload_n 0, 1) := by decide +kernel
theorem dX11_lie_1 : decode cX11_lie 1 = .ok (.iload_n 1, 1) := by decide +kernel
theorem dX11_lie_2 : decode cX11_lie 2 = .ok (.invokevirtual 197, 3) := by decide +kernel
theorem dX11_lie_5 : decode cX11_lie 5 = .ok (.ifCond .ne 5, 3) := by decide +kernel
theorem dX11_lie_8 : decode cX11_lie 8 = .ok (.iconst (-1), 1) := by decide +kernel
theorem dX11_lie_9 : decode cX11_lie 9 = .ok (.ireturn, 1) := by decide +kernel
theorem dX11_lie_10 : decode cX11_lie 10 = .ok (.iload_n 2, 1) := by decide +kernel
theorem dX11_lie_11 : decode cX11_lie 11 = .ok (.tableswitch 119 0 6 #[41, 51, 61, 71, 87, 97, 106], 41) := by decide +kernel
theorem dX11_lie_52 : decode cX11_lie 52 = .ok (.aload_n 0, 1) := by decide +kernel
theorem dX11_lie_53 : decode cX11_lie 53 = .ok (.getfield 26, 3) := by decide +kernel
theorem dX11_lie_56 : decode cX11_lie 56 = .ok (.getfield 213, 3) := by decide +kernel
theorem dX11_lie_59 : decode cX11_lie 59 = .ok (.iload_n 1, 1) := by decide +kernel
theorem dX11_lie_60 : decode cX11_lie 60 = .ok (.iaload, 1) := by decide +kernel
theorem dX11_lie_61 : decode cX11_lie 61 = .ok (.ireturn, 1) := by decide +kernel
theorem dX11_lie_62 : decode cX11_lie 62 = .ok (.aload_n 0, 1) := by decide +kernel
theorem dX11_lie_63 : decode cX11_lie 63 = .ok (.getfield 54, 3) := by decide +kernel
theorem dX11_lie_66 : decode cX11_lie 66 = .ok (.getfield 216, 3) := by decide +kernel
theorem dX11_lie_69 : decode cX11_lie 69 = .ok (.iload_n 1, 1) := by decide +kernel
theorem dX11_lie_70 : decode cX11_lie 70 = .ok (.iaload, 1) := by decide +kernel
theorem dX11_lie_71 : decode cX11_lie 71 = .ok (.ireturn, 1) := by decide +kernel
theorem dX11_lie_72 : decode cX11_lie 72 = .ok (.aload_n 0, 1) := by decide +kernel
theorem dX11_lie_73 : decode cX11_lie 73 = .ok (.getfield 54, 3) := by decide +kernel
theorem dX11_lie_76 : decode cX11_lie 76 = .ok (.getfield 219, 3) := by decide +kernel
theorem dX11_lie_79 : decode cX11_lie 79 = .ok (.iload_n 1, 1) := by decide +kernel
theorem dX11_lie_80 : decode cX11_lie 80 = .ok (.iaload, 1) := by decide +kernel
theorem dX11_lie_81 : decode cX11_lie 81 = .ok (.ireturn, 1) := by decide +kernel
theorem dX11_lie_82 : decode cX11_lie 82 = .ok (.aload_n 0, 1) := by decide +kernel
theorem dX11_lie_83 : decode cX11_lie 83 = .ok (.getfield 77, 3) := by decide +kernel
theorem dX11_lie_86 : decode cX11_lie 86 = .ok (.aload_n 0, 1) := by decide +kernel
theorem dX11_lie_87 : decode cX11_lie 87 = .ok (.getfield 54, 3) := by decide +kernel
theorem dX11_lie_90 : decode cX11_lie 90 = .ok (.invokevirtual 180, 3) := by decide +kernel
theorem dX11_lie_93 : decode cX11_lie 93 = .ok (.iload_n 1, 1) := by decide +kernel
theorem dX11_lie_94 : decode cX11_lie 94 = .ok (.ishr, 1) := by decide +kernel
theorem dX11_lie_95 : decode cX11_lie 95 = .ok (.iconst 1, 1) := by decide +kernel
theorem dX11_lie_96 : decode cX11_lie 96 = .ok (.iand, 1) := by decide +kernel
theorem dX11_lie_97 : decode cX11_lie 97 = .ok (.ireturn, 1) := by decide +kernel
theorem dX11_lie_98 : decode cX11_lie 98 = .ok (.aload_n 0, 1) := by decide +kernel
theorem dX11_lie_99 : decode cX11_lie 99 = .ok (.getfield 26, 3) := by decide +kernel
theorem dX11_lie_102 : decode cX11_lie 102 = .ok (.getfield 222, 3) := by decide +kernel
theorem dX11_lie_105 : decode cX11_lie 105 = .ok (.iload_n 1, 1) := by decide +kernel
theorem dX11_lie_106 : decode cX11_lie 106 = .ok (.iaload, 1) := by decide +kernel
theorem dX11_lie_107 : decode cX11_lie 107 = .ok (.ireturn, 1) := by decide +kernel
theorem dX11_lie_108 : decode cX11_lie 108 = .ok (.aload_n 0, 1) := by decide +kernel
theorem dX11_lie_109 : decode cX11_lie 109 = .ok (.getfield 26, 3) := by decide +kernel
theorem dX11_lie_112 : decode cX11_lie 112 = .ok (.iload_n 1, 1) := by decide +kernel
theorem dX11_lie_113 : decode cX11_lie 113 = .ok (.invokevirtual 225, 3) := by decide +kernel
theorem dX11_lie_116 : decode cX11_lie 116 = .ok (.ireturn, 1) := by decide +kernel
theorem dX11_lie_117 : decode cX11_lie 117 = .ok (.aload_n 0, 1) := by decide +kernel
theorem dX11_lie_118 : decode cX11_lie 118 = .ok (.getfield 77, 3) := by decide +kernel
theorem dX11_lie_121 : decode cX11_lie 121 = .ok (.aload_n 0, 1) := by decide +kernel
theorem dX11_lie_122 : decode cX11_lie 122 = .ok (.getfield 54, 3) := by decide +kernel
theorem dX11_lie_125 : decode cX11_lie 125 = .ok (.iload_n 1, 1) := by decide +kernel
theorem dX11_lie_126 : decode cX11_lie 126 = .ok (.invokevirtual 228, 3) := by decide +kernel
theorem dX11_lie_129 : decode cX11_lie 129 = .ok (.ireturn, 1) := by decide +kernel
theorem dX11_lie_130 : decode cX11_lie 130 = .ok (.iconst (-1), 1) := by decide +kernel
theorem dX11_lie_131 : decode cX11_lie 131 = .ok (.ireturn, 1) := by decide +kernel
theorem dX11_draft_0 : decode cX11_draft 0 = .ok (.aload_n 0, 1) := by decide +kernel
theorem dX11_draft_1 : decode cX11_draft 1 = .ok (.iload_n 1, 1) := by decide +kernel
theorem dX11_draft_2 : decode cX11_draft 2 = .ok (.invokevirtual 231, 3) := by decide +kernel
theorem dX11_draft_5 : decode cX11_draft 5 = .ok (.ifCond .eq 17, 3) := by decide +kernel
theorem dX11_draft_8 : decode cX11_draft 8 = .ok (.aload_n 0, 1) := by decide +kernel
theorem dX11_draft_9 : decode cX11_draft 9 = .ok (.getfield 86, 3) := by decide +kernel
theorem dX11_draft_12 : decode cX11_draft 12 = .ok (.iload_n 2, 1) := by decide +kernel
theorem dX11_draft_13 : decode cX11_draft 13 = .ok (.iconst 0, 1) := by decide +kernel
theorem dX11_draft_14 : decode cX11_draft 14 = .ok (.bipush 60, 2) := by decide +kernel
theorem dX11_draft_16 : decode cX11_draft 16 = .ok (.invokevirtual 234, 3) := by decide +kernel
theorem dX11_draft_19 : decode cX11_draft 19 = .ok (.ifCond .ne 5, 3) := by decide +kernel
theorem dX11_draft_22 : decode cX11_draft 22 = .ok (.iconst (-1), 1) := by decide +kernel
theorem dX11_draft_23 : decode cX11_draft 23 = .ok (.ireturn, 1) := by decide +kernel
theorem dX11_draft_24 : decode cX11_draft 24 = .ok (.aload_n 0, 1) := by decide +kernel
theorem dX11_draft_25 : decode cX11_draft 25 = .ok (.getfield 77, 3) := by decide +kernel
theorem dX11_draft_28 : decode cX11_draft 28 = .ok (.aload_n 0, 1) := by decide +kernel
theorem dX11_draft_29 : decode cX11_draft 29 = .ok (.getfield 54, 3) := by decide +kernel
theorem dX11_draft_32 : decode cX11_draft 32 = .ok (.iload_n 1, 1) := by decide +kernel
theorem dX11_draft_33 : decode cX11_draft 33 = .ok (.aload_n 0, 1) := by decide +kernel
theorem dX11_draft_34 : decode cX11_draft 34 = .ok (.getfield 54, 3) := by decide +kernel
theorem dX11_draft_37 : decode cX11_draft 37 = .ok (.getfield 165, 3) := by decide +kernel
theorem dX11_draft_40 : decode cX11_draft 40 = .ok (.iload_n 2, 1) := by decide +kernel
theorem dX11_draft_41 : decode cX11_draft 41 = .ok (.iadd, 1) := by decide +kernel
theorem dX11_draft_42 : decode cX11_draft 42 = .ok (.invokevirtual 238, 3) := by decide +kernel
theorem dX11_draft_45 : decode cX11_draft 45 = .ok (.ireturn, 1) := by decide +kernel
theorem dX11_plan_0 : decode cX11_plan 0 = .ok (.iload_n 1, 1) := by decide +kernel
theorem dX11_plan_1 : decode cX11_plan 1 = .ok (.ifCond .lt 14, 3) := by decide +kernel
theorem dX11_plan_4 : decode cX11_plan 4 = .ok (.iload_n 1, 1) := by decide +kernel
theorem dX11_plan_5 : decode cX11_plan 5 = .ok (.aload_n 0, 1) := by decide +kernel
theorem dX11_plan_6 : decode cX11_plan 6 = .ok (.getfield 26, 3) := by decide +kernel
theorem dX11_plan_9 : decode cX11_plan 9 = .ok (.getfield 164, 3) := by decide +kernel
theorem dX11_plan_12 : decode cX11_plan 12 = .ok (.if_icmp .lt 5, 3) := by decide +kernel
theorem dX11_plan_15 : decode cX11_plan 15 = .ok (.iconst (-1), 1) := by decide +kernel
theorem dX11_plan_16 : decode cX11_plan 16 = .ok (.ireturn, 1) := by decide +kernel
theorem dX11_plan_17 : decode cX11_plan 17 = .ok (.iload_n 2, 1) := by decide +kernel
theorem dX11_plan_18 : decode cX11_plan 18 = .ok (.tableswitch 56 0 2 #[26, 36, 46], 26) := by decide +kernel
theorem dX11_plan_44 : decode cX11_plan 44 = .ok (.aload_n 0, 1) := by decide +kernel
theorem dX11_plan_45 : decode cX11_plan 45 = .ok (.getfield 26, 3) := by decide +kernel
theorem dX11_plan_48 : decode cX11_plan 48 = .ok (.getfield 242, 3) := by decide +kernel
theorem dX11_plan_51 : decode cX11_plan 51 = .ok (.iload_n 1, 1) := by decide +kernel
theorem dX11_plan_52 : decode cX11_plan 52 = .ok (.iaload, 1) := by decide +kernel
theorem dX11_plan_53 : decode cX11_plan 53 = .ok (.ireturn, 1) := by decide +kernel
theorem dX11_plan_54 : decode cX11_plan 54 = .ok (.aload_n 0, 1) := by decide +kernel
theorem dX11_plan_55 : decode cX11_plan 55 = .ok (.getfield 26, 3) := by decide +kernel
theorem dX11_plan_58 : decode cX11_plan 58 = .ok (.getfield 245, 3) := by decide +kernel
theorem dX11_plan_61 : decode cX11_plan 61 = .ok (.iload_n 1, 1) := by decide +kernel
theorem dX11_plan_62 : decode cX11_plan 62 = .ok (.iaload, 1) := by decide +kernel
theorem dX11_plan_63 : decode cX11_plan 63 = .ok (.ireturn, 1) := by decide +kernel
theorem dX11_plan_64 : decode cX11_plan 64 = .ok (.aload_n 0, 1) := by decide +kernel
theorem dX11_plan_65 : decode cX11_plan 65 = .ok (.getfield 26, 3) := by decide +kernel
theorem dX11_plan_68 : decode cX11_plan 68 = .ok (.getfield 248, 3) := by decide +kernel
theorem dX11_plan_71 : decode cX11_plan 71 = .ok (.iload_n 1, 1) := by decide +kernel
theorem dX11_plan_72 : decode cX11_plan 72 = .ok (.iaload, 1) := by decide +kernel
theorem dX11_plan_73 : decode cX11_plan 73 = .ok (.ireturn, 1) := by decide +kernel
theorem dX11_plan_74 : decode cX11_plan 74 = .ok (.iconst (-1), 1) := by decide +kernel
theorem dX11_plan_75 : decode cX11_plan 75 = .ok (.ireturn, 1) := by decide +kernel
theorem dX11_kept_0 : decode cX11_kept 0 = .ok (.iload_n 1, 1) := by decide +kernel
theorem dX11_kept_1 : decode cX11_kept 1 = .ok (.ifCond .lt 14, 3) := by decide +kernel
theorem dX11_kept_4 : decode cX11_kept 4 = .ok (.iload_n 1, 1) := by decide +kernel
theorem dX11_kept_5 : decode cX11_kept 5 = .ok (.aload_n 0, 1) := by decide +kernel
theorem dX11_kept_6 : decode cX11_kept 6 = .ok (.getfield 61, 3) := by decide +kernel
theorem dX11_kept_9 : decode cX11_kept 9 = .ok (.getfield 183, 3) := by decide +kernel
theorem dX11_kept_12 : decode cX11_kept 12 = .ok (.if_icmp .lt 5, 3) := by decide +kernel
theorem dX11_kept_15 : decode cX11_kept 15 = .ok (.iconst (-1), 1) := by decide +kernel
theorem dX11_kept_16 : decode cX11_kept 16 = .ok (.ireturn, 1) := by decide +kernel
theorem dX11_kept_17 : decode cX11_kept 17 = .ok (.iload_n 2, 1) := by decide +kernel
theorem dX11_kept_18 : decode cX11_kept 18 = .ok (.lookupswitch 44 #[(0, 26), (1, 35)], 26) := by decide +kernel
theorem dX11_kept_44 : decode cX11_kept 44 = .ok (.aload_n 0, 1) := by decide +kernel
theorem dX11_kept_45 : decode cX11_kept 45 = .ok (.getfield 61, 3) := by decide +kernel
theorem dX11_kept_48 : decode cX11_kept 48 = .ok (.iload_n 1, 1) := by decide +kernel
theorem dX11_kept_49 : decode cX11_kept 49 = .ok (.invokevirtual 251, 3) := by decide +kernel
theorem dX11_kept_52 : decode cX11_kept 52 = .ok (.ireturn, 1) := by decide +kernel
theorem dX11_kept_53 : decode cX11_kept 53 = .ok (.aload_n 0, 1) := by decide +kernel
theorem dX11_kept_54 : decode cX11_kept 54 = .ok (.getfield 61, 3) := by decide +kernel
theorem dX11_kept_57 : decode cX11_kept 57 = .ok (.iload_n 1, 1) := by decide +kernel
theorem dX11_kept_58 : decode cX11_kept 58 = .ok (.invokevirtual 254, 3) := by decide +kernel
theorem dX11_kept_61 : decode cX11_kept 61 = .ok (.ireturn, 1) := by decide +kernel
theorem dX11_kept_62 : decode cX11_kept 62 = .ok (.iconst (-1), 1) := by decide +kernel
theorem dX11_kept_63 : decode cX11_kept 63 = .ok (.ireturn, 1) := by decide +kernel
theorem dX11_later_0 : decode cX11_later 0 = .ok (.aload_n 0, 1) := by decide +kernel
theorem dX11_later_1 : decode cX11_later 1 = .ok (.iload_n 1, 1) := by decide +kernel
theorem dX11_later_2 : decode cX11_later 2 = .ok (.invokevirtual 197, 3) := by decide +kernel
theorem dX11_later_5 : decode cX11_later 5 = .ok (.ifCond .eq 17, 3) := by decide +kernel
theorem dX11_later_8 : decode cX11_later 8 = .ok (.aload_n 0, 1) := by decide +kernel
theorem dX11_later_9 : decode cX11_later 9 = .ok (.getfield 86, 3) := by decide +kernel
theorem dX11_later_12 : decode cX11_later 12 = .ok (.iload_n 2, 1) := by decide +kernel
theorem dX11_later_13 : decode cX11_later 13 = .ok (.iconst 0, 1) := by decide +kernel
theorem dX11_later_14 : decode cX11_later 14 = .ok (.bipush 60, 2) := by decide +kernel
theorem dX11_later_16 : decode cX11_later 16 = .ok (.invokevirtual 234, 3) := by decide +kernel
theorem dX11_later_19 : decode cX11_later 19 = .ok (.ifCond .ne 5, 3) := by decide +kernel
theorem dX11_later_22 : decode cX11_later 22 = .ok (.iconst (-1), 1) := by decide +kernel
theorem dX11_later_23 : decode cX11_later 23 = .ok (.ireturn, 1) := by decide +kernel
theorem dX11_later_24 : decode cX11_later 24 = .ok (.aload_n 0, 1) := by decide +kernel
theorem dX11_later_25 : decode cX11_later 25 = .ok (.getfield 86, 3) := by decide +kernel
theorem dX11_later_28 : decode cX11_later 28 = .ok (.invokevirtual 257, 3) := by decide +kernel
theorem dX11_later_31 : decode cX11_later 31 = .ok (.astore_n 3, 1) := by decide +kernel
theorem dX11_later_32 : decode cX11_later 32 = .ok (.iconst 0, 1) := by decide +kernel
theorem dX11_later_33 : decode cX11_later 33 = .ok (.istore 4, 2) := by decide +kernel
theorem dX11_later_35 : decode cX11_later 35 = .ok (.iload 4, 2) := by decide +kernel
theorem dX11_later_37 : decode cX11_later 37 = .ok (.iload_n 2, 1) := by decide +kernel
theorem dX11_later_38 : decode cX11_later 38 = .ok (.if_icmp .ge 18, 3) := by decide +kernel
theorem dX11_later_41 : decode cX11_later 41 = .ok (.aload_n 0, 1) := by decide +kernel
theorem dX11_later_42 : decode cX11_later 42 = .ok (.getfield 77, 3) := by decide +kernel
theorem dX11_later_45 : decode cX11_later 45 = .ok (.aload_n 3, 1) := by decide +kernel
theorem dX11_later_46 : decode cX11_later 46 = .ok (.invokevirtual 261, 3) := by decide +kernel
theorem dX11_later_49 : decode cX11_later 49 = .ok (.pop, 1) := by decide +kernel
theorem dX11_later_50 : decode cX11_later 50 = .ok (.iinc 4 1, 3) := by decide +kernel
theorem dX11_later_53 : decode cX11_later 53 = .ok (.goto (-18), 3) := by decide +kernel
theorem dX11_later_56 : decode cX11_later 56 = .ok (.aload_n 3, 1) := by decide +kernel
theorem dX11_later_57 : decode cX11_later 57 = .ok (.getfield 216, 3) := by decide +kernel
theorem dX11_later_60 : decode cX11_later 60 = .ok (.iload_n 1, 1) := by decide +kernel
theorem dX11_later_61 : decode cX11_later 61 = .ok (.iaload, 1) := by decide +kernel
theorem dX11_later_62 : decode cX11_later 62 = .ok (.ireturn, 1) := by decide +kernel
theorem dX11_held_0 : decode cX11_held 0 = .ok (.aload_n 0, 1) := by decide +kernel
theorem dX11_held_1 : decode cX11_held 1 = .ok (.iload_n 1, 1) := by decide +kernel
theorem dX11_held_2 : decode cX11_held 2 = .ok (.invokevirtual 197, 3) := by decide +kernel
theorem dX11_held_5 : decode cX11_held 5 = .ok (.ifCond .eq 17, 3) := by decide +kernel
theorem dX11_held_8 : decode cX11_held 8 = .ok (.aload_n 0, 1) := by decide +kernel
theorem dX11_held_9 : decode cX11_held 9 = .ok (.getfield 86, 3) := by decide +kernel
theorem dX11_held_12 : decode cX11_held 12 = .ok (.iload_n 2, 1) := by decide +kernel
theorem dX11_held_13 : decode cX11_held 13 = .ok (.iconst 0, 1) := by decide +kernel
theorem dX11_held_14 : decode cX11_held 14 = .ok (.bipush 60, 2) := by decide +kernel
theorem dX11_held_16 : decode cX11_held 16 = .ok (.invokevirtual 234, 3) := by decide +kernel
theorem dX11_held_19 : decode cX11_held 19 = .ok (.ifCond .ne 5, 3) := by decide +kernel
theorem dX11_held_22 : decode cX11_held 22 = .ok (.iconst (-1), 1) := by decide +kernel
theorem dX11_held_23 : decode cX11_held 23 = .ok (.ireturn, 1) := by decide +kernel
theorem dX11_held_24 : decode cX11_held 24 = .ok (.aload_n 0, 1) := by decide +kernel
theorem dX11_held_25 : decode cX11_held 25 = .ok (.getfield 86, 3) := by decide +kernel
theorem dX11_held_28 : decode cX11_held 28 = .ok (.invokevirtual 257, 3) := by decide +kernel
theorem dX11_held_31 : decode cX11_held 31 = .ok (.pop, 1) := by decide +kernel
theorem dX11_held_32 : decode cX11_held 32 = .ok (.aload_n 0, 1) := by decide +kernel
theorem dX11_held_33 : decode cX11_held 33 = .ok (.getfield 86, 3) := by decide +kernel
theorem dX11_held_36 : decode cX11_held 36 = .ok (.iload_n 2, 1) := by decide +kernel
theorem dX11_held_37 : decode cX11_held 37 = .ok (.invokevirtual 264, 3) := by decide +kernel
theorem dX11_held_40 : decode cX11_held 40 = .ok (.iload_n 1, 1) := by decide +kernel
theorem dX11_held_41 : decode cX11_held 41 = .ok (.ishr, 1) := by decide +kernel
theorem dX11_held_42 : decode cX11_held 42 = .ok (.iconst 1, 1) := by decide +kernel
theorem dX11_held_43 : decode cX11_held 43 = .ok (.iand, 1) := by decide +kernel
theorem dX11_held_44 : decode cX11_held 44 = .ok (.ireturn, 1) := by decide +kernel
theorem dX11_out_0 : decode cX11_out 0 = .ok (.aload_n 0, 1) := by decide +kernel
theorem dX11_out_1 : decode cX11_out 1 = .ok (.iload_n 1, 1) := by decide +kernel
theorem dX11_out_2 : decode cX11_out 2 = .ok (.invokevirtual 267, 3) := by decide +kernel
theorem dX11_out_5 : decode cX11_out 5 = .ok (.ifCond .eq 14, 3) := by decide +kernel
theorem dX11_out_8 : decode cX11_out 8 = .ok (.aload_n 0, 1) := by decide +kernel
theorem dX11_out_9 : decode cX11_out 9 = .ok (.getfield 86, 3) := by decide +kernel
theorem dX11_out_12 : decode cX11_out 12 = .ok (.iload_n 1, 1) := by decide +kernel
theorem dX11_out_13 : decode cX11_out 13 = .ok (.invokevirtual 270, 3) := by decide +kernel
theorem dX11_out_16 : decode cX11_out 16 = .ok (.goto 4, 3) := by decide +kernel
theorem dX11_out_19 : decode cX11_out 19 = .ok (.iconst (-1), 1) := by decide +kernel
theorem dX11_out_20 : decode cX11_out 20 = .ok (.ireturn, 1) := by decide +kernel
theorem dX11_trusted_0 : decode cX11_trusted 0 = .ok (.aload_n 0, 1) := by decide +kernel
theorem dX11_trusted_1 : decode cX11_trusted 1 = .ok (.iload_n 1, 1) := by decide +kernel
theorem dX11_trusted_2 : decode cX11_trusted 2 = .ok (.invokevirtual 197, 3) := by decide +kernel
theorem dX11_trusted_5 : decode cX11_trusted 5 = .ok (.ifCond .eq 12, 3) := by decide +kernel
theorem dX11_trusted_8 : decode cX11_trusted 8 = .ok (.iload_n 2, 1) := by decide +kernel
theorem dX11_trusted_9 : decode cX11_trusted 9 = .ok (.ifCond .lt 8, 3) := by decide +kernel
theorem dX11_trusted_12 : decode cX11_trusted 12 = .ok (.iload_n 2, 1) := by decide +kernel
theorem dX11_trusted_13 : decode cX11_trusted 13 = .ok (.iconst 1, 1) := by decide +kernel
theorem dX11_trusted_14 : decode cX11_trusted 14 = .ok (.if_icmp .le 5, 3) := by decide +kernel
theorem dX11_trusted_17 : decode cX11_trusted 17 = .ok (.iconst (-1), 1) := by decide +kernel
theorem dX11_trusted_18 : decode cX11_trusted 18 = .ok (.ireturn, 1) := by decide +kernel
theorem dX11_trusted_19 : decode cX11_trusted 19 = .ok (.aload_n 0, 1) := by decide +kernel
theorem dX11_trusted_20 : decode cX11_trusted 20 = .ok (.getfield 86, 3) := by decide +kernel
theorem dX11_trusted_23 : decode cX11_trusted 23 = .ok (.iload_n 1, 1) := by decide +kernel
theorem dX11_trusted_24 : decode cX11_trusted 24 = .ok (.iload_n 2, 1) := by decide +kernel
theorem dX11_trusted_25 : decode cX11_trusted 25 = .ok (.iconst 1, 1) := by decide +kernel
theorem dX11_trusted_26 : decode cX11_trusted 26 = .ok (.if_icmp .ne 7, 3) := by decide +kernel
theorem dX11_trusted_29 : decode cX11_trusted 29 = .ok (.iconst 1, 1) := by decide +kernel
theorem dX11_trusted_30 : decode cX11_trusted 30 = .ok (.goto 4, 3) := by decide +kernel
theorem dX11_trusted_33 : decode cX11_trusted 33 = .ok (.iconst 0, 1) := by decide +kernel
theorem dX11_trusted_34 : decode cX11_trusted 34 = .ok (.invokevirtual 273, 3) := by decide +kernel
theorem dX11_trusted_37 : decode cX11_trusted 37 = .ok (.ireturn, 1) := by decide +kernel
theorem dX11_shorts_0 : decode cX11_shorts 0 = .ok (.aload_n 0, 1) := by decide +kernel
theorem dX11_shorts_1 : decode cX11_shorts 1 = .ok (.iload_n 1, 1) := by decide +kernel
theorem dX11_shorts_2 : decode cX11_shorts 2 = .ok (.invokevirtual 197, 3) := by decide +kernel
theorem dX11_shorts_5 : decode cX11_shorts 5 = .ok (.ifCond .eq 25, 3) := by decide +kernel
theorem dX11_shorts_8 : decode cX11_shorts 8 = .ok (.aload_n 0, 1) := by decide +kernel
theorem dX11_shorts_9 : decode cX11_shorts 9 = .ok (.iload_n 1, 1) := by decide +kernel
theorem dX11_shorts_10 : decode cX11_shorts 10 = .ok (.invokevirtual 267, 3) := by decide +kernel
theorem dX11_shorts_13 : decode cX11_shorts 13 = .ok (.ifCond .ne 17, 3) := by decide +kernel
theorem dX11_shorts_16 : decode cX11_shorts 16 = .ok (.aload_n 0, 1) := by decide +kernel
theorem dX11_shorts_17 : decode cX11_shorts 17 = .ok (.getfield 86, 3) := by decide +kernel
theorem dX11_shorts_20 : decode cX11_shorts 20 = .ok (.iload_n 2, 1) := by decide +kernel
theorem dX11_shorts_21 : decode cX11_shorts 21 = .ok (.iconst 1, 1) := by decide +kernel
theorem dX11_shorts_22 : decode cX11_shorts 22 = .ok (.bipush 40, 2) := by decide +kernel
theorem dX11_shorts_24 : decode cX11_shorts 24 = .ok (.invokevirtual 234, 3) := by decide +kernel
theorem dX11_shorts_27 : decode cX11_shorts 27 = .ok (.ifCond .ne 5, 3) := by decide +kernel
theorem dX11_shorts_30 : decode cX11_shorts 30 = .ok (.iconst (-1), 1) := by decide +kernel
theorem dX11_shorts_31 : decode cX11_shorts 31 = .ok (.ireturn, 1) := by decide +kernel
theorem dX11_shorts_32 : decode cX11_shorts 32 = .ok (.aload_n 0, 1) := by decide +kernel
theorem dX11_shorts_33 : decode cX11_shorts 33 = .ok (.getfield 86, 3) := by decide +kernel
theorem dX11_shorts_36 : decode cX11_shorts 36 = .ok (.iconst 1, 1) := by decide +kernel
theorem dX11_shorts_37 : decode cX11_shorts 37 = .ok (.iload_n 1, 1) := by decide +kernel
theorem dX11_shorts_38 : decode cX11_shorts 38 = .ok (.ishl, 1) := by decide +kernel
theorem dX11_shorts_39 : decode cX11_shorts 39 = .ok (.iload_n 2, 1) := by decide +kernel
theorem dX11_shorts_40 : decode cX11_shorts 40 = .ok (.invokevirtual 277, 3) := by decide +kernel
theorem dX11_shorts_43 : decode cX11_shorts 43 = .ok (.ireturn, 1) := by decide +kernel
theorem dX11_together_0 : decode cX11_together 0 = .ok (.iload_n 1, 1) := by decide +kernel
theorem dX11_together_1 : decode cX11_together 1 = .ok (.ifCond .le 29, 3) := by decide +kernel
theorem dX11_together_4 : decode cX11_together 4 = .ok (.iload_n 1, 1) := by decide +kernel
theorem dX11_together_5 : decode cX11_together 5 = .ok (.aload_n 0, 1) := by decide +kernel
theorem dX11_together_6 : decode cX11_together 6 = .ok (.getfield 26, 3) := by decide +kernel
theorem dX11_together_9 : decode cX11_together 9 = .ok (.getfield 161, 3) := by decide +kernel
theorem dX11_together_12 : decode cX11_together 12 = .ok (.ishr, 1) := by decide +kernel
theorem dX11_together_13 : decode cX11_together 13 = .ok (.ifCond .ne 17, 3) := by decide +kernel
theorem dX11_together_16 : decode cX11_together 16 = .ok (.aload_n 0, 1) := by decide +kernel
theorem dX11_together_17 : decode cX11_together 17 = .ok (.getfield 86, 3) := by decide +kernel
theorem dX11_together_20 : decode cX11_together 20 = .ok (.iload_n 2, 1) := by decide +kernel
theorem dX11_together_21 : decode cX11_together 21 = .ok (.iconst 1, 1) := by decide +kernel
theorem dX11_together_22 : decode cX11_together 22 = .ok (.bipush 40, 2) := by decide +kernel
theorem dX11_together_24 : decode cX11_together 24 = .ok (.invokevirtual 234, 3) := by decide +kernel
theorem dX11_together_27 : decode cX11_together 27 = .ok (.ifCond .ne 5, 3) := by decide +kernel
theorem dX11_together_30 : decode cX11_together 30 = .ok (.iconst (-1), 1) := by decide +kernel
theorem dX11_together_31 : decode cX11_together 31 = .ok (.ireturn, 1) := by decide +kernel
theorem dX11_together_32 : decode cX11_together 32 = .ok (.aload_n 0, 1) := by decide +kernel
theorem dX11_together_33 : decode cX11_together 33 = .ok (.getfield 86, 3) := by decide +kernel
theorem dX11_together_36 : decode cX11_together 36 = .ok (.iload_n 1, 1) := by decide +kernel
theorem dX11_together_37 : decode cX11_together 37 = .ok (.iload_n 2, 1) := by decide +kernel
theorem dX11_together_38 : decode cX11_together 38 = .ok (.invokevirtual 277, 3) := by decide +kernel
theorem dX11_together_41 : decode cX11_together 41 = .ok (.ireturn, 1) := by decide +kernel
theorem dX11_keystone_0 : decode cX11_keystone 0 = .ok (.iload_n 2, 1) := by decide +kernel
theorem dX11_keystone_1 : decode cX11_keystone 1 = .ok (.ifCond .lt 36, 3) := by decide +kernel
theorem dX11_keystone_4 : decode cX11_keystone 4 = .ok (.iload_n 2, 1) := by decide +kernel
theorem dX11_keystone_5 : decode cX11_keystone 5 = .ok (.iconst 1, 1) := by decide +kernel
theorem dX11_keystone_6 : decode cX11_keystone 6 = .ok (.if_icmp .gt 31, 3) := by decide +kernel
theorem dX11_keystone_9 : decode cX11_keystone 9 = .ok (.aload_n 0, 1) := by decide +kernel
theorem dX11_keystone_10 : decode cX11_keystone 10 = .ok (.getfield 77, 3) := by decide +kernel
theorem dX11_keystone_13 : decode cX11_keystone 13 = .ok (.aload_n 0, 1) := by decide +kernel
theorem dX11_keystone_14 : decode cX11_keystone 14 = .ok (.getfield 54, 3) := by decide +kernel
theorem dX11_keystone_17 : decode cX11_keystone 17 = .ok (.invokevirtual 171, 3) := by decide +kernel
theorem dX11_keystone_20 : decode cX11_keystone 20 = .ok (.ifCond .eq 17, 3) := by decide +kernel
theorem dX11_keystone_23 : decode cX11_keystone 23 = .ok (.aload_n 0, 1) := by decide +kernel
theorem dX11_keystone_24 : decode cX11_keystone 24 = .ok (.getfield 86, 3) := by decide +kernel
theorem dX11_keystone_27 : decode cX11_keystone 27 = .ok (.iload_n 1, 1) := by decide +kernel
theorem dX11_keystone_28 : decode cX11_keystone 28 = .ok (.iconst 1, 1) := by decide +kernel
theorem dX11_keystone_29 : decode cX11_keystone 29 = .ok (.bipush 40, 2) := by decide +kernel
theorem dX11_keystone_31 : decode cX11_keystone 31 = .ok (.invokevirtual 234, 3) := by decide +kernel
theorem dX11_keystone_34 : decode cX11_keystone 34 = .ok (.ifCond .ne 5, 3) := by decide +kernel
theorem dX11_keystone_37 : decode cX11_keystone 37 = .ok (.iconst (-1), 1) := by decide +kernel
theorem dX11_keystone_38 : decode cX11_keystone 38 = .ok (.ireturn, 1) := by decide +kernel
theorem dX11_keystone_39 : decode cX11_keystone 39 = .ok (.aload_n 0, 1) := by decide +kernel
theorem dX11_keystone_40 : decode cX11_keystone 40 = .ok (.getfield 86, 3) := by decide +kernel
theorem dX11_keystone_43 : decode cX11_keystone 43 = .ok (.iload_n 1, 1) := by decide +kernel
theorem dX11_keystone_44 : decode cX11_keystone 44 = .ok (.invokevirtual 280, 3) := by decide +kernel
theorem dX11_keystone_47 : decode cX11_keystone 47 = .ok (.iload_n 2, 1) := by decide +kernel
theorem dX11_keystone_48 : decode cX11_keystone 48 = .ok (.ifCond .ne 13, 3) := by decide +kernel
theorem dX11_keystone_51 : decode cX11_keystone 51 = .ok (.aload_n 0, 1) := by decide +kernel
theorem dX11_keystone_52 : decode cX11_keystone 52 = .ok (.getfield 86, 3) := by decide +kernel
theorem dX11_keystone_55 : decode cX11_keystone 55 = .ok (.getfield 283, 3) := by decide +kernel
theorem dX11_keystone_58 : decode cX11_keystone 58 = .ok (.goto 10, 3) := by decide +kernel
theorem dX11_keystone_61 : decode cX11_keystone 61 = .ok (.aload_n 0, 1) := by decide +kernel
theorem dX11_keystone_62 : decode cX11_keystone 62 = .ok (.getfield 86, 3) := by decide +kernel
theorem dX11_keystone_65 : decode cX11_keystone 65 = .ok (.getfield 286, 3) := by decide +kernel
theorem dX11_keystone_68 : decode cX11_keystone 68 = .ok (.ireturn, 1) := by decide +kernel
theorem dX11_change_0 : decode cX11_change 0 = .ok (.iload_n 2, 1) := by decide +kernel
theorem dX11_change_1 : decode cX11_change 1 = .ok (.ifCond .lt 29, 3) := by decide +kernel
theorem dX11_change_4 : decode cX11_change 4 = .ok (.iload_n 2, 1) := by decide +kernel
theorem dX11_change_5 : decode cX11_change 5 = .ok (.iconst 2, 1) := by decide +kernel
theorem dX11_change_6 : decode cX11_change 6 = .ok (.if_icmp .gt 24, 3) := by decide +kernel
theorem dX11_change_9 : decode cX11_change 9 = .ok (.aload_n 0, 1) := by decide +kernel
theorem dX11_change_10 : decode cX11_change 10 = .ok (.invokevirtual 289, 3) := by decide +kernel
