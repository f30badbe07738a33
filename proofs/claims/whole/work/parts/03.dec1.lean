theorem dX4_isLetter_13 : decode cX4_isLetter 13 = .ok (.goto 4, 3) := by decide +kernel
theorem dX4_isLetter_16 : decode cX4_isLetter 16 = .ok (.iconst 0, 1) := by decide +kernel
theorem dX4_isLetter_17 : decode cX4_isLetter 17 = .ok (.ireturn, 1) := by decide +kernel
theorem dX4_takeDigit_0 : decode cX4_takeDigit 0 = .ok (.aload_n 0, 1) := by decide +kernel
theorem dX4_takeDigit_1 : decode cX4_takeDigit 1 = .ok (.invokevirtual 67, 3) := by decide +kernel
theorem dX4_takeDigit_4 : decode cX4_takeDigit 4 = .ok (.bipush 48, 2) := by decide +kernel
theorem dX4_takeDigit_6 : decode cX4_takeDigit 6 = .ok (.isub, 1) := by decide +kernel
theorem dX4_takeDigit_7 : decode cX4_takeDigit 7 = .ok (.istore_n 3, 1) := by decide +kernel
theorem dX4_takeDigit_8 : decode cX4_takeDigit 8 = .ok (.aload_n 0, 1) := by decide +kernel
theorem dX4_takeDigit_9 : decode cX4_takeDigit 9 = .ok (.getfield 36, 3) := by decide +kernel
theorem dX4_takeDigit_12 : decode cX4_takeDigit 12 = .ok (.ifCond .ne 13, 3) := by decide +kernel
theorem dX4_takeDigit_15 : decode cX4_takeDigit 15 = .ok (.iload_n 3, 1) := by decide +kernel
theorem dX4_takeDigit_16 : decode cX4_takeDigit 16 = .ok (.iload_n 1, 1) := by decide +kernel
theorem dX4_takeDigit_17 : decode cX4_takeDigit 17 = .ok (.if_icmp .lt 8, 3) := by decide +kernel
theorem dX4_takeDigit_20 : decode cX4_takeDigit 20 = .ok (.iload_n 3, 1) := by decide +kernel
theorem dX4_takeDigit_21 : decode cX4_takeDigit 21 = .ok (.iload_n 2, 1) := by decide +kernel
theorem dX4_takeDigit_22 : decode cX4_takeDigit 22 = .ok (.if_icmp .le 10, 3) := by decide +kernel
theorem dX4_takeDigit_25 : decode cX4_takeDigit 25 = .ok (.aload_n 0, 1) := by decide +kernel
theorem dX4_takeDigit_26 : decode cX4_takeDigit 26 = .ok (.iconst 1, 1) := by decide +kernel
theorem dX4_takeDigit_27 : decode cX4_takeDigit 27 = .ok (.putfield 36, 3) := by decide +kernel
theorem dX4_takeDigit_30 : decode cX4_takeDigit 30 = .ok (.iload_n 1, 1) := by decide +kernel
theorem dX4_takeDigit_31 : decode cX4_takeDigit 31 = .ok (.ireturn, 1) := by decide +kernel
theorem dX4_takeDigit_32 : decode cX4_takeDigit 32 = .ok (.aload_n 0, 1) := by decide +kernel
theorem dX4_takeDigit_33 : decode cX4_takeDigit 33 = .ok (.dup, 1) := by decide +kernel
theorem dX4_takeDigit_34 : decode cX4_takeDigit 34 = .ok (.getfield 33, 3) := by decide +kernel
theorem dX4_takeDigit_37 : decode cX4_takeDigit 37 = .ok (.iconst 1, 1) := by decide +kernel
theorem dX4_takeDigit_38 : decode cX4_takeDigit 38 = .ok (.iadd, 1) := by decide +kernel
theorem dX4_takeDigit_39 : decode cX4_takeDigit 39 = .ok (.putfield 33, 3) := by decide +kernel
theorem dX4_takeDigit_42 : decode cX4_takeDigit 42 = .ok (.iload_n 3, 1) := by decide +kernel
theorem dX4_takeDigit_43 : decode cX4_takeDigit 43 = .ok (.ireturn, 1) := by decide +kernel
theorem dX4_refuseLast_0 : decode cX4_refuseLast 0 = .ok (.aload_n 0, 1) := by decide +kernel
theorem dX4_refuseLast_1 : decode cX4_refuseLast 1 = .ok (.iconst 1, 1) := by decide +kernel
theorem dX4_refuseLast_2 : decode cX4_refuseLast 2 = .ok (.putfield 36, 3) := by decide +kernel
theorem dX4_refuseLast_5 : decode cX4_refuseLast 5 = .ok (.aload_n 0, 1) := by decide +kernel
theorem dX4_refuseLast_6 : decode cX4_refuseLast 6 = .ok (.dup, 1) := by decide +kernel
theorem dX4_refuseLast_7 : decode cX4_refuseLast 7 = .ok (.getfield 33, 3) := by decide +kernel
theorem dX4_refuseLast_10 : decode cX4_refuseLast 10 = .ok (.iconst 1, 1) := by decide +kernel
theorem dX4_refuseLast_11 : decode cX4_refuseLast 11 = .ok (.isub, 1) := by decide +kernel
theorem dX4_refuseLast_12 : decode cX4_refuseLast 12 = .ok (.putfield 33, 3) := by decide +kernel
theorem dX4_refuseLast_15 : decode cX4_refuseLast 15 = .ok (.return_, 1) := by decide +kernel
theorem dX5_init_0 : decode cX5_init 0 = .ok (.aload_n 0, 1) := by decide +kernel
theorem dX5_init_1 : decode cX5_init 1 = .ok (.invokespecial 3, 3) := by decide +kernel
theorem dX5_init_4 : decode cX5_init 4 = .ok (.aload_n 0, 1) := by decide +kernel
theorem dX5_init_5 : decode cX5_init 5 = .ok (.bipush 6, 2) := by decide +kernel
theorem dX5_init_7 : decode cX5_init 7 = .ok (.newarray .int, 2) := by decide +kernel
theorem dX5_init_9 : decode cX5_init 9 = .ok (.putfield 9, 3) := by decide +kernel
theorem dX5_init_12 : decode cX5_init 12 = .ok (.aload_n 0, 1) := by decide +kernel
theorem dX5_init_13 : decode cX5_init 13 = .ok (.bipush 6, 2) := by decide +kernel
theorem dX5_init_15 : decode cX5_init 15 = .ok (.newarray .int, 2) := by decide +kernel
theorem dX5_init_17 : decode cX5_init 17 = .ok (.putfield 15, 3) := by decide +kernel
theorem dX5_init_20 : decode cX5_init 20 = .ok (.aload_n 0, 1) := by decide +kernel
theorem dX5_init_21 : decode cX5_init 21 = .ok (.bipush 6, 2) := by decide +kernel
theorem dX5_init_23 : decode cX5_init 23 = .ok (.newarray .boolean, 2) := by decide +kernel
theorem dX5_init_25 : decode cX5_init 25 = .ok (.putfield 18, 3) := by decide +kernel
theorem dX5_init_28 : decode cX5_init 28 = .ok (.aload_n 0, 1) := by decide +kernel
theorem dX5_init_29 : decode cX5_init 29 = .ok (.iconst 0, 1) := by decide +kernel
theorem dX5_init_30 : decode cX5_init 30 = .ok (.putfield 22, 3) := by decide +kernel
theorem dX5_init_33 : decode cX5_init 33 = .ok (.return_, 1) := by decide +kernel
theorem dX5_append_0 : decode cX5_append 0 = .ok (.aload_n 0, 1) := by decide +kernel
theorem dX5_append_1 : decode cX5_append 1 = .ok (.getfield 22, 3) := by decide +kernel
theorem dX5_append_4 : decode cX5_append 4 = .ok (.ifCond .lt 52, 3) := by decide +kernel
theorem dX5_append_7 : decode cX5_append 7 = .ok (.aload_n 0, 1) := by decide +kernel
theorem dX5_append_8 : decode cX5_append 8 = .ok (.getfield 22, 3) := by decide +kernel
theorem dX5_append_11 : decode cX5_append 11 = .ok (.bipush 6, 2) := by decide +kernel
theorem dX5_append_13 : decode cX5_append 13 = .ok (.if_icmp .ge 43, 3) := by decide +kernel
theorem dX5_append_16 : decode cX5_append 16 = .ok (.aload_n 0, 1) := by decide +kernel
theorem dX5_append_17 : decode cX5_append 17 = .ok (.getfield 9, 3) := by decide +kernel
theorem dX5_append_20 : decode cX5_append 20 = .ok (.aload_n 0, 1) := by decide +kernel
theorem dX5_append_21 : decode cX5_append 21 = .ok (.getfield 22, 3) := by decide +kernel
theorem dX5_append_24 : decode cX5_append 24 = .ok (.iload_n 1, 1) := by decide +kernel
theorem dX5_append_25 : decode cX5_append 25 = .ok (.iastore, 1) := by decide +kernel
theorem dX5_append_26 : decode cX5_append 26 = .ok (.aload_n 0, 1) := by decide +kernel
theorem dX5_append_27 : decode cX5_append 27 = .ok (.getfield 15, 3) := by decide +kernel
theorem dX5_append_30 : decode cX5_append 30 = .ok (.aload_n 0, 1) := by decide +kernel
theorem dX5_append_31 : decode cX5_append 31 = .ok (.getfield 22, 3) := by decide +kernel
theorem dX5_append_34 : decode cX5_append 34 = .ok (.iload_n 2, 1) := by decide +kernel
theorem dX5_append_35 : decode cX5_append 35 = .ok (.iastore, 1) := by decide +kernel
theorem dX5_append_36 : decode cX5_append 36 = .ok (.aload_n 0, 1) := by decide +kernel
theorem dX5_append_37 : decode cX5_append 37 = .ok (.getfield 18, 3) := by decide +kernel
theorem dX5_append_40 : decode cX5_append 40 = .ok (.aload_n 0, 1) := by decide +kernel
theorem dX5_append_41 : decode cX5_append 41 = .ok (.getfield 22, 3) := by decide +kernel
theorem dX5_append_44 : decode cX5_append 44 = .ok (.iload_n 3, 1) := by decide +kernel
theorem dX5_append_45 : decode cX5_append 45 = .ok (.bastore, 1) := by decide +kernel
theorem dX5_append_46 : decode cX5_append 46 = .ok (.aload_n 0, 1) := by decide +kernel
theorem dX5_append_47 : decode cX5_append 47 = .ok (.dup, 1) := by decide +kernel
theorem dX5_append_48 : decode cX5_append 48 = .ok (.getfield 22, 3) := by decide +kernel
theorem dX5_append_51 : decode cX5_append 51 = .ok (.iconst 1, 1) := by decide +kernel
theorem dX5_append_52 : decode cX5_append 52 = .ok (.iadd, 1) := by decide +kernel
theorem dX5_append_53 : decode cX5_append 53 = .ok (.putfield 22, 3) := by decide +kernel
theorem dX5_append_56 : decode cX5_append 56 = .ok (.return_, 1) := by decide +kernel
theorem dX6_init_0 : decode cX6_init 0 = .ok (.aload_n 0, 1) := by decide +kernel
theorem dX6_init_1 : decode cX6_init 1 = .ok (.invokespecial 3, 3) := by decide +kernel
theorem dX6_init_4 : decode cX6_init 4 = .ok (.aload_n 0, 1) := by decide +kernel
theorem dX6_init_5 : decode cX6_init 5 = .ok (.bipush 24, 2) := by decide +kernel
theorem dX6_init_7 : decode cX6_init 7 = .ok (.newarray .int, 2) := by decide +kernel
theorem dX6_init_9 : decode cX6_init 9 = .ok (.putfield 9, 3) := by decide +kernel
theorem dX6_init_12 : decode cX6_init 12 = .ok (.aload_n 0, 1) := by decide +kernel
theorem dX6_init_13 : decode cX6_init 13 = .ok (.bipush 9, 2) := by decide +kernel
theorem dX6_init_15 : decode cX6_init 15 = .ok (.newarray .int, 2) := by decide +kernel
theorem dX6_init_17 : decode cX6_init 17 = .ok (.putfield 15, 3) := by decide +kernel
theorem dX6_init_20 : decode cX6_init 20 = .ok (.aload_n 0, 1) := by decide +kernel
theorem dX6_init_21 : decode cX6_init 21 = .ok (.bipush 8, 2) := by decide +kernel
theorem dX6_init_23 : decode cX6_init 23 = .ok (.newarray .int, 2) := by decide +kernel
theorem dX6_init_25 : decode cX6_init 25 = .ok (.putfield 18, 3) := by decide +kernel
theorem dX6_init_28 : decode cX6_init 28 = .ok (.aload_n 0, 1) := by decide +kernel
theorem dX6_init_29 : decode cX6_init 29 = .ok (.iconst 0, 1) := by decide +kernel
theorem dX6_init_30 : decode cX6_init 30 = .ok (.putfield 21, 3) := by decide +kernel
theorem dX6_init_33 : decode cX6_init 33 = .ok (.aload_n 0, 1) := by decide +kernel
theorem dX6_init_34 : decode cX6_init 34 = .ok (.iconst 0, 1) := by decide +kernel
theorem dX6_init_35 : decode cX6_init 35 = .ok (.putfield 25, 3) := by decide +kernel
theorem dX6_init_38 : decode cX6_init 38 = .ok (.aload_n 0, 1) := by decide +kernel
theorem dX6_init_39 : decode cX6_init 39 = .ok (.getfield 15, 3) := by decide +kernel
theorem dX6_init_42 : decode cX6_init 42 = .ok (.iconst 1, 1) := by decide +kernel
theorem dX6_init_43 : decode cX6_init 43 = .ok (.invokestatic 28, 3) := by decide +kernel
theorem dX6_init_46 : decode cX6_init 46 = .ok (.return_, 1) := by decide +kernel
theorem dX6_copyFrom_0 : decode cX6_copyFrom 0 = .ok (.aload_n 1, 1) := by decide +kernel
theorem dX6_copyFrom_1 : decode cX6_copyFrom 1 = .ok (.getfield 9, 3) := by decide +kernel
theorem dX6_copyFrom_4 : decode cX6_copyFrom 4 = .ok (.iconst 0, 1) := by decide +kernel
theorem dX6_copyFrom_5 : decode cX6_copyFrom 5 = .ok (.aload_n 0, 1) := by decide +kernel
theorem dX6_copyFrom_6 : decode cX6_copyFrom 6 = .ok (.getfield 9, 3) := by decide +kernel
theorem dX6_copyFrom_9 : decode cX6_copyFrom 9 = .ok (.iconst 0, 1) := by decide +kernel
theorem dX6_copyFrom_10 : decode cX6_copyFrom 10 = .ok (.bipush 24, 2) := by decide +kernel
theorem dX6_copyFrom_12 : decode cX6_copyFrom 12 = .ok (.invokestatic 34, 3) := by decide +kernel
theorem dX6_copyFrom_15 : decode cX6_copyFrom 15 = .ok (.aload_n 1, 1) := by decide +kernel
theorem dX6_copyFrom_16 : decode cX6_copyFrom 16 = .ok (.getfield 15, 3) := by decide +kernel
theorem dX6_copyFrom_19 : decode cX6_copyFrom 19 = .ok (.iconst 0, 1) := by decide +kernel
theorem dX6_copyFrom_20 : decode cX6_copyFrom 20 = .ok (.aload_n 0, 1) := by decide +kernel
theorem dX6_copyFrom_21 : decode cX6_copyFrom 21 = .ok (.getfield 15, 3) := by decide +kernel
theorem dX6_copyFrom_24 : decode cX6_copyFrom 24 = .ok (.iconst 0, 1) := by decide +kernel
theorem dX6_copyFrom_25 : decode cX6_copyFrom 25 = .ok (.bipush 9, 2) := by decide +kernel
theorem dX6_copyFrom_27 : decode cX6_copyFrom 27 = .ok (.invokestatic 34, 3) := by decide +kernel
theorem dX6_copyFrom_30 : decode cX6_copyFrom 30 = .ok (.aload_n 1, 1) := by decide +kernel
theorem dX6_copyFrom_31 : decode cX6_copyFrom 31 = .ok (.getfield 18, 3) := by decide +kernel
theorem dX6_copyFrom_34 : decode cX6_copyFrom 34 = .ok (.iconst 0, 1) := by decide +kernel
theorem dX6_copyFrom_35 : decode cX6_copyFrom 35 = .ok (.aload_n 0, 1) := by decide +kernel
theorem dX6_copyFrom_36 : decode cX6_copyFrom 36 = .ok (.getfield 18, 3) := by decide +kernel
theorem dX6_copyFrom_39 : decode cX6_copyFrom 39 = .ok (.iconst 0, 1) := by decide +kernel
theorem dX6_copyFrom_40 : decode cX6_copyFrom 40 = .ok (.bipush 8, 2) := by decide +kernel
theorem dX6_copyFrom_42 : decode cX6_copyFrom 42 = .ok (.invokestatic 34, 3) := by decide +kernel
theorem dX6_copyFrom_45 : decode cX6_copyFrom 45 = .ok (.aload_n 0, 1) := by decide +kernel
theorem dX6_copyFrom_46 : decode cX6_copyFrom 46 = .ok (.aload_n 1, 1) := by decide +kernel
theorem dX6_copyFrom_47 : decode cX6_copyFrom 47 = .ok (.getfield 21, 3) := by decide +kernel
theorem dX6_copyFrom_50 : decode cX6_copyFrom 50 = .ok (.putfield 21, 3) := by decide +kernel
theorem dX6_copyFrom_53 : decode cX6_copyFrom 53 = .ok (.aload_n 0, 1) := by decide +kernel
theorem dX6_copyFrom_54 : decode cX6_copyFrom 54 = .ok (.aload_n 1, 1) := by decide +kernel
theorem dX6_copyFrom_55 : decode cX6_copyFrom 55 = .ok (.getfield 25, 3) := by decide +kernel
theorem dX6_copyFrom_58 : decode cX6_copyFrom 58 = .ok (.putfield 25, 3) := by decide +kernel
theorem dX6_copyFrom_61 : decode cX6_copyFrom 61 = .ok (.return_, 1) := by decide +kernel
theorem dX6_hasUnit_0 : decode cX6_hasUnit 0 = .ok (.iload_n 1, 1) := by decide +kernel
theorem dX6_hasUnit_1 : decode cX6_hasUnit 1 = .ok (.ifCond .lt 15, 3) := by decide +kernel
theorem dX6_hasUnit_4 : decode cX6_hasUnit 4 = .ok (.iload_n 1, 1) := by decide +kernel
theorem dX6_hasUnit_5 : decode cX6_hasUnit 5 = .ok (.aload_n 0, 1) := by decide +kernel
theorem dX6_hasUnit_6 : decode cX6_hasUnit 6 = .ok (.getfield 21, 3) := by decide +kernel
theorem dX6_hasUnit_9 : decode cX6_hasUnit 9 = .ok (.if_icmp .ge 7, 3) := by decide +kernel
theorem dX6_hasUnit_12 : decode cX6_hasUnit 12 = .ok (.iconst 1, 1) := by decide +kernel
theorem dX6_hasUnit_13 : decode cX6_hasUnit 13 = .ok (.goto 4, 3) := by decide +kernel
theorem dX6_hasUnit_16 : decode cX6_hasUnit 16 = .ok (.iconst 0, 1) := by decide +kernel
theorem dX6_hasUnit_17 : decode cX6_hasUnit 17 = .ok (.ireturn, 1) := by decide +kernel
theorem dX6_countGaps_0 : decode cX6_countGaps 0 = .ok (.iconst 0, 1) := by decide +kernel
theorem dX6_countGaps_1 : decode cX6_countGaps 1 = .ok (.istore_n 1, 1) := by decide +kernel
theorem dX6_countGaps_2 : decode cX6_countGaps 2 = .ok (.iconst 0, 1) := by decide +kernel
theorem dX6_countGaps_3 : decode cX6_countGaps 3 = .ok (.istore_n 2, 1) := by decide +kernel
theorem dX6_countGaps_4 : decode cX6_countGaps 4 = .ok (.iload_n 2, 1) := by decide +kernel
theorem dX6_countGaps_5 : decode cX6_countGaps 5 = .ok (.aload_n 0, 1) := by decide +kernel
theorem dX6_countGaps_6 : decode cX6_countGaps 6 = .ok (.getfield 21, 3) := by decide +kernel
theorem dX6_countGaps_9 : decode cX6_countGaps 9 = .ok (.if_icmp .ge 23, 3) := by decide +kernel
theorem dX6_countGaps_12 : decode cX6_countGaps 12 = .ok (.aload_n 0, 1) := by decide +kernel
theorem dX6_countGaps_13 : decode cX6_countGaps 13 = .ok (.getfield 9, 3) := by decide +kernel
theorem dX6_countGaps_16 : decode cX6_countGaps 16 = .ok (.iload_n 2, 1) := by decide +kernel
theorem dX6_countGaps_17 : decode cX6_countGaps 17 = .ok (.iaload, 1) := by decide +kernel
theorem dX6_countGaps_18 : decode cX6_countGaps 18 = .ok (.bipush 7, 2) := by decide +kernel
theorem dX6_countGaps_20 : decode cX6_countGaps 20 = .ok (.if_icmp .ne 6, 3) := by decide +kernel
theorem dX6_countGaps_23 : decode cX6_countGaps 23 = .ok (.iinc 1 1, 3) := by decide +kernel
theorem dX6_countGaps_26 : decode cX6_countGaps 26 = .ok (.iinc 2 1, 3) := by decide +kernel
theorem dX6_countGaps_29 : decode cX6_countGaps 29 = .ok (.goto (-25), 3) := by decide +kernel
theorem dX6_countGaps_32 : decode cX6_countGaps 32 = .ok (.iload_n 1, 1) := by decide +kernel
theorem dX6_countGaps_33 : decode cX6_countGaps 33 = .ok (.ireturn, 1) := by decide +kernel
theorem dX6_isFree_0 : decode cX6_isFree 0 = .ok (.iload_n 1, 1) := by decide +kernel
theorem dX6_isFree_1 : decode cX6_isFree 1 = .ok (.ifCond .lt 13, 3) := by decide +kernel
theorem dX6_isFree_4 : decode cX6_isFree 4 = .ok (.iload_n 1, 1) := by decide +kernel
theorem dX6_isFree_5 : decode cX6_isFree 5 = .ok (.iload_n 2, 1) := by decide +kernel
theorem dX6_isFree_6 : decode cX6_isFree 6 = .ok (.iadd, 1) := by decide +kernel
theorem dX6_isFree_7 : decode cX6_isFree 7 = .ok (.aload_n 0, 1) := by decide +kernel
theorem dX6_isFree_8 : decode cX6_isFree 8 = .ok (.getfield 21, 3) := by decide +kernel
theorem dX6_isFree_11 : decode cX6_isFree 11 = .ok (.if_icmp .le 5, 3) := by decide +kernel
theorem dX6_isFree_14 : decode cX6_isFree 14 = .ok (.iconst 0, 1) := by decide +kernel
theorem dX6_isFree_15 : decode cX6_isFree 15 = .ok (.ireturn, 1) := by decide +kernel
theorem dX6_isFree_16 : decode cX6_isFree 16 = .ok (.iconst 0, 1) := by decide +kernel
theorem dX6_isFree_17 : decode cX6_isFree 17 = .ok (.istore_n 3, 1) := by decide +kernel
theorem dX6_isFree_18 : decode cX6_isFree 18 = .ok (.iload_n 3, 1) := by decide +kernel
theorem dX6_isFree_19 : decode cX6_isFree 19 = .ok (.iload_n 2, 1) := by decide +kernel
theorem dX6_isFree_20 : decode cX6_isFree 20 = .ok (.if_icmp .ge 24, 3) := by decide +kernel
theorem dX6_isFree_23 : decode cX6_isFree 23 = .ok (.aload_n 0, 1) := by decide +kernel
theorem dX6_isFree_24 : decode cX6_isFree 24 = .ok (.getfield 9, 3) := by decide +kernel
theorem dX6_isFree_27 : decode cX6_isFree 27 = .ok (.iload_n 1, 1) := by decide +kernel
theorem dX6_isFree_28 : decode cX6_isFree 28 = .ok (.iload_n 3, 1) := by decide +kernel
theorem dX6_isFree_29 : decode cX6_isFree 29 = .ok (.iadd, 1) := by decide +kernel
theorem dX6_isFree_30 : decode cX6_isFree 30 = .ok (.iaload, 1) := by decide +kernel
theorem dX6_isFree_31 : decode cX6_isFree 31 = .ok (.bipush 7, 2) := by decide +kernel
theorem dX6_isFree_33 : decode cX6_isFree 33 = .ok (.if_icmp .eq 5, 3) := by decide +kernel
theorem dX6_isFree_36 : decode cX6_isFree 36 = .ok (.iconst 0, 1) := by decide +kernel
theorem dX6_isFree_37 : decode cX6_isFree 37 = .ok (.ireturn, 1) := by decide +kernel
theorem dX6_isFree_38 : decode cX6_isFree 38 = .ok (.iinc 3 1, 3) := by decide +kernel
theorem dX6_isFree_41 : decode cX6_isFree 41 = .ok (.goto (-23), 3) := by decide +kernel
theorem dX6_isFree_44 : decode cX6_isFree 44 = .ok (.iconst 1, 1) := by decide +kernel
theorem dX6_isFree_45 : decode cX6_isFree 45 = .ok (.ireturn, 1) := by decide +kernel
theorem dX6_putSign_0 : decode cX6_putSign 0 = .ok (.iconst 0, 1) := by decide +kernel
theorem dX6_putSign_1 : decode cX6_putSign 1 = .ok (.istore 4, 2) := by decide +kernel
theorem dX6_putSign_3 : decode cX6_putSign 3 = .ok (.iload 4, 2) := by decide +kernel
theorem dX6_putSign_5 : decode cX6_putSign 5 = .ok (.iload_n 3, 1) := by decide +kernel
theorem dX6_putSign_6 : decode cX6_putSign 6 = .ok (.if_icmp .ge 40, 3) := by decide +kernel
theorem dX6_putSign_9 : decode cX6_putSign 9 = .ok (.aload_n 0, 1) := by decide +kernel
theorem dX6_putSign_10 : decode cX6_putSign 10 = .ok (.iload_n 1, 1) := by decide +kernel
theorem dX6_putSign_11 : decode cX6_putSign 11 = .ok (.iload 4, 2) := by decide +kernel
theorem dX6_putSign_13 : decode cX6_putSign 13 = .ok (.iadd, 1) := by decide +kernel
theorem dX6_putSign_14 : decode cX6_putSign 14 = .ok (.invokevirtual 40, 3) := by decide +kernel
theorem dX6_putSign_17 : decode cX6_putSign 17 = .ok (.ifCond .eq 29, 3) := by decide +kernel
theorem dX6_putSign_20 : decode cX6_putSign 20 = .ok (.aload_n 0, 1) := by decide +kernel
theorem dX6_putSign_21 : decode cX6_putSign 21 = .ok (.getfield 9, 3) := by decide +kernel
theorem dX6_putSign_24 : decode cX6_putSign 24 = .ok (.iload_n 1, 1) := by decide +kernel
theorem dX6_putSign_25 : decode cX6_putSign 25 = .ok (.iload 4, 2) := by decide +kernel
theorem dX6_putSign_27 : decode cX6_putSign 27 = .ok (.iadd, 1) := by decide +kernel
theorem dX6_putSign_28 : decode cX6_putSign 28 = .ok (.iload 4, 2) := by decide +kernel
theorem dX6_putSign_30 : decode cX6_putSign 30 = .ok (.ifCond .ne 7, 3) := by decide +kernel
theorem dX6_putSign_33 : decode cX6_putSign 33 = .ok (.iload_n 2, 1) := by decide +kernel
theorem dX6_putSign_34 : decode cX6_putSign 34 = .ok (.goto 5, 3) := by decide +kernel
theorem dX6_putSign_37 : decode cX6_putSign 37 = .ok (.bipush 8, 2) := by decide +kernel
theorem dX6_putSign_39 : decode cX6_putSign 39 = .ok (.iastore, 1) := by decide +kernel
theorem dX6_putSign_40 : decode cX6_putSign 40 = .ok (.iinc 4 1, 3) := by decide +kernel
theorem dX6_putSign_43 : decode cX6_putSign 43 = .ok (.goto (-40), 3) := by decide +kernel
theorem dX6_putSign_46 : decode cX6_putSign 46 = .ok (.return_, 1) := by decide +kernel
theorem dX6_putGap_0 : decode cX6_putGap 0 = .ok (.iconst 0, 1) := by decide +kernel
theorem dX6_putGap_1 : decode cX6_putGap 1 = .ok (.istore_n 3, 1) := by decide +kernel
theorem dX6_putGap_2 : decode cX6_putGap 2 = .ok (.iload_n 3, 1) := by decide +kernel
theorem dX6_putGap_3 : decode cX6_putGap 3 = .ok (.iload_n 2, 1) := by decide +kernel
theorem dX6_putGap_4 : decode cX6_putGap 4 = .ok (.if_icmp .ge 29, 3) := by decide +kernel
theorem dX6_putGap_7 : decode cX6_putGap 7 = .ok (.aload_n 0, 1) := by decide +kernel
theorem dX6_putGap_8 : decode cX6_putGap 8 = .ok (.iload_n 1, 1) := by decide +kernel
theorem dX6_putGap_9 : decode cX6_putGap 9 = .ok (.iload_n 3, 1) := by decide +kernel
theorem dX6_putGap_10 : decode cX6_putGap 10 = .ok (.iadd, 1) := by decide +kernel
theorem dX6_putGap_11 : decode cX6_putGap 11 = .ok (.invokevirtual 40, 3) := by decide +kernel
theorem dX6_putGap_14 : decode cX6_putGap 14 = .ok (.ifCond .eq 19, 3) := by decide +kernel
theorem dX6_putGap_17 : decode cX6_putGap 17 = .ok (.aload_n 0, 1) := by decide +kernel
theorem dX6_putGap_18 : decode cX6_putGap 18 = .ok (.getfield 9, 3) := by decide +kernel
theorem dX6_putGap_21 : decode cX6_putGap 21 = .ok (.iload_n 1, 1) := by decide +kernel
theorem dX6_putGap_22 : decode cX6_putGap 22 = .ok (.iload_n 3, 1) := by decide +kernel
theorem dX6_putGap_23 : decode cX6_putGap 23 = .ok (.iadd, 1) := by decide +kernel
theorem dX6_putGap_24 : decode cX6_putGap 24 = .ok (.bipush 7, 2) := by decide +kernel
theorem dX6_putGap_26 : decode cX6_putGap 26 = .ok (.iastore, 1) := by decide +kernel
theorem dX6_putGap_27 : decode cX6_putGap 27 = .ok (.iinc 3 1, 3) := by decide +kernel
theorem dX6_putGap_30 : decode cX6_putGap 30 = .ok (.goto (-28), 3) := by decide +kernel
theorem dX6_putGap_33 : decode cX6_putGap 33 = .ok (.return_, 1) := by decide +kernel
theorem dX6_holdsBlank_0 : decode cX6_holdsBlank 0 = .ok (.aload_n 0, 1) := by decide +kernel
theorem dX6_holdsBlank_1 : decode cX6_holdsBlank 1 = .ok (.iload_n 1, 1) := by decide +kernel
theorem dX6_holdsBlank_2 : decode cX6_holdsBlank 2 = .ok (.invokevirtual 40, 3) := by decide +kernel
theorem dX6_holdsBlank_5 : decode cX6_holdsBlank 5 = .ok (.ifCond .eq 29, 3) := by decide +kernel
theorem dX6_holdsBlank_8 : decode cX6_holdsBlank 8 = .ok (.aload_n 0, 1) := by decide +kernel
theorem dX6_holdsBlank_9 : decode cX6_holdsBlank 9 = .ok (.getfield 9, 3) := by decide +kernel
theorem dX6_holdsBlank_12 : decode cX6_holdsBlank 12 = .ok (.iload_n 1, 1) := by decide +kernel
theorem dX6_holdsBlank_13 : decode cX6_holdsBlank 13 = .ok (.iaload, 1) := by decide +kernel
theorem dX6_holdsBlank_14 : decode cX6_holdsBlank 14 = .ok (.bipush 6, 2) := by decide +kernel
theorem dX6_holdsBlank_16 : decode cX6_holdsBlank 16 = .ok (.if_icmp .eq 14, 3) := by decide +kernel
theorem dX6_holdsBlank_19 : decode cX6_holdsBlank 19 = .ok (.aload_n 0, 1) := by decide +kernel
theorem dX6_holdsBlank_20 : decode cX6_holdsBlank 20 = .ok (.getfield 9, 3) := by decide +kernel
theorem dX6_holdsBlank_23 : decode cX6_holdsBlank 23 = .ok (.iload_n 1, 1) := by decide +kernel
theorem dX6_holdsBlank_24 : decode cX6_holdsBlank 24 = .ok (.iaload, 1) := by decide +kernel
theorem dX6_holdsBlank_25 : decode cX6_holdsBlank 25 = .ok (.bipush 7, 2) := by decide +kernel
theorem dX6_holdsBlank_27 : decode cX6_holdsBlank 27 = .ok (.if_icmp .ne 7, 3) := by decide +kernel
theorem dX6_holdsBlank_30 : decode cX6_holdsBlank 30 = .ok (.iconst 1, 1) := by decide +kernel
theorem dX6_holdsBlank_31 : decode cX6_holdsBlank 31 = .ok (.goto 4, 3) := by decide +kernel
theorem dX6_holdsBlank_34 : decode cX6_holdsBlank 34 = .ok (.iconst 0, 1) := by decide +kernel
theorem dX6_holdsBlank_35 : decode cX6_holdsBlank 35 = .ok (.ireturn, 1) := by decide +kernel
theorem dX6_holdsWord_0 : decode cX6_holdsWord 0 = .ok (.aload_n 1, 1) := by decide +kernel
theorem dX6_holdsWord_1 : decode cX6_holdsWord 1 = .ok (.iload_n 2, 1) := by decide +kernel
theorem dX6_holdsWord_2 : decode cX6_holdsWord 2 = .ok (.invokevirtual 44, 3) := by decide +kernel
theorem dX6_holdsWord_5 : decode cX6_holdsWord 5 = .ok (.ifCond .ne 5, 3) := by decide +kernel
theorem dX6_holdsWord_8 : decode cX6_holdsWord 8 = .ok (.iconst 0, 1) := by decide +kernel
theorem dX6_holdsWord_9 : decode cX6_holdsWord 9 = .ok (.ireturn, 1) := by decide +kernel
theorem dX6_holdsWord_10 : decode cX6_holdsWord 10 = .ok (.iload_n 3, 1) := by decide +kernel
theorem dX6_holdsWord_11 : decode cX6_holdsWord 11 = .ok (.istore 4, 2) := by decide +kernel
theorem dX6_holdsWord_13 : decode cX6_holdsWord 13 = .ok (.iconst 0, 1) := by decide +kernel
theorem dX6_holdsWord_14 : decode cX6_holdsWord 14 = .ok (.istore 5, 2) := by decide +kernel
theorem dX6_holdsWord_16 : decode cX6_holdsWord 16 = .ok (.iload 5, 2) := by decide +kernel
theorem dX6_holdsWord_18 : decode cX6_holdsWord 18 = .ok (.aload_n 1, 1) := by decide +kernel
theorem dX6_holdsWord_19 : decode cX6_holdsWord 19 = .ok (.getfield 49, 3) := by decide +kernel
theorem dX6_holdsWord_22 : decode cX6_holdsWord 22 = .ok (.iload_n 2, 1) := by decide +kernel
theorem dX6_holdsWord_23 : decode cX6_holdsWord 23 = .ok (.iaload, 1) := by decide +kernel
theorem dX6_holdsWord_24 : decode cX6_holdsWord 24 = .ok (.if_icmp .ge 79, 3) := by decide +kernel
theorem dX6_holdsWord_27 : decode cX6_holdsWord 27 = .ok (.aload_n 1, 1) := by decide +kernel
theorem dX6_holdsWord_28 : decode cX6_holdsWord 28 = .ok (.iload_n 2, 1) := by decide +kernel
theorem dX6_holdsWord_29 : decode cX6_holdsWord 29 = .ok (.iload 5, 2) := by decide +kernel
theorem dX6_holdsWord_31 : decode cX6_holdsWord 31 = .ok (.invokevirtual 52, 3) := by decide +kernel
theorem dX6_holdsWord_34 : decode cX6_holdsWord 34 = .ok (.istore 6, 2) := by decide +kernel
theorem dX6_holdsWord_36 : decode cX6_holdsWord 36 = .ok (.aload_n 1, 1) := by decide +kernel
theorem dX6_holdsWord_37 : decode cX6_holdsWord 37 = .ok (.iload 6, 2) := by decide +kernel
theorem dX6_holdsWord_39 : decode cX6_holdsWord 39 = .ok (.invokevirtual 56, 3) := by decide +kernel
theorem dX6_holdsWord_42 : decode cX6_holdsWord 42 = .ok (.istore 7, 2) := by decide +kernel
theorem dX6_holdsWord_44 : decode cX6_holdsWord 44 = .ok (.aload_n 0, 1) := by decide +kernel
theorem dX6_holdsWord_45 : decode cX6_holdsWord 45 = .ok (.iload 4, 2) := by decide +kernel
theorem dX6_holdsWord_47 : decode cX6_holdsWord 47 = .ok (.invokevirtual 40, 3) := by decide +kernel
theorem dX6_holdsWord_50 : decode cX6_holdsWord 50 = .ok (.ifCond .eq 19, 3) := by decide +kernel
theorem dX6_holdsWord_53 : decode cX6_holdsWord 53 = .ok (.aload_n 0, 1) := by decide +kernel
theorem dX6_holdsWord_54 : decode cX6_holdsWord 54 = .ok (.getfield 9, 3) := by decide +kernel
theorem dX6_holdsWord_57 : decode cX6_holdsWord 57 = .ok (.iload 4, 2) := by decide +kernel
theorem dX6_holdsWord_59 : decode cX6_holdsWord 59 = .ok (.iaload, 1) := by decide +kernel
theorem dX6_holdsWord_60 : decode cX6_holdsWord 60 = .ok (.iload 6, 2) := by decide +kernel
theorem dX6_holdsWord_62 : decode cX6_holdsWord 62 = .ok (.if_icmp .ne 7, 3) := by decide +kernel
theorem dX6_holdsWord_65 : decode cX6_holdsWord 65 = .ok (.iconst 1, 1) := by decide +kernel
theorem dX6_holdsWord_66 : decode cX6_holdsWord 66 = .ok (.goto 4, 3) := by decide +kernel
theorem dX6_holdsWord_69 : decode cX6_holdsWord 69 = .ok (.iconst 0, 1) := by decide +kernel
theorem dX6_holdsWord_70 : decode cX6_holdsWord 70 = .ok (.istore 8, 2) := by decide +kernel
theorem dX6_holdsWord_72 : decode cX6_holdsWord 72 = .ok (.iload 8, 2) := by decide +kernel
theorem dX6_holdsWord_74 : decode cX6_holdsWord 74 = .ok (.ifCond .ne 16, 3) := by decide +kernel
theorem dX6_holdsWord_77 : decode cX6_holdsWord 77 = .ok (.aload_n 0, 1) := by decide +kernel
theorem dX6_holdsWord_78 : decode cX6_holdsWord 78 = .ok (.iload 4, 2) := by decide +kernel
theorem dX6_holdsWord_80 : decode cX6_holdsWord 80 = .ok (.iload 7, 2) := by decide +kernel
theorem dX6_holdsWord_82 : decode cX6_holdsWord 82 = .ok (.invokevirtual 60, 3) := by decide +kernel
theorem dX6_holdsWord_85 : decode cX6_holdsWord 85 = .ok (.ifCond .ne 5, 3) := by decide +kernel
theorem dX6_holdsWord_88 : decode cX6_holdsWord 88 = .ok (.iconst 0, 1) := by decide +kernel
theorem dX6_holdsWord_89 : decode cX6_holdsWord 89 = .ok (.ireturn, 1) := by decide +kernel
theorem dX6_holdsWord_90 : decode cX6_holdsWord 90 = .ok (.iload 4, 2) := by decide +kernel
theorem dX6_holdsWord_92 : decode cX6_holdsWord 92 = .ok (.iload 7, 2) := by decide +kernel
theorem dX6_holdsWord_94 : decode cX6_holdsWord 94 = .ok (.iadd, 1) := by decide +kernel
theorem dX6_holdsWord_95 : decode cX6_holdsWord 95 = .ok (.istore 4, 2) := by decide +kernel
theorem dX6_holdsWord_97 : decode cX6_holdsWord 97 = .ok (.iinc 5 1, 3) := by decide +kernel
theorem dX6_holdsWord_100 : decode cX6_holdsWord 100 = .ok (.goto (-84), 3) := by decide +kernel
theorem dX6_holdsWord_103 : decode cX6_holdsWord 103 = .ok (.iconst 1, 1) := by decide +kernel
theorem dX6_holdsWord_104 : decode cX6_holdsWord 104 = .ok (.ireturn, 1) := by decide +kernel
theorem dX6_removeSign_0 : decode cX6_removeSign 0 = .ok (.aload_n 0, 1) := by decide +kernel
theorem dX6_removeSign_1 : decode cX6_removeSign 1 = .ok (.iload_n 2, 1) := by decide +kernel
theorem dX6_removeSign_2 : decode cX6_removeSign 2 = .ok (.invokevirtual 40, 3) := by decide +kernel
theorem dX6_removeSign_5 : decode cX6_removeSign 5 = .ok (.ifCond .ne 5, 3) := by decide +kernel
theorem dX6_removeSign_8 : decode cX6_removeSign 8 = .ok (.iconst (-1), 1) := by decide +kernel
theorem dX6_removeSign_9 : decode cX6_removeSign 9 = .ok (.ireturn, 1) := by decide +kernel
theorem dX6_removeSign_10 : decode cX6_removeSign 10 = .ok (.aload_n 0, 1) := by decide +kernel
theorem dX6_removeSign_11 : decode cX6_removeSign 11 = .ok (.getfield 9, 3) := by decide +kernel
theorem dX6_removeSign_14 : decode cX6_removeSign 14 = .ok (.iload_n 2, 1) := by decide +kernel
theorem dX6_removeSign_15 : decode cX6_removeSign 15 = .ok (.iaload, 1) := by decide +kernel
theorem dX6_removeSign_16 : decode cX6_removeSign 16 = .ok (.istore_n 3, 1) := by decide +kernel
theorem dX6_removeSign_17 : decode cX6_removeSign 17 = .ok (.iload_n 3, 1) := by decide +kernel
theorem dX6_removeSign_18 : decode cX6_removeSign 18 = .ok (.invokestatic 64, 3) := by decide +kernel
theorem dX6_removeSign_21 : decode cX6_removeSign 21 = .ok (.ifCond .ne 6, 3) := by decide +kernel
theorem dX6_removeSign_24 : decode cX6_removeSign 24 = .ok (.bipush (-3), 2) := by decide +kernel
theorem dX6_removeSign_26 : decode cX6_removeSign 26 = .ok (.ireturn, 1) := by decide +kernel
theorem dX6_removeSign_27 : decode cX6_removeSign 27 = .ok (.aload_n 0, 1) := by decide +kernel
theorem dX6_removeSign_28 : decode cX6_removeSign 28 = .ok (.iload_n 2, 1) := by decide +kernel
theorem dX6_removeSign_29 : decode cX6_removeSign 29 = .ok (.aload_n 1, 1) := by decide +kernel
theorem dX6_removeSign_30 : decode cX6_removeSign 30 = .ok (.iload_n 3, 1) := by decide +kernel
theorem dX6_removeSign_31 : decode cX6_removeSign 31 = .ok (.invokevirtual 56, 3) := by decide +kernel
theorem dX6_removeSign_34 : decode cX6_removeSign 34 = .ok (.invokevirtual 67, 3) := by decide +kernel
theorem dX6_removeSign_37 : decode cX6_removeSign 37 = .ok (.iload_n 3, 1) := by decide +kernel
theorem dX6_removeSign_38 : decode cX6_removeSign 38 = .ok (.ireturn, 1) := by decide +kernel
theorem dX6_insertSign_0 : decode cX6_insertSign 0 = .ok (.aload_n 0, 1) := by decide +kernel
theorem dX6_insertSign_1 : decode cX6_insertSign 1 = .ok (.iload_n 2, 1) := by decide +kernel
theorem dX6_insertSign_2 : decode cX6_insertSign 2 = .ok (.invokevirtual 40, 3) := by decide +kernel
theorem dX6_insertSign_5 : decode cX6_insertSign 5 = .ok (.ifCond .ne 5, 3) := by decide +kernel
theorem dX6_insertSign_8 : decode cX6_insertSign 8 = .ok (.iconst (-1), 1) := by decide +kernel
theorem dX6_insertSign_9 : decode cX6_insertSign 9 = .ok (.ireturn, 1) := by decide +kernel
theorem dX6_insertSign_10 : decode cX6_insertSign 10 = .ok (.iload_n 3, 1) := by decide +kernel
theorem dX6_insertSign_11 : decode cX6_insertSign 11 = .ok (.invokestatic 64, 3) := by decide +kernel
theorem dX6_insertSign_14 : decode cX6_insertSign 14 = .ok (.ifCond .ne 6, 3) := by decide +kernel
theorem dX6_insertSign_17 : decode cX6_insertSign 17 = .ok (.bipush (-2), 2) := by decide +kernel
theorem dX6_insertSign_19 : decode cX6_insertSign 19 = .ok (.ireturn, 1) := by decide +kernel
theorem dX6_insertSign_20 : decode cX6_insertSign 20 = .ok (.aload_n 1, 1) := by decide +kernel
theorem dX6_insertSign_21 : decode cX6_insertSign 21 = .ok (.iload_n 3, 1) := by decide +kernel
theorem dX6_insertSign_22 : decode cX6_insertSign 22 = .ok (.invokevirtual 56, 3) := by decide +kernel
theorem dX6_insertSign_25 : decode cX6_insertSign 25 = .ok (.istore 4, 2) := by decide +kernel
theorem dX6_insertSign_27 : decode cX6_insertSign 27 = .ok (.aload_n 0, 1) := by decide +kernel
theorem dX6_insertSign_28 : decode cX6_insertSign 28 = .ok (.iload_n 2, 1) := by decide +kernel
theorem dX6_insertSign_29 : decode cX6_insertSign 29 = .ok (.iload 4, 2) := by decide +kernel
theorem dX6_insertSign_31 : decode cX6_insertSign 31 = .ok (.invokevirtual 60, 3) := by decide +kernel
theorem dX6_insertSign_34 : decode cX6_insertSign 34 = .ok (.ifCond .ne 6, 3) := by decide +kernel
theorem dX6_insertSign_37 : decode cX6_insertSign 37 = .ok (.bipush (-3), 2) := by decide +kernel
theorem dX6_insertSign_39 : decode cX6_insertSign 39 = .ok (.ireturn, 1) := by decide +kernel
theorem dX6_insertSign_40 : decode cX6_insertSign 40 = .ok (.aload_n 0, 1) := by decide +kernel
theorem dX6_insertSign_41 : decode cX6_insertSign 41 = .ok (.iload_n 2, 1) := by decide +kernel
theorem dX6_insertSign_42 : decode cX6_insertSign 42 = .ok (.iload_n 3, 1) := by decide +kernel
theorem dX6_insertSign_43 : decode cX6_insertSign 43 = .ok (.iload 4, 2) := by decide +kernel
theorem dX6_insertSign_45 : decode cX6_insertSign 45 = .ok (.invokevirtual 71, 3) := by decide +kernel
theorem dX6_insertSign_48 : decode cX6_insertSign 48 = .ok (.aload_n 0, 1) := by decide +kernel
theorem dX6_insertSign_49 : decode cX6_insertSign 49 = .ok (.invokevirtual 75, 3) := by decide +kernel
theorem dX6_insertSign_52 : decode cX6_insertSign 52 = .ok (.ireturn, 1) := by decide +kernel
theorem dX6_flipWord_0 : decode cX6_flipWord 0 = .ok (.aload_n 1, 1) := by decide +kernel
theorem dX6_flipWord_1 : decode cX6_flipWord 1 = .ok (.iload_n 2, 1) := by decide +kernel
theorem dX6_flipWord_2 : decode cX6_flipWord 2 = .ok (.invokevirtual 44, 3) := by decide +kernel
theorem dX6_flipWord_5 : decode cX6_flipWord 5 = .ok (.ifCond .ne 5, 3) := by decide +kernel
theorem dX6_flipWord_8 : decode cX6_flipWord 8 = .ok (.iconst (-1), 1) := by decide +kernel
theorem dX6_flipWord_9 : decode cX6_flipWord 9 = .ok (.ireturn, 1) := by decide +kernel
theorem dX6_flipWord_10 : decode cX6_flipWord 10 = .ok (.aload_n 0, 1) := by decide +kernel
theorem dX6_flipWord_11 : decode cX6_flipWord 11 = .ok (.dup, 1) := by decide +kernel
theorem dX6_flipWord_12 : decode cX6_flipWord 12 = .ok (.getfield 25, 3) := by decide +kernel
theorem dX6_flipWord_15 : decode cX6_flipWord 15 = .ok (.iconst 1, 1) := by decide +kernel
theorem dX6_flipWord_16 : decode cX6_flipWord 16 = .ok (.iload_n 2, 1) := by decide +kernel
theorem dX6_flipWord_17 : decode cX6_flipWord 17 = .ok (.ishl, 1) := by decide +kernel
theorem dX6_flipWord_18 : decode cX6_flipWord 18 = .ok (.ixor, 1) := by decide +kernel
theorem dX6_flipWord_19 : decode cX6_flipWord 19 = .ok (.putfield 25, 3) := by decide +kernel
theorem dX6_flipWord_22 : decode cX6_flipWord 22 = .ok (.aload_n 0, 1) := by decide +kernel
theorem dX6_flipWord_23 : decode cX6_flipWord 23 = .ok (.getfield 25, 3) := by decide +kernel
theorem dX6_flipWord_26 : decode cX6_flipWord 26 = .ok (.iload_n 2, 1) := by decide +kernel
theorem dX6_flipWord_27 : decode cX6_flipWord 27 = .ok (.ishr, 1) := by decide +kernel
theorem dX6_flipWord_28 : decode cX6_flipWord 28 = .ok (.iconst 1, 1) := by decide +kernel
theorem dX6_flipWord_29 : decode cX6_flipWord 29 = .ok (.iand, 1) := by decide +kernel
theorem dX6_flipWord_30 : decode cX6_flipWord 30 = .ok (.ireturn, 1) := by decide +kernel
theorem dX6_changeRule_0 : decode cX6_changeRule 0 = .ok (.iload_n 1, 1) := by decide +kernel
theorem dX6_changeRule_1 : decode cX6_changeRule 1 = .ok (.invokestatic 79, 3) := by decide +kernel
theorem dX6_changeRule_4 : decode cX6_changeRule 4 = .ok (.ifCond .eq 19, 3) := by decide +kernel
theorem dX6_changeRule_7 : decode cX6_changeRule 7 = .ok (.iload_n 2, 1) := by decide +kernel
theorem dX6_changeRule_8 : decode cX6_changeRule 8 = .ok (.invokestatic 79, 3) := by decide +kernel
theorem dX6_changeRule_11 : decode cX6_changeRule 11 = .ok (.ifCond .eq 12, 3) := by decide +kernel
theorem dX6_changeRule_14 : decode cX6_changeRule 14 = .ok (.iload_n 3, 1) := by decide +kernel
theorem dX6_changeRule_15 : decode cX6_changeRule 15 = .ok (.ifCond .lt 8, 3) := by decide +kernel
theorem dX6_changeRule_18 : decode cX6_changeRule 18 = .ok (.iload_n 3, 1) := by decide +kernel
theorem dX6_changeRule_19 : decode cX6_changeRule 19 = .ok (.iconst 2, 1) := by decide +kernel
theorem dX6_changeRule_20 : decode cX6_changeRule 20 = .ok (.if_icmp .le 6, 3) := by decide +kernel
theorem dX6_changeRule_23 : decode cX6_changeRule 23 = .ok (.bipush (-2), 2) := by decide +kernel
theorem dX6_changeRule_25 : decode cX6_changeRule 25 = .ok (.ireturn, 1) := by decide +kernel
theorem dX6_changeRule_26 : decode cX6_changeRule 26 = .ok (.aload_n 0, 1) := by decide +kernel
theorem dX6_changeRule_27 : decode cX6_changeRule 27 = .ok (.getfield 15, 3) := by decide +kernel
theorem dX6_changeRule_30 : decode cX6_changeRule 30 = .ok (.iload_n 1, 1) := by decide +kernel
theorem dX6_changeRule_31 : decode cX6_changeRule 31 = .ok (.iconst 3, 1) := by decide +kernel
theorem dX6_changeRule_32 : decode cX6_changeRule 32 = .ok (.imul, 1) := by decide +kernel
theorem dX6_changeRule_33 : decode cX6_changeRule 33 = .ok (.iload_n 2, 1) := by decide +kernel
theorem dX6_changeRule_34 : decode cX6_changeRule 34 = .ok (.iadd, 1) := by decide +kernel
theorem dX6_changeRule_35 : decode cX6_changeRule 35 = .ok (.iaload, 1) := by decide +kernel
theorem dX6_changeRule_36 : decode cX6_changeRule 36 = .ok (.istore 4, 2) := by decide +kernel
theorem dX6_changeRule_38 : decode cX6_changeRule 38 = .ok (.aload_n 0, 1) := by decide +kernel
theorem dX6_changeRule_39 : decode cX6_changeRule 39 = .ok (.getfield 15, 3) := by decide +kernel
theorem dX6_changeRule_42 : decode cX6_changeRule 42 = .ok (.iload_n 1, 1) := by decide +kernel
theorem dX6_changeRule_43 : decode cX6_changeRule 43 = .ok (.iconst 3, 1) := by decide +kernel
theorem dX6_changeRule_44 : decode cX6_changeRule 44 = .ok (.imul, 1) := by decide +kernel
theorem dX6_changeRule_45 : decode cX6_changeRule 45 = .ok (.iload_n 2, 1) := by decide +kernel
theorem dX6_changeRule_46 : decode cX6_changeRule 46 = .ok (.iadd, 1) := by decide +kernel
theorem dX6_changeRule_47 : decode cX6_changeRule 47 = .ok (.iload_n 3, 1) := by decide +kernel
theorem dX6_changeRule_48 : decode cX6_changeRule 48 = .ok (.iastore, 1) := by decide +kernel
theorem dX6_changeRule_49 : decode cX6_changeRule 49 = .ok (.iload 4, 2) := by decide +kernel
theorem dX6_changeRule_51 : decode cX6_changeRule 51 = .ok (.ireturn, 1) := by decide +kernel
theorem dX7_init_0 : decode cX7_init 0 = .ok (.aload_n 0, 1) := by decide +kernel
theorem dX7_init_1 : decode cX7_init 1 = .ok (.invokespecial 3, 3) := by decide +kernel
theorem dX7_init_4 : decode cX7_init 4 = .ok (.aload_n 0, 1) := by decide +kernel
theorem dX7_init_5 : decode cX7_init 5 = .ok (.new 9, 3) := by decide +kernel
theorem dX7_init_8 : decode cX7_init 8 = .ok (.dup, 1) := by decide +kernel
theorem dX7_init_9 : decode cX7_init 9 = .ok (.invokespecial 11, 3) := by decide +kernel
theorem dX7_init_12 : decode cX7_init 12 = .ok (.putfield 12, 3) := by decide +kernel
theorem dX7_init_15 : decode cX7_init 15 = .ok (.aload_n 0, 1) := by decide +kernel
theorem dX7_init_16 : decode cX7_init 16 = .ok (.new 16, 3) := by decide +kernel
theorem dX7_init_19 : decode cX7_init 19 = .ok (.dup, 1) := by decide +kernel
theorem dX7_init_20 : decode cX7_init 20 = .ok (.invokespecial 18, 3) := by decide +kernel
theorem dX7_init_23 : decode cX7_init 23 = .ok (.putfield 19, 3) := by decide +kernel
theorem dX7_init_26 : decode cX7_init 26 = .ok (.aload_n 0, 1) := by decide +kernel
theorem dX7_init_27 : decode cX7_init 27 = .ok (.new 23, 3) := by decide +kernel
theorem dX7_init_30 : decode cX7_init 30 = .ok (.dup, 1) := by decide +kernel
theorem dX7_init_31 : decode cX7_init 31 = .ok (.invokespecial 25, 3) := by decide +kernel
theorem dX7_init_34 : decode cX7_init 34 = .ok (.putfield 26, 3) := by decide +kernel
theorem dX7_init_37 : decode cX7_init 37 = .ok (.aload_n 0, 1) := by decide +kernel
theorem dX7_init_38 : decode cX7_init 38 = .ok (.new 23, 3) := by decide +kernel
theorem dX7_init_41 : decode cX7_init 41 = .ok (.dup, 1) := by decide +kernel
theorem dX7_init_42 : decode cX7_init 42 = .ok (.invokespecial 25, 3) := by decide +kernel
theorem dX7_init_45 : decode cX7_init 45 = .ok (.putfield 30, 3) := by decide +kernel
theorem dX7_init_48 : decode cX7_init 48 = .ok (.aload_n 0, 1) := by decide +kernel
theorem dX7_init_49 : decode cX7_init 49 = .ok (.new 33, 3) := by decide +kernel
theorem dX7_init_52 : decode cX7_init 52 = .ok (.dup, 1) := by decide +kernel
theorem dX7_init_53 : decode cX7_init 53 = .ok (.invokespecial 35, 3) := by decide +kernel
theorem dX7_init_56 : decode cX7_init 56 = .ok (.putfield 36, 3) := by decide +kernel
theorem dX7_init_59 : decode cX7_init 59 = .ok (.aload_n 0, 1) := by decide +kernel
theorem dX7_init_60 : decode cX7_init 60 = .ok (.new 40, 3) := by decide +kernel
theorem dX7_init_63 : decode cX7_init 63 = .ok (.dup, 1) := by decide +kernel
theorem dX7_init_64 : decode cX7_init 64 = .ok (.invokespecial 42, 3) := by decide +kernel
theorem dX7_init_67 : decode cX7_init 67 = .ok (.putfield 43, 3) := by decide +kernel
theorem dX7_init_70 : decode cX7_init 70 = .ok (.aload_n 0, 1) := by decide +kernel
theorem dX7_init_71 : decode cX7_init 71 = .ok (.new 47, 3) := by decide +kernel
theorem dX7_init_74 : decode cX7_init 74 = .ok (.dup, 1) := by decide +kernel
theorem dX7_init_75 : decode cX7_init 75 = .ok (.invokespecial 49, 3) := by decide +kernel
theorem dX7_init_78 : decode cX7_init 78 = .ok (.putfield 50, 3) := by decide +kernel
theorem dX7_init_81 : decode cX7_init 81 = .ok (.aload_n 0, 1) := by decide +kernel
theorem dX7_init_82 : decode cX7_init 82 = .ok (.new 54, 3) := by decide +kernel
theorem dX7_init_85 : decode cX7_init 85 = .ok (.dup, 1) := by decide +kernel
theorem dX7_init_86 : decode cX7_init 86 = .ok (.invokespecial 56, 3) := by decide +kernel
theorem dX7_init_89 : decode cX7_init 89 = .ok (.putfield 57, 3) := by decide +kernel
theorem dX7_init_92 : decode cX7_init 92 = .ok (.aload_n 0, 1) := by decide +kernel
theorem dX7_init_93 : decode cX7_init 93 = .ok (.new 23, 3) := by decide +kernel
theorem dX7_init_96 : decode cX7_init 96 = .ok (.dup, 1) := by decide +kernel
theorem dX7_init_97 : decode cX7_init 97 = .ok (.invokespecial 25, 3) := by decide +kernel
theorem dX7_init_100 : decode cX7_init 100 = .ok (.putfield 61, 3) := by decide +kernel
theorem dX7_init_103 : decode cX7_init 103 = .ok (.aload_n 0, 1) := by decide +kernel
theorem dX7_init_104 : decode cX7_init 104 = .ok (.new 23, 3) := by decide +kernel
theorem dX7_init_107 : decode cX7_init 107 = .ok (.dup, 1) := by decide +kernel
theorem dX7_init_108 : decode cX7_init 108 = .ok (.invokespecial 25, 3) := by decide +kernel
theorem dX7_init_111 : decode cX7_init 111 = .ok (.putfield 64, 3) := by decide +kernel
theorem dX7_init_114 : decode cX7_init 114 = .ok (.aload_n 0, 1) := by decide +kernel
theorem dX7_init_115 : decode cX7_init 115 = .ok (.iconst 0, 1) := by decide +kernel
theorem dX7_init_116 : decode cX7_init 116 = .ok (.putfield 67, 3) := by decide +kernel
theorem dX7_init_119 : decode cX7_init 119 = .ok (.aload_n 0, 1) := by decide +kernel
theorem dX7_init_120 : decode cX7_init 120 = .ok (.iconst 0, 1) := by decide +kernel
theorem dX7_init_121 : decode cX7_init 121 = .ok (.putfield 71, 3) := by decide +kernel
theorem dX7_init_124 : decode cX7_init 124 = .ok (.aload_n 0, 1) := by decide +kernel
theorem dX7_init_125 : decode cX7_init 125 = .ok (.lconst 0, 1) := by decide +kernel
theorem dX7_init_126 : decode cX7_init 126 = .ok (.putfield 74, 3) := by decide +kernel
theorem dX7_init_129 : decode cX7_init 129 = .ok (.return_, 1) := by decide +kernel
theorem dX7_write_0 : decode cX7_write 0 = .ok (.iload_n 1, 1) := by decide +kernel
theorem dX7_write_1 : decode cX7_write 1 = .ok (.ifCond .lt 10, 3) := by decide +kernel
theorem dX7_write_4 : decode cX7_write 4 = .ok (.iload_n 1, 1) := by decide +kernel
theorem dX7_write_5 : decode cX7_write 5 = .ok (.sipush 255, 3) := by decide +kernel
theorem dX7_write_8 : decode cX7_write 8 = .ok (.if_icmp .le 6, 3) := by decide +kernel
theorem dX7_write_11 : decode cX7_write 11 = .ok (.bipush (-2), 2) := by decide +kernel
theorem dX7_write_13 : decode cX7_write 13 = .ok (.ireturn, 1) := by decide +kernel
theorem dX7_write_14 : decode cX7_write 14 = .ok (.aload_n 0, 1) := by decide +kernel
theorem dX7_write_15 : decode cX7_write 15 = .ok (.getfield 12, 3) := by decide +kernel
theorem dX7_write_18 : decode cX7_write 18 = .ok (.getfield 78, 3) := by decide +kernel
theorem dX7_write_21 : decode cX7_write 21 = .ok (.bipush 110, 2) := by decide +kernel
theorem dX7_write_23 : decode cX7_write 23 = .ok (.if_icmp .lt 6, 3) := by decide +kernel
theorem dX7_write_26 : decode cX7_write 26 = .ok (.bipush (-4), 2) := by decide +kernel
theorem dX7_write_28 : decode cX7_write 28 = .ok (.ireturn, 1) := by decide +kernel
theorem dX7_write_29 : decode cX7_write 29 = .ok (.aload_n 0, 1) := by decide +kernel
theorem dX7_write_30 : decode cX7_write 30 = .ok (.getfield 12, 3) := by decide +kernel
theorem dX7_write_33 : decode cX7_write 33 = .ok (.iload_n 1, 1) := by decide +kernel
theorem dX7_write_34 : decode cX7_write 34 = .ok (.invokevirtual 82, 3) := by decide +kernel
theorem dX7_write_37 : decode cX7_write 37 = .ok (.aload_n 0, 1) := by decide +kernel
theorem dX7_write_38 : decode cX7_write 38 = .ok (.getfield 12, 3) := by decide +kernel
theorem dX7_write_41 : decode cX7_write 41 = .ok (.getfield 78, 3) := by decide +kernel
theorem dX7_write_44 : decode cX7_write 44 = .ok (.ireturn, 1) := by decide +kernel
theorem dX7_wipe_0 : decode cX7_wipe 0 = .ok (.aload_n 0, 1) := by decide +kernel
theorem dX7_wipe_1 : decode cX7_wipe 1 = .ok (.getfield 12, 3) := by decide +kernel
theorem dX7_wipe_4 : decode cX7_wipe 4 = .ok (.getfield 78, 3) := by decide +kernel
theorem dX7_wipe_7 : decode cX7_wipe 7 = .ok (.istore_n 1, 1) := by decide +kernel
theorem dX7_wipe_8 : decode cX7_wipe 8 = .ok (.aload_n 0, 1) := by decide +kernel
theorem dX7_wipe_9 : decode cX7_wipe 9 = .ok (.getfield 12, 3) := by decide +kernel
theorem dX7_wipe_12 : decode cX7_wipe 12 = .ok (.iconst 0, 1) := by decide +kernel
theorem dX7_wipe_13 : decode cX7_wipe 13 = .ok (.putfield 78, 3) := by decide +kernel
theorem dX7_wipe_16 : decode cX7_wipe 16 = .ok (.iload_n 1, 1) := by decide +kernel
theorem dX7_wipe_17 : decode cX7_wipe 17 = .ok (.ireturn, 1) := by decide +kernel
theorem dX7_fault_0 : decode cX7_fault 0 = .ok (.aload_n 0, 1) := by decide +kernel
theorem dX7_fault_1 : decode cX7_fault 1 = .ok (.getfield 12, 3) := by decide +kernel
theorem dX7_fault_4 : decode cX7_fault 4 = .ok (.invokevirtual 86, 3) := by decide +kernel
theorem dX7_fault_7 : decode cX7_fault 7 = .ok (.ireturn, 1) := by decide +kernel
theorem dX7_stone_0 : decode cX7_stone 0 = .ok (.aload_n 0, 1) := by decide +kernel
theorem dX7_stone_1 : decode cX7_stone 1 = .ok (.getfield 12, 3) := by decide +kernel
theorem dX7_stone_4 : decode cX7_stone 4 = .ok (.invokevirtual 86, 3) := by decide +kernel
theorem dX7_stone_7 : decode cX7_stone 7 = .ok (.bipush (-9), 2) := by decide +kernel
theorem dX7_stone_9 : decode cX7_stone 9 = .ok (.if_icmp .eq 6, 3) := by decide +kernel
theorem dX7_stone_12 : decode cX7_stone 12 = .ok (.bipush (-3), 2) := by decide +kernel
theorem dX7_stone_14 : decode cX7_stone 14 = .ok (.ireturn, 1) := by decide +kernel
theorem dX7_stone_15 : decode cX7_stone 15 = .ok (.aload_n 0, 1) := by decide +kernel
theorem dX7_stone_16 : decode cX7_stone 16 = .ok (.getfield 19, 3) := by decide +kernel
theorem dX7_stone_19 : decode cX7_stone 19 = .ok (.aload_n 0, 1) := by decide +kernel
theorem dX7_stone_20 : decode cX7_stone 20 = .ok (.getfield 12, 3) := by decide +kernel
theorem dX7_stone_23 : decode cX7_stone 23 = .ok (.getfield 90, 3) := by decide +kernel
theorem dX7_stone_26 : decode cX7_stone 26 = .ok (.invokevirtual 91, 3) := by decide +kernel
theorem dX7_stone_29 : decode cX7_stone 29 = .ok (.aload_n 0, 1) := by decide +kernel
theorem dX7_stone_30 : decode cX7_stone 30 = .ok (.getfield 26, 3) := by decide +kernel
theorem dX7_stone_33 : decode cX7_stone 33 = .ok (.aload_n 0, 1) := by decide +kernel
theorem dX7_stone_34 : decode cX7_stone 34 = .ok (.getfield 12, 3) := by decide +kernel
theorem dX7_stone_37 : decode cX7_stone 37 = .ok (.getfield 95, 3) := by decide +kernel
theorem dX7_stone_40 : decode cX7_stone 40 = .ok (.invokevirtual 96, 3) := by decide +kernel
theorem dX7_stone_43 : decode cX7_stone 43 = .ok (.aload_n 0, 1) := by decide +kernel
theorem dX7_stone_44 : decode cX7_stone 44 = .ok (.getfield 36, 3) := by decide +kernel
theorem dX7_stone_47 : decode cX7_stone 47 = .ok (.invokevirtual 99, 3) := by decide +kernel
theorem dX7_stone_50 : decode cX7_stone 50 = .ok (.aload_n 0, 1) := by decide +kernel
theorem dX7_stone_51 : decode cX7_stone 51 = .ok (.iconst 0, 1) := by decide +kernel
theorem dX7_stone_52 : decode cX7_stone 52 = .ok (.putfield 67, 3) := by decide +kernel
theorem dX7_stone_55 : decode cX7_stone 55 = .ok (.aload_n 0, 1) := by decide +kernel
theorem dX7_stone_56 : decode cX7_stone 56 = .ok (.iconst 0, 1) := by decide +kernel
theorem dX7_stone_57 : decode cX7_stone 57 = .ok (.putfield 71, 3) := by decide +kernel
theorem dX7_stone_60 : decode cX7_stone 60 = .ok (.aload_n 0, 1) := by decide +kernel
theorem dX7_stone_61 : decode cX7_stone 61 = .ok (.getfield 26, 3) := by decide +kernel
theorem dX7_stone_64 : decode cX7_stone 64 = .ok (.getfield 102, 3) := by decide +kernel
theorem dX7_stone_67 : decode cX7_stone 67 = .ok (.ireturn, 1) := by decide +kernel
theorem dX7_word_0 : decode cX7_word 0 = .ok (.aload_n 0, 1) := by decide +kernel
theorem dX7_word_1 : decode cX7_word 1 = .ok (.getfield 19, 3) := by decide +kernel
theorem dX7_word_4 : decode cX7_word 4 = .ok (.iload_n 1, 1) := by decide +kernel
theorem dX7_word_5 : decode cX7_word 5 = .ok (.invokevirtual 105, 3) := by decide +kernel
theorem dX7_word_8 : decode cX7_word 8 = .ok (.ifCond .ne 5, 3) := by decide +kernel
theorem dX7_word_11 : decode cX7_word 11 = .ok (.iconst (-1), 1) := by decide +kernel
theorem dX7_word_12 : decode cX7_word 12 = .ok (.ireturn, 1) := by decide +kernel
theorem dX7_word_13 : decode cX7_word 13 = .ok (.iload_n 2, 1) := by decide +kernel
theorem dX7_word_14 : decode cX7_word 14 = .ok (.tableswitch 124 0 6 #[42, 52, 62, 72, 82, 92, 104], 42) := by decide +kernel
theorem dX7_word_56 : decode cX7_word 56 = .ok (.aload_n 0, 1) := by decide +kernel
theorem dX7_word_57 : decode cX7_word 57 = .ok (.getfield 19, 3) := by decide +kernel
theorem dX7_word_60 : decode cX7_word 60 = .ok (.getfield 109, 3) := by decide +kernel
theorem dX7_word_63 : decode cX7_word 63 = .ok (.iload_n 1, 1) := by decide +kernel
theorem dX7_word_64 : decode cX7_word 64 = .ok (.iaload, 1) := by decide +kernel
theorem dX7_word_65 : decode cX7_word 65 = .ok (.ireturn, 1) := by decide +kernel
theorem dX7_word_66 : decode cX7_word 66 = .ok (.aload_n 0, 1) := by decide +kernel
theorem dX7_word_67 : decode cX7_word 67 = .ok (.getfield 19, 3) := by decide +kernel
theorem dX7_word_70 : decode cX7_word 70 = .ok (.getfield 113, 3) := by decide +kernel
theorem dX7_word_73 : decode cX7_word 73 = .ok (.iload_n 1, 1) := by decide +kernel
theorem dX7_word_74 : decode cX7_word 74 = .ok (.iaload, 1) := by decide +kernel
theorem dX7_word_75 : decode cX7_word 75 = .ok (.ireturn, 1) := by decide +kernel
theorem dX7_word_76 : decode cX7_word 76 = .ok (.aload_n 0, 1) := by decide +kernel
theorem dX7_word_77 : decode cX7_word 77 = .ok (.getfield 19, 3) := by decide +kernel
theorem dX7_word_80 : decode cX7_word 80 = .ok (.getfield 116, 3) := by decide +kernel
theorem dX7_word_83 : decode cX7_word 83 = .ok (.iload_n 1, 1) := by decide +kernel
theorem dX7_word_84 : decode cX7_word 84 = .ok (.iaload, 1) := by decide +kernel
theorem dX7_word_85 : decode cX7_word 85 = .ok (.ireturn, 1) := by decide +kernel
theorem dX7_word_86 : decode cX7_word 86 = .ok (.aload_n 0, 1) := by decide +kernel
theorem dX7_word_87 : decode cX7_word 87 = .ok (.getfield 26, 3) := by decide +kernel
theorem dX7_word_90 : decode cX7_word 90 = .ok (.getfield 119, 3) := by decide +kernel
theorem dX7_word_93 : decode cX7_word 93 = .ok (.iload_n 1, 1) := by decide +kernel
theorem dX7_word_94 : decode cX7_word 94 = .ok (.iaload, 1) := by decide +kernel
theorem dX7_word_95 : decode cX7_word 95 = .ok (.ireturn, 1) := by decide +kernel
theorem dX7_word_96 : decode cX7_word 96 = .ok (.aload_n 0, 1) := by decide +kernel
theorem dX7_word_97 : decode cX7_word 97 = .ok (.getfield 19, 3) := by decide +kernel
theorem dX7_word_100 : decode cX7_word 100 = .ok (.getfield 122, 3) := by decide +kernel
theorem dX7_word_103 : decode cX7_word 103 = .ok (.iload_n 1, 1) := by decide +kernel
theorem dX7_word_104 : decode cX7_word 104 = .ok (.iaload, 1) := by decide +kernel
theorem dX7_word_105 : decode cX7_word 105 = .ok (.ireturn, 1) := by decide +kernel
theorem dX7_word_106 : decode cX7_word 106 = .ok (.aload_n 0, 1) := by decide +kernel
theorem dX7_word_107 : decode cX7_word 107 = .ok (.getfield 26, 3) := by decide +kernel
theorem dX7_word_110 : decode cX7_word 110 = .ok (.getfield 125, 3) := by decide +kernel
theorem dX7_word_113 : decode cX7_word 113 = .ok (.iload_n 1, 1) := by decide +kernel
theorem dX7_word_114 : decode cX7_word 114 = .ok (.ishr, 1) := by decide +kernel
theorem dX7_word_115 : decode cX7_word 115 = .ok (.iconst 1, 1) := by decide +kernel
theorem dX7_word_116 : decode cX7_word 116 = .ok (.iand, 1) := by decide +kernel
theorem dX7_word_117 : decode cX7_word 117 = .ok (.ireturn, 1) := by decide +kernel
theorem dX7_word_118 : decode cX7_word 118 = .ok (.aload_n 0, 1) := by decide +kernel
theorem dX7_word_119 : decode cX7_word 119 = .ok (.getfield 19, 3) := by decide +kernel
theorem dX7_word_122 : decode cX7_word 122 = .ok (.iload_n 1, 1) := by decide +kernel
theorem dX7_word_123 : decode cX7_word 123 = .ok (.aload_n 0, 1) := by decide +kernel
theorem dX7_word_124 : decode cX7_word 124 = .ok (.getfield 19, 3) := by decide +kernel
theorem dX7_word_127 : decode cX7_word 127 = .ok (.getfield 109, 3) := by decide +kernel
theorem dX7_word_130 : decode cX7_word 130 = .ok (.iload_n 1, 1) := by decide +kernel
theorem dX7_word_131 : decode cX7_word 131 = .ok (.iaload, 1) := by decide +kernel
theorem dX7_word_132 : decode cX7_word 132 = .ok (.iconst 1, 1) := by decide +kernel
theorem dX7_word_133 : decode cX7_word 133 = .ok (.isub, 1) := by decide +kernel
theorem dX7_word_134 : decode cX7_word 134 = .ok (.invokevirtual 128, 3) := by decide +kernel
theorem dX7_word_137 : decode cX7_word 137 = .ok (.ireturn, 1) := by decide +kernel
theorem dX7_word_138 : decode cX7_word 138 = .ok (.bipush (-2), 2) := by decide +kernel
theorem dX7_word_140 : decode cX7_word 140 = .ok (.ireturn, 1) := by decide +kernel
theorem dX7_line_0 : decode cX7_line 0 = .ok (.aload_n 0, 1) := by decide +kernel
theorem dX7_line_1 : decode cX7_line 1 = .ok (.getfield 26, 3) := by decide +kernel
theorem dX7_line_4 : decode cX7_line 4 = .ok (.iload_n 1, 1) := by decide +kernel
theorem dX7_line_5 : decode cX7_line 5 = .ok (.invokevirtual 132, 3) := by decide +kernel
theorem dX7_line_8 : decode cX7_line 8 = .ok (.ifCond .eq 15, 3) := by decide +kernel
theorem dX7_line_11 : decode cX7_line 11 = .ok (.aload_n 0, 1) := by decide +kernel
theorem dX7_line_12 : decode cX7_line 12 = .ok (.getfield 26, 3) := by decide +kernel
theorem dX7_line_15 : decode cX7_line 15 = .ok (.getfield 135, 3) := by decide +kernel
theorem dX7_line_18 : decode cX7_line 18 = .ok (.iload_n 1, 1) := by decide +kernel
theorem dX7_line_19 : decode cX7_line 19 = .ok (.iaload, 1) := by decide +kernel
theorem dX7_line_20 : decode cX7_line 20 = .ok (.goto 4, 3) := by decide +kernel
theorem dX7_line_23 : decode cX7_line 23 = .ok (.iconst (-1), 1) := by decide +kernel
theorem dX7_line_24 : decode cX7_line 24 = .ok (.ireturn, 1) := by decide +kernel
theorem dX7_rule_0 : decode cX7_rule 0 = .ok (.iload_n 1, 1) := by decide +kernel
theorem dX7_rule_1 : decode cX7_rule 1 = .ok (.invokestatic 138, 3) := by decide +kernel
theorem dX7_rule_4 : decode cX7_rule 4 = .ok (.ifCond .eq 26, 3) := by decide +kernel
theorem dX7_rule_7 : decode cX7_rule 7 = .ok (.iload_n 2, 1) := by decide +kernel
theorem dX7_rule_8 : decode cX7_rule 8 = .ok (.invokestatic 138, 3) := by decide +kernel
theorem dX7_rule_11 : decode cX7_rule 11 = .ok (.ifCond .eq 19, 3) := by decide +kernel
theorem dX7_rule_14 : decode cX7_rule 14 = .ok (.aload_n 0, 1) := by decide +kernel
theorem dX7_rule_15 : decode cX7_rule 15 = .ok (.getfield 26, 3) := by decide +kernel
theorem dX7_rule_18 : decode cX7_rule 18 = .ok (.getfield 141, 3) := by decide +kernel
theorem dX7_rule_21 : decode cX7_rule 21 = .ok (.iload_n 1, 1) := by decide +kernel
theorem dX7_rule_22 : decode cX7_rule 22 = .ok (.iconst 3, 1) := by decide +kernel
theorem dX7_rule_23 : decode cX7_rule 23 = .ok (.imul, 1) := by decide +kernel
theorem dX7_rule_24 : decode cX7_rule 24 = .ok (.iload_n 2, 1) := by decide +kernel
theorem dX7_rule_25 : decode cX7_rule 25 = .ok (.iadd, 1) := by decide +kernel
theorem dX7_rule_26 : decode cX7_rule 26 = .ok (.iaload, 1) := by decide +kernel
theorem dX7_rule_27 : decode cX7_rule 27 = .ok (.goto 5, 3) := by decide +kernel
theorem dX7_rule_30 : decode cX7_rule 30 = .ok (.bipush (-2), 2) := by decide +kernel
theorem dX7_rule_32 : decode cX7_rule 32 = .ok (.ireturn, 1) := by decide +kernel
theorem dX7_wear_0 : decode cX7_wear 0 = .ok (.aload_n 0, 1) := by decide +kernel
theorem dX7_wear_1 : decode cX7_wear 1 = .ok (.getfield 26, 3) := by decide +kernel
theorem dX7_wear_4 : decode cX7_wear 4 = .ok (.aload_n 0, 1) := by decide +kernel
theorem dX7_wear_5 : decode cX7_wear 5 = .ok (.getfield 19, 3) := by decide +kernel
theorem dX7_wear_8 : decode cX7_wear 8 = .ok (.iload_n 1, 1) := by decide +kernel
theorem dX7_wear_9 : decode cX7_wear 9 = .ok (.invokevirtual 144, 3) := by decide +kernel
theorem dX7_wear_12 : decode cX7_wear 12 = .ok (.istore_n 2, 1) := by decide +kernel
theorem dX7_wear_13 : decode cX7_wear 13 = .ok (.iload_n 2, 1) := by decide +kernel
theorem dX7_wear_14 : decode cX7_wear 14 = .ok (.ifCond .lt 13, 3) := by decide +kernel
theorem dX7_wear_17 : decode cX7_wear 17 = .ok (.aload_n 0, 1) := by decide +kernel
theorem dX7_wear_18 : decode cX7_wear 18 = .ok (.getfield 36, 3) := by decide +kernel
theorem dX7_wear_21 : decode cX7_wear 21 = .ok (.iconst 0, 1) := by decide +kernel
theorem dX7_wear_22 : decode cX7_wear 22 = .ok (.iload_n 1, 1) := by decide +kernel
theorem dX7_wear_23 : decode cX7_wear 23 = .ok (.iload_n 2, 1) := by decide +kernel
theorem dX7_wear_24 : decode cX7_wear 24 = .ok (.invokevirtual 148, 3) := by decide +kernel
theorem dX7_wear_27 : decode cX7_wear 27 = .ok (.iload_n 2, 1) := by decide +kernel
theorem dX7_wear_28 : decode cX7_wear 28 = .ok (.ireturn, 1) := by decide +kernel
theorem dX7_carve_0 : decode cX7_carve 0 = .ok (.aload_n 0, 1) := by decide +kernel
theorem dX7_carve_1 : decode cX7_carve 1 = .ok (.getfield 26, 3) := by decide +kernel
theorem dX7_carve_4 : decode cX7_carve 4 = .ok (.aload_n 0, 1) := by decide +kernel
theorem dX7_carve_5 : decode cX7_carve 5 = .ok (.getfield 19, 3) := by decide +kernel
theorem dX7_carve_8 : decode cX7_carve 8 = .ok (.iload_n 1, 1) := by decide +kernel
theorem dX7_carve_9 : decode cX7_carve 9 = .ok (.iload_n 2, 1) := by decide +kernel
theorem dX7_carve_10 : decode cX7_carve 10 = .ok (.invokevirtual 152, 3) := by decide +kernel
theorem dX7_carve_13 : decode cX7_carve 13 = .ok (.istore_n 3, 1) := by decide +kernel
theorem dX7_carve_14 : decode cX7_carve 14 = .ok (.iload_n 3, 1) := by decide +kernel
theorem dX7_carve_15 : decode cX7_carve 15 = .ok (.ifCond .lt 13, 3) := by decide +kernel
theorem dX7_carve_18 : decode cX7_carve 18 = .ok (.aload_n 0, 1) := by decide +kernel
theorem dX7_carve_19 : decode cX7_carve 19 = .ok (.getfield 36, 3) := by decide +kernel
theorem dX7_carve_22 : decode cX7_carve 22 = .ok (.iconst 1, 1) := by decide +kernel
theorem dX7_carve_23 : decode cX7_carve 23 = .ok (.iload_n 1, 1) := by decide +kernel
theorem dX7_carve_24 : decode cX7_carve 24 = .ok (.iload_n 2, 1) := by decide +kernel
theorem dX7_carve_25 : decode cX7_carve 25 = .ok (.invokevirtual 148, 3) := by decide +kernel
theorem dX7_carve_28 : decode cX7_carve 28 = .ok (.iload_n 3, 1) := by decide +kernel
theorem dX7_carve_29 : decode cX7_carve 29 = .ok (.ireturn, 1) := by decide +kernel
theorem dX7_bar_0 : decode cX7_bar 0 = .ok (.aload_n 0, 1) := by decide +kernel
theorem dX7_bar_1 : decode cX7_bar 1 = .ok (.getfield 26, 3) := by decide +kernel
theorem dX7_bar_4 : decode cX7_bar 4 = .ok (.aload_n 0, 1) := by decide +kernel
theorem dX7_bar_5 : decode cX7_bar 5 = .ok (.getfield 19, 3) := by decide +kernel
theorem dX7_bar_8 : decode cX7_bar 8 = .ok (.iload_n 1, 1) := by decide +kernel
theorem dX7_bar_9 : decode cX7_bar 9 = .ok (.invokevirtual 156, 3) := by decide +kernel
theorem dX7_bar_12 : decode cX7_bar 12 = .ok (.istore_n 2, 1) := by decide +kernel
theorem dX7_bar_13 : decode cX7_bar 13 = .ok (.iload_n 2, 1) := by decide +kernel
theorem dX7_bar_14 : decode cX7_bar 14 = .ok (.ifCond .lt 13, 3) := by decide +kernel
theorem dX7_bar_17 : decode cX7_bar 17 = .ok (.aload_n 0, 1) := by decide +kernel
theorem dX7_bar_18 : decode cX7_bar 18 = .ok (.getfield 36, 3) := by decide +kernel
theorem dX7_bar_21 : decode cX7_bar 21 = .ok (.iconst 2, 1) := by decide +kernel
theorem dX7_bar_22 : decode cX7_bar 22 = .ok (.iload_n 1, 1) := by decide +kernel
theorem dX7_bar_23 : decode cX7_bar 23 = .ok (.iconst 0, 1) := by decide +kernel
theorem dX7_bar_24 : decode cX7_bar 24 = .ok (.invokevirtual 148, 3) := by decide +kernel
theorem dX7_bar_27 : decode cX7_bar 27 = .ok (.iload_n 2, 1) := by decide +kernel
theorem dX7_bar_28 : decode cX7_bar 28 = .ok (.ireturn, 1) := by decide +kernel
theorem dX7_setRule_0 : decode cX7_setRule 0 = .ok (.aload_n 0, 1) := by decide +kernel
theorem dX7_setRule_1 : decode cX7_setRule 1 = .ok (.getfield 26, 3) := by decide +kernel
theorem dX7_setRule_4 : decode cX7_setRule 4 = .ok (.iload_n 1, 1) := by decide +kernel
theorem dX7_setRule_5 : decode cX7_setRule 5 = .ok (.iload_n 2, 1) := by decide +kernel
theorem dX7_setRule_6 : decode cX7_setRule 6 = .ok (.iload_n 3, 1) := by decide +kernel
theorem dX7_setRule_7 : decode cX7_setRule 7 = .ok (.invokevirtual 159, 3) := by decide +kernel
theorem dX7_setRule_10 : decode cX7_setRule 10 = .ok (.istore 4, 2) := by decide +kernel
theorem dX7_setRule_12 : decode cX7_setRule 12 = .ok (.iload 4, 2) := by decide +kernel
theorem dX7_setRule_14 : decode cX7_setRule 14 = .ok (.ifCond .lt 18, 3) := by decide +kernel
theorem dX7_setRule_17 : decode cX7_setRule 17 = .ok (.aload_n 0, 1) := by decide +kernel
theorem dX7_setRule_18 : decode cX7_setRule 18 = .ok (.getfield 36, 3) := by decide +kernel
theorem dX7_setRule_21 : decode cX7_setRule 21 = .ok (.iconst 3, 1) := by decide +kernel
theorem dX7_setRule_22 : decode cX7_setRule 22 = .ok (.iload_n 1, 1) := by decide +kernel
theorem dX7_setRule_23 : decode cX7_setRule 23 = .ok (.iconst 3, 1) := by decide +kernel
theorem dX7_setRule_24 : decode cX7_setRule 24 = .ok (.imul, 1) := by decide +kernel
theorem dX7_setRule_25 : decode cX7_setRule 25 = .ok (.iload_n 2, 1) := by decide +kernel
theorem dX7_setRule_26 : decode cX7_setRule 26 = .ok (.iadd, 1) := by decide +kernel
theorem dX7_setRule_27 : decode cX7_setRule 27 = .ok (.iload 4, 2) := by decide +kernel
theorem dX7_setRule_29 : decode cX7_setRule 29 = .ok (.invokevirtual 148, 3) := by decide +kernel
theorem dX7_setRule_32 : decode cX7_setRule 32 = .ok (.iload 4, 2) := by decide +kernel
theorem dX7_setRule_34 : decode cX7_setRule 34 = .ok (.ireturn, 1) := by decide +kernel
theorem dX7_weigh_0 : decode cX7_weigh 0 = .ok (.aload_n 0, 1) := by decide +kernel
theorem dX7_weigh_1 : decode cX7_weigh 1 = .ok (.getfield 19, 3) := by decide +kernel
theorem dX7_weigh_4 : decode cX7_weigh 4 = .ok (.iload_n 1, 1) := by decide +kernel
theorem dX7_weigh_5 : decode cX7_weigh 5 = .ok (.invokevirtual 105, 3) := by decide +kernel
theorem dX7_weigh_8 : decode cX7_weigh 8 = .ok (.ifCond .ne 5, 3) := by decide +kernel
theorem dX7_weigh_11 : decode cX7_weigh 11 = .ok (.iconst (-1), 1) := by decide +kernel
theorem dX7_weigh_12 : decode cX7_weigh 12 = .ok (.ireturn, 1) := by decide +kernel
theorem dX7_weigh_13 : decode cX7_weigh 13 = .ok (.iload_n 2, 1) := by decide +kernel
theorem dX7_weigh_14 : decode cX7_weigh 14 = .ok (.iconst 1, 1) := by decide +kernel
theorem dX7_weigh_15 : decode cX7_weigh 15 = .ok (.if_icmp .lt 9, 3) := by decide +kernel
theorem dX7_weigh_18 : decode cX7_weigh 18 = .ok (.iload_n 2, 1) := by decide +kernel
theorem dX7_weigh_19 : decode cX7_weigh 19 = .ok (.bipush 9, 2) := by decide +kernel
theorem dX7_weigh_21 : decode cX7_weigh 21 = .ok (.if_icmp .le 6, 3) := by decide +kernel
theorem dX7_weigh_24 : decode cX7_weigh 24 = .ok (.bipush (-2), 2) := by decide +kernel
theorem dX7_weigh_26 : decode cX7_weigh 26 = .ok (.ireturn, 1) := by decide +kernel
theorem dX7_weigh_27 : decode cX7_weigh 27 = .ok (.aload_n 0, 1) := by decide +kernel
theorem dX7_weigh_28 : decode cX7_weigh 28 = .ok (.getfield 26, 3) := by decide +kernel
theorem dX7_weigh_31 : decode cX7_weigh 31 = .ok (.getfield 119, 3) := by decide +kernel
theorem dX7_weigh_34 : decode cX7_weigh 34 = .ok (.iload_n 1, 1) := by decide +kernel
theorem dX7_weigh_35 : decode cX7_weigh 35 = .ok (.iaload, 1) := by decide +kernel
theorem dX7_weigh_36 : decode cX7_weigh 36 = .ok (.istore_n 3, 1) := by decide +kernel
theorem dX7_weigh_37 : decode cX7_weigh 37 = .ok (.aload_n 0, 1) := by decide +kernel
theorem dX7_weigh_38 : decode cX7_weigh 38 = .ok (.getfield 26, 3) := by decide +kernel
theorem dX7_weigh_41 : decode cX7_weigh 41 = .ok (.getfield 119, 3) := by decide +kernel
theorem dX7_weigh_44 : decode cX7_weigh 44 = .ok (.iload_n 1, 1) := by decide +kernel
theorem dX7_weigh_45 : decode cX7_weigh 45 = .ok (.iload_n 2, 1) := by decide +kernel
theorem dX7_weigh_46 : decode cX7_weigh 46 = .ok (.iastore, 1) := by decide +kernel
theorem dX7_weigh_47 : decode cX7_weigh 47 = .ok (.aload_n 0, 1) := by decide +kernel
theorem dX7_weigh_48 : decode cX7_weigh 48 = .ok (.getfield 36, 3) := by decide +kernel
theorem dX7_weigh_51 : decode cX7_weigh 51 = .ok (.iconst 4, 1) := by decide +kernel
theorem dX7_weigh_52 : decode cX7_weigh 52 = .ok (.iload_n 1, 1) := by decide +kernel
theorem dX7_weigh_53 : decode cX7_weigh 53 = .ok (.iload_n 3, 1) := by decide +kernel
theorem dX7_weigh_54 : decode cX7_weigh 54 = .ok (.invokevirtual 148, 3) := by decide +kernel
theorem dX7_weigh_57 : decode cX7_weigh 57 = .ok (.iload_n 3, 1) := by decide +kernel
theorem dX7_weigh_58 : decode cX7_weigh 58 = .ok (.ireturn, 1) := by decide +kernel
theorem dX7_undo_0 : decode cX7_undo 0 = .ok (.aload_n 0, 1) := by decide +kernel
theorem dX7_undo_1 : decode cX7_undo 1 = .ok (.getfield 36, 3) := by decide +kernel
theorem dX7_undo_4 : decode cX7_undo 4 = .ok (.getfield 163, 3) := by decide +kernel
theorem dX7_undo_7 : decode cX7_undo 7 = .ok (.ifCond .ne 6, 3) := by decide +kernel
theorem dX7_undo_10 : decode cX7_undo 10 = .ok (.bipush (-3), 2) := by decide +kernel
theorem dX7_undo_12 : decode cX7_undo 12 = .ok (.ireturn, 1) := by decide +kernel
theorem dX7_undo_13 : decode cX7_undo 13 = .ok (.aload_n 0, 1) := by decide +kernel
theorem dX7_undo_14 : decode cX7_undo 14 = .ok (.getfield 36, 3) := by decide +kernel
theorem dX7_undo_17 : decode cX7_undo 17 = .ok (.aload_n 0, 1) := by decide +kernel
theorem dX7_undo_18 : decode cX7_undo 18 = .ok (.getfield 19, 3) := by decide +kernel
theorem dX7_undo_21 : decode cX7_undo 21 = .ok (.aload_n 0, 1) := by decide +kernel
theorem dX7_undo_22 : decode cX7_undo 22 = .ok (.getfield 26, 3) := by decide +kernel
theorem dX7_undo_25 : decode cX7_undo 25 = .ok (.invokevirtual 166, 3) := by decide +kernel
theorem dX7_undo_28 : decode cX7_undo 28 = .ok (.aload_n 0, 1) := by decide +kernel
theorem dX7_undo_29 : decode cX7_undo 29 = .ok (.getfield 36, 3) := by decide +kernel
theorem dX7_undo_32 : decode cX7_undo 32 = .ok (.getfield 163, 3) := by decide +kernel
theorem dX7_undo_35 : decode cX7_undo 35 = .ok (.ireturn, 1) := by decide +kernel
theorem dX7_lies_0 : decode cX7_lies 0 = .ok (.aload_n 0, 1) := by decide +kernel
theorem dX7_lies_1 : decode cX7_lies 1 = .ok (.getfield 19, 3) := by decide +kernel
theorem dX7_lies_4 : decode cX7_lies 4 = .ok (.iload_n 1, 1) := by decide +kernel
theorem dX7_lies_5 : decode cX7_lies 5 = .ok (.invokevirtual 105, 3) := by decide +kernel
theorem dX7_lies_8 : decode cX7_lies 8 = .ok (.ifCond .eq 14, 3) := by decide +kernel
theorem dX7_lies_11 : decode cX7_lies 11 = .ok (.aload_n 0, 1) := by decide +kernel
theorem dX7_lies_12 : decode cX7_lies 12 = .ok (.getfield 26, 3) := by decide +kernel
theorem dX7_lies_15 : decode cX7_lies 15 = .ok (.iload_n 2, 1) := by decide +kernel
theorem dX7_lies_16 : decode cX7_lies 16 = .ok (.invokevirtual 132, 3) := by decide +kernel
theorem dX7_lies_19 : decode cX7_lies 19 = .ok (.ifCond .ne 5, 3) := by decide +kernel
theorem dX7_lies_22 : decode cX7_lies 22 = .ok (.iconst (-1), 1) := by decide +kernel
theorem dX7_lies_23 : decode cX7_lies 23 = .ok (.ireturn, 1) := by decide +kernel
theorem dX7_lies_24 : decode cX7_lies 24 = .ok (.aload_n 0, 1) := by decide +kernel
theorem dX7_lies_25 : decode cX7_lies 25 = .ok (.getfield 26, 3) := by decide +kernel
theorem dX7_lies_28 : decode cX7_lies 28 = .ok (.aload_n 0, 1) := by decide +kernel
theorem dX7_lies_29 : decode cX7_lies 29 = .ok (.getfield 19, 3) := by decide +kernel
theorem dX7_lies_32 : decode cX7_lies 32 = .ok (.iload_n 1, 1) := by decide +kernel
theorem dX7_lies_33 : decode cX7_lies 33 = .ok (.iload_n 2, 1) := by decide +kernel
theorem dX7_lies_34 : decode cX7_lies 34 = .ok (.invokevirtual 170, 3) := by decide +kernel
theorem dX7_lies_37 : decode cX7_lies 37 = .ok (.ifCond .eq 7, 3) := by decide +kernel
theorem dX7_lies_40 : decode cX7_lies 40 = .ok (.iconst 1, 1) := by decide +kernel
theorem dX7_lies_41 : decode cX7_lies 41 = .ok (.goto 4, 3) := by decide +kernel
theorem dX7_lies_44 : decode cX7_lies 44 = .ok (.iconst 0, 1) := by decide +kernel
theorem dX7_lies_45 : decode cX7_lies 45 = .ok (.ireturn, 1) := by decide +kernel
theorem dX7_readings_0 : decode cX7_readings 0 = .ok (.aload_n 0, 1) := by decide +kernel
theorem dX7_readings_1 : decode cX7_readings 1 = .ok (.getfield 50, 3) := by decide +kernel
theorem dX7_readings_4 : decode cX7_readings 4 = .ok (.aload_n 0, 1) := by decide +kernel
theorem dX7_readings_5 : decode cX7_readings 5 = .ok (.getfield 19, 3) := by decide +kernel
theorem dX7_readings_8 : decode cX7_readings 8 = .ok (.aload_n 0, 1) := by decide +kernel
theorem dX7_readings_9 : decode cX7_readings 9 = .ok (.getfield 26, 3) := by decide +kernel
theorem dX7_readings_12 : decode cX7_readings 12 = .ok (.invokevirtual 174, 3) := by decide +kernel
theorem dX7_readings_15 : decode cX7_readings 15 = .ok (.lreturn, 1) := by decide +kernel
theorem dX7_rank_0 : decode cX7_rank 0 = .ok (.iload_n 3, 1) := by decide +kernel
theorem dX7_rank_1 : decode cX7_rank 1 = .ok (.bipush (-2), 2) := by decide +kernel
theorem dX7_rank_3 : decode cX7_rank 3 = .ok (.if_icmp .ge 6, 3) := by decide +kernel
theorem dX7_rank_6 : decode cX7_rank 6 = .ok (.bipush (-2), 2) := by decide +kernel
theorem dX7_rank_8 : decode cX7_rank 8 = .ok (.ireturn, 1) := by decide +kernel
theorem dX7_rank_9 : decode cX7_rank 9 = .ok (.aload_n 0, 1) := by decide +kernel
theorem dX7_rank_10 : decode cX7_rank 10 = .ok (.getfield 50, 3) := by decide +kernel
theorem dX7_rank_13 : decode cX7_rank 13 = .ok (.aload_n 0, 1) := by decide +kernel
theorem dX7_rank_14 : decode cX7_rank 14 = .ok (.getfield 19, 3) := by decide +kernel
theorem dX7_rank_17 : decode cX7_rank 17 = .ok (.aload_n 0, 1) := by decide +kernel
theorem dX7_rank_18 : decode cX7_rank 18 = .ok (.getfield 26, 3) := by decide +kernel
theorem dX7_rank_21 : decode cX7_rank 21 = .ok (.invokevirtual 174, 3) := by decide +kernel
theorem dX7_rank_24 : decode cX7_rank 24 = .ok (.lstore 4, 2) := by decide +kernel
theorem dX7_rank_26 : decode cX7_rank 26 = .ok (.lload_n 1, 1) := by decide +kernel
theorem dX7_rank_27 : decode cX7_rank 27 = .ok (.lconst 0, 1) := by decide +kernel
theorem dX7_rank_28 : decode cX7_rank 28 = .ok (.lcmp, 1) := by decide +kernel
theorem dX7_rank_29 : decode cX7_rank 29 = .ok (.ifCond .lt 10, 3) := by decide +kernel
theorem dX7_rank_32 : decode cX7_rank 32 = .ok (.lload_n 1, 1) := by decide +kernel
theorem dX7_rank_33 : decode cX7_rank 33 = .ok (.lload 4, 2) := by decide +kernel
theorem dX7_rank_35 : decode cX7_rank 35 = .ok (.lcmp, 1) := by decide +kernel
theorem dX7_rank_36 : decode cX7_rank 36 = .ok (.ifCond .lt 6, 3) := by decide +kernel
theorem dX7_rank_39 : decode cX7_rank 39 = .ok (.bipush (-9), 2) := by decide +kernel
theorem dX7_rank_41 : decode cX7_rank 41 = .ok (.ireturn, 1) := by decide +kernel
theorem dX7_rank_42 : decode cX7_rank 42 = .ok (.aload_n 0, 1) := by decide +kernel
theorem dX7_rank_43 : decode cX7_rank 43 = .ok (.getfield 57, 3) := by decide +kernel
theorem dX7_rank_46 : decode cX7_rank 46 = .ok (.aload_n 0, 1) := by decide +kernel
theorem dX7_rank_47 : decode cX7_rank 47 = .ok (.getfield 50, 3) := by decide +kernel
theorem dX7_rank_50 : decode cX7_rank 50 = .ok (.aload_n 0, 1) := by decide +kernel
theorem dX7_rank_51 : decode cX7_rank 51 = .ok (.getfield 26, 3) := by decide +kernel
theorem dX7_rank_54 : decode cX7_rank 54 = .ok (.getfield 119, 3) := by decide +kernel
theorem dX7_rank_57 : decode cX7_rank 57 = .ok (.invokevirtual 178, 3) := by decide +kernel
theorem dX7_rank_60 : decode cX7_rank 60 = .ok (.aload_n 0, 1) := by decide +kernel
theorem dX7_rank_61 : decode cX7_rank 61 = .ok (.getfield 57, 3) := by decide +kernel
theorem dX7_rank_64 : decode cX7_rank 64 = .ok (.aload_n 0, 1) := by decide +kernel
theorem dX7_rank_65 : decode cX7_rank 65 = .ok (.getfield 50, 3) := by decide +kernel
theorem dX7_rank_68 : decode cX7_rank 68 = .ok (.lload_n 1, 1) := by decide +kernel
theorem dX7_rank_69 : decode cX7_rank 69 = .ok (.invokevirtual 182, 3) := by decide +kernel
theorem dX7_rank_72 : decode cX7_rank 72 = .ok (.iload_n 3, 1) := by decide +kernel
theorem dX7_rank_73 : decode cX7_rank 73 = .ok (.iconst (-1), 1) := by decide +kernel
theorem dX7_rank_74 : decode cX7_rank 74 = .ok (.if_icmp .ne 11, 3) := by decide +kernel
theorem dX7_rank_77 : decode cX7_rank 77 = .ok (.aload_n 0, 1) := by decide +kernel
theorem dX7_rank_78 : decode cX7_rank 78 = .ok (.getfield 57, 3) := by decide +kernel
theorem dX7_rank_81 : decode cX7_rank 81 = .ok (.getfield 186, 3) := by decide +kernel
theorem dX7_rank_84 : decode cX7_rank 84 = .ok (.ireturn, 1) := by decide +kernel
theorem dX7_rank_85 : decode cX7_rank 85 = .ok (.iload_n 3, 1) := by decide +kernel
theorem dX7_rank_86 : decode cX7_rank 86 = .ok (.bipush (-2), 2) := by decide +kernel
theorem dX7_rank_88 : decode cX7_rank 88 = .ok (.if_icmp .ne 11, 3) := by decide +kernel
theorem dX7_rank_91 : decode cX7_rank 91 = .ok (.aload_n 0, 1) := by decide +kernel
theorem dX7_rank_92 : decode cX7_rank 92 = .ok (.getfield 57, 3) := by decide +kernel
theorem dX7_rank_95 : decode cX7_rank 95 = .ok (.getfield 189, 3) := by decide +kernel
theorem dX7_rank_98 : decode cX7_rank 98 = .ok (.ireturn, 1) := by decide +kernel
theorem dX7_rank_99 : decode cX7_rank 99 = .ok (.iload_n 3, 1) := by decide +kernel
theorem dX7_rank_100 : decode cX7_rank 100 = .ok (.aload_n 0, 1) := by decide +kernel
theorem dX7_rank_101 : decode cX7_rank 101 = .ok (.getfield 57, 3) := by decide +kernel
theorem dX7_rank_104 : decode cX7_rank 104 = .ok (.getfield 189, 3) := by decide +kernel
theorem dX7_rank_107 : decode cX7_rank 107 = .ok (.if_icmp .ge 15, 3) := by decide +kernel
theorem dX7_rank_110 : decode cX7_rank 110 = .ok (.aload_n 0, 1) := by decide +kernel
theorem dX7_rank_111 : decode cX7_rank 111 = .ok (.getfield 57, 3) := by decide +kernel
theorem dX7_rank_114 : decode cX7_rank 114 = .ok (.getfield 190, 3) := by decide +kernel
theorem dX7_rank_117 : decode cX7_rank 117 = .ok (.iload_n 3, 1) := by decide +kernel
theorem dX7_rank_118 : decode cX7_rank 118 = .ok (.iaload, 1) := by decide +kernel
theorem dX7_rank_119 : decode cX7_rank 119 = .ok (.goto 5, 3) := by decide +kernel
theorem dX7_rank_122 : decode cX7_rank 122 = .ok (.bipush (-9), 2) := by decide +kernel
theorem dX7_rank_124 : decode cX7_rank 124 = .ok (.ireturn, 1) := by decide +kernel
theorem dX7_stands_0 : decode cX7_stands 0 = .ok (.aload_n 0, 1) := by decide +kernel
theorem dX7_stands_1 : decode cX7_stands 1 = .ok (.getfield 26, 3) := by decide +kernel
theorem dX7_stands_4 : decode cX7_stands 4 = .ok (.iload_n 1, 1) := by decide +kernel
theorem dX7_stands_5 : decode cX7_stands 5 = .ok (.invokevirtual 132, 3) := by decide +kernel
theorem dX7_stands_8 : decode cX7_stands 8 = .ok (.ifCond .ne 7, 3) := by decide +kernel
theorem dX7_stands_11 : decode cX7_stands 11 = .ok (.ldc2_w 193, 3) := by decide +kernel
theorem dX7_stands_14 : decode cX7_stands 14 = .ok (.lreturn, 1) := by decide +kernel
theorem dX7_stands_15 : decode cX7_stands 15 = .ok (.iload_n 2, 1) := by decide +kernel
theorem dX7_stands_16 : decode cX7_stands 16 = .ok (.invokestatic 195, 3) := by decide +kernel
theorem dX7_stands_19 : decode cX7_stands 19 = .ok (.ifCond .ne 7, 3) := by decide +kernel
theorem dX7_stands_22 : decode cX7_stands 22 = .ok (.ldc2_w 198, 3) := by decide +kernel
theorem dX7_stands_25 : decode cX7_stands 25 = .ok (.lreturn, 1) := by decide +kernel
theorem dX7_stands_26 : decode cX7_stands 26 = .ok (.aload_n 0, 1) := by decide +kernel
theorem dX7_stands_27 : decode cX7_stands 27 = .ok (.getfield 50, 3) := by decide +kernel
theorem dX7_stands_30 : decode cX7_stands 30 = .ok (.aload_n 0, 1) := by decide +kernel
theorem dX7_stands_31 : decode cX7_stands 31 = .ok (.getfield 19, 3) := by decide +kernel
theorem dX7_stands_34 : decode cX7_stands 34 = .ok (.aload_n 0, 1) := by decide +kernel
theorem dX7_stands_35 : decode cX7_stands 35 = .ok (.getfield 26, 3) := by decide +kernel
theorem dX7_stands_38 : decode cX7_stands 38 = .ok (.invokevirtual 174, 3) := by decide +kernel
theorem dX7_stands_41 : decode cX7_stands 41 = .ok (.pop2, 1) := by decide +kernel
theorem dX7_stands_42 : decode cX7_stands 42 = .ok (.aload_n 0, 1) := by decide +kernel
theorem dX7_stands_43 : decode cX7_stands 43 = .ok (.getfield 50, 3) := by decide +kernel
theorem dX7_stands_46 : decode cX7_stands 46 = .ok (.invokevirtual 200, 3) := by decide +kernel
theorem dX7_stands_49 : decode cX7_stands 49 = .ok (.aload_n 0, 1) := by decide +kernel
theorem dX7_stands_50 : decode cX7_stands 50 = .ok (.getfield 50, 3) := by decide +kernel
theorem dX7_stands_53 : decode cX7_stands 53 = .ok (.aload_n 0, 1) := by decide +kernel
theorem dX7_stands_54 : decode cX7_stands 54 = .ok (.getfield 19, 3) := by decide +kernel
theorem dX7_stands_57 : decode cX7_stands 57 = .ok (.iload_n 1, 1) := by decide +kernel
theorem dX7_stands_58 : decode cX7_stands 58 = .ok (.iload_n 2, 1) := by decide +kernel
theorem dX7_stands_59 : decode cX7_stands 59 = .ok (.invokevirtual 203, 3) := by decide +kernel
theorem dX7_stands_62 : decode cX7_stands 62 = .ok (.lreturn, 1) := by decide +kernel
theorem dX7_begins_0 : decode cX7_begins 0 = .ok (.aload_n 0, 1) := by decide +kernel
theorem dX7_begins_1 : decode cX7_begins 1 = .ok (.getfield 19, 3) := by decide +kernel
theorem dX7_begins_4 : decode cX7_begins 4 = .ok (.iload_n 1, 1) := by decide +kernel
theorem dX7_begins_5 : decode cX7_begins 5 = .ok (.invokevirtual 105, 3) := by decide +kernel
theorem dX7_begins_8 : decode cX7_begins 8 = .ok (.ifCond .eq 14, 3) := by decide +kernel
theorem dX7_begins_11 : decode cX7_begins 11 = .ok (.aload_n 0, 1) := by decide +kernel
theorem dX7_begins_12 : decode cX7_begins 12 = .ok (.getfield 26, 3) := by decide +kernel
theorem dX7_begins_15 : decode cX7_begins 15 = .ok (.iload_n 2, 1) := by decide +kernel
theorem dX7_begins_16 : decode cX7_begins 16 = .ok (.invokevirtual 132, 3) := by decide +kernel
theorem dX7_begins_19 : decode cX7_begins 19 = .ok (.ifCond .ne 7, 3) := by decide +kernel
theorem dX7_begins_22 : decode cX7_begins 22 = .ok (.ldc2_w 193, 3) := by decide +kernel
theorem dX7_begins_25 : decode cX7_begins 25 = .ok (.lreturn, 1) := by decide +kernel
theorem dX7_begins_26 : decode cX7_begins 26 = .ok (.aload_n 0, 1) := by decide +kernel
theorem dX7_begins_27 : decode cX7_begins 27 = .ok (.getfield 50, 3) := by decide +kernel
theorem dX7_begins_30 : decode cX7_begins 30 = .ok (.aload_n 0, 1) := by decide +kernel
theorem dX7_begins_31 : decode cX7_begins 31 = .ok (.getfield 19, 3) := by decide +kernel
theorem dX7_begins_34 : decode cX7_begins 34 = .ok (.aload_n 0, 1) := by decide +kernel
theorem dX7_begins_35 : decode cX7_begins 35 = .ok (.getfield 26, 3) := by decide +kernel
theorem dX7_begins_38 : decode cX7_begins 38 = .ok (.invokevirtual 174, 3) := by decide +kernel
theorem dX7_begins_41 : decode cX7_begins 41 = .ok (.pop2, 1) := by decide +kernel
theorem dX7_begins_42 : decode cX7_begins 42 = .ok (.aload_n 0, 1) := by decide +kernel
theorem dX7_begins_43 : decode cX7_begins 43 = .ok (.getfield 50, 3) := by decide +kernel
theorem dX7_begins_46 : decode cX7_begins 46 = .ok (.invokevirtual 200, 3) := by decide +kernel
theorem dX7_begins_49 : decode cX7_begins 49 = .ok (.aload_n 0, 1) := by decide +kernel
theorem dX7_begins_50 : decode cX7_begins 50 = .ok (.getfield 50, 3) := by decide +kernel
theorem dX7_begins_53 : decode cX7_begins 53 = .ok (.iload_n 2, 1) := by decide +kernel
theorem dX7_begins_54 : decode cX7_begins 54 = .ok (.iload_n 1, 1) := by decide +kernel
theorem dX7_begins_55 : decode cX7_begins 55 = .ok (.invokevirtual 207, 3) := by decide +kernel
theorem dX7_begins_58 : decode cX7_begins 58 = .ok (.lreturn, 1) := by decide +kernel
theorem dX7_sure_0 : decode cX7_sure 0 = .ok (.aload_n 0, 1) := by decide +kernel
theorem dX7_sure_1 : decode cX7_sure 1 = .ok (.getfield 26, 3) := by decide +kernel
theorem dX7_sure_4 : decode cX7_sure 4 = .ok (.iload_n 1, 1) := by decide +kernel
theorem dX7_sure_5 : decode cX7_sure 5 = .ok (.invokevirtual 132, 3) := by decide +kernel
theorem dX7_sure_8 : decode cX7_sure 8 = .ok (.ifCond .eq 15, 3) := by decide +kernel
theorem dX7_sure_11 : decode cX7_sure 11 = .ok (.aload_n 0, 1) := by decide +kernel
theorem dX7_sure_12 : decode cX7_sure 12 = .ok (.aload_n 0, 1) := by decide +kernel
theorem dX7_sure_13 : decode cX7_sure 13 = .ok (.getfield 26, 3) := by decide +kernel
theorem dX7_sure_16 : decode cX7_sure 16 = .ok (.iload_n 1, 1) := by decide +kernel
theorem dX7_sure_17 : decode cX7_sure 17 = .ok (.invokevirtual 211, 3) := by decide +kernel
theorem dX7_sure_20 : decode cX7_sure 20 = .ok (.goto 4, 3) := by decide +kernel
theorem dX7_sure_23 : decode cX7_sure 23 = .ok (.iconst (-1), 1) := by decide +kernel
theorem dX7_sure_24 : decode cX7_sure 24 = .ok (.ireturn, 1) := by decide +kernel
theorem dX7_certainSign_0 : decode cX7_certainSign 0 = .ok (.aload_n 0, 1) := by decide +kernel
theorem dX7_certainSign_1 : decode cX7_certainSign 1 = .ok (.getfield 50, 3) := by decide +kernel
theorem dX7_certainSign_4 : decode cX7_certainSign 4 = .ok (.aload_n 0, 1) := by decide +kernel
theorem dX7_certainSign_5 : decode cX7_certainSign 5 = .ok (.getfield 19, 3) := by decide +kernel
theorem dX7_certainSign_8 : decode cX7_certainSign 8 = .ok (.aload_n 1, 1) := by decide +kernel
theorem dX7_certainSign_9 : decode cX7_certainSign 9 = .ok (.invokevirtual 174, 3) := by decide +kernel
theorem dX7_certainSign_12 : decode cX7_certainSign 12 = .ok (.lstore_n 3, 1) := by decide +kernel
theorem dX7_certainSign_13 : decode cX7_certainSign 13 = .ok (.aload_n 0, 1) := by decide +kernel
theorem dX7_certainSign_14 : decode cX7_certainSign 14 = .ok (.getfield 50, 3) := by decide +kernel
theorem dX7_certainSign_17 : decode cX7_certainSign 17 = .ok (.invokevirtual 200, 3) := by decide +kernel
theorem dX7_certainSign_20 : decode cX7_certainSign 20 = .ok (.iconst 0, 1) := by decide +kernel
theorem dX7_certainSign_21 : decode cX7_certainSign 21 = .ok (.istore 5, 2) := by decide +kernel
theorem dX7_certainSign_23 : decode cX7_certainSign 23 = .ok (.iload 5, 2) := by decide +kernel
theorem dX7_certainSign_25 : decode cX7_certainSign 25 = .ok (.bipush 7, 2) := by decide +kernel
theorem dX7_certainSign_27 : decode cX7_certainSign 27 = .ok (.if_icmp .ge 37, 3) := by decide +kernel
theorem dX7_certainSign_30 : decode cX7_certainSign 30 = .ok (.lload_n 3, 1) := by decide +kernel
theorem dX7_certainSign_31 : decode cX7_certainSign 31 = .ok (.lconst 0, 1) := by decide +kernel
theorem dX7_certainSign_32 : decode cX7_certainSign 32 = .ok (.lcmp, 1) := by decide +kernel
theorem dX7_certainSign_33 : decode cX7_certainSign 33 = .ok (.ifCond .le 25, 3) := by decide +kernel
theorem dX7_certainSign_36 : decode cX7_certainSign 36 = .ok (.aload_n 0, 1) := by decide +kernel
theorem dX7_certainSign_37 : decode cX7_certainSign 37 = .ok (.getfield 50, 3) := by decide +kernel
theorem dX7_certainSign_40 : decode cX7_certainSign 40 = .ok (.aload_n 0, 1) := by decide +kernel
theorem dX7_certainSign_41 : decode cX7_certainSign 41 = .ok (.getfield 19, 3) := by decide +kernel
theorem dX7_certainSign_44 : decode cX7_certainSign 44 = .ok (.iload_n 2, 1) := by decide +kernel
theorem dX7_certainSign_45 : decode cX7_certainSign 45 = .ok (.iload 5, 2) := by decide +kernel
theorem dX7_certainSign_47 : decode cX7_certainSign 47 = .ok (.invokevirtual 203, 3) := by decide +kernel
theorem dX7_certainSign_50 : decode cX7_certainSign 50 = .ok (.lload_n 3, 1) := by decide +kernel
theorem dX7_certainSign_51 : decode cX7_certainSign 51 = .ok (.lcmp, 1) := by decide +kernel
theorem dX7_certainSign_52 : decode cX7_certainSign 52 = .ok (.ifCond .ne 6, 3) := by decide +kernel
theorem dX7_certainSign_55 : decode cX7_certainSign 55 = .ok (.iload 5, 2) := by decide +kernel
theorem dX7_certainSign_57 : decode cX7_certainSign 57 = .ok (.ireturn, 1) := by decide +kernel
theorem dX7_certainSign_58 : decode cX7_certainSign 58 = .ok (.iinc 5 1, 3) := by decide +kernel
theorem dX7_certainSign_61 : decode cX7_certainSign 61 = .ok (.goto (-38), 3) := by decide +kernel
theorem dX7_certainSign_64 : decode cX7_certainSign 64 = .ok (.bipush (-9), 2) := by decide +kernel
theorem dX7_certainSign_66 : decode cX7_certainSign 66 = .ok (.ireturn, 1) := by decide +kernel
theorem dX7_judge_0 : decode cX7_judge 0 = .ok (.iload_n 1, 1) := by decide +kernel
theorem dX7_judge_1 : decode cX7_judge 1 = .ok (.iconst 1, 1) := by decide +kernel
theorem dX7_judge_2 : decode cX7_judge 2 = .ok (.if_icmp .lt 14, 3) := by decide +kernel
theorem dX7_judge_5 : decode cX7_judge 5 = .ok (.iload_n 1, 1) := by decide +kernel
theorem dX7_judge_6 : decode cX7_judge 6 = .ok (.iconst 3, 1) := by decide +kernel
theorem dX7_judge_7 : decode cX7_judge 7 = .ok (.if_icmp .gt 9, 3) := by decide +kernel
theorem dX7_judge_10 : decode cX7_judge 10 = .ok (.lload_n 2, 1) := by decide +kernel
theorem dX7_judge_11 : decode cX7_judge 11 = .ok (.lconst 0, 1) := by decide +kernel
theorem dX7_judge_12 : decode cX7_judge 12 = .ok (.lcmp, 1) := by decide +kernel
theorem dX7_judge_13 : decode cX7_judge 13 = .ok (.ifCond .ge 6, 3) := by decide +kernel
theorem dX7_judge_16 : decode cX7_judge 16 = .ok (.bipush (-2), 2) := by decide +kernel
theorem dX7_judge_18 : decode cX7_judge 18 = .ok (.ireturn, 1) := by decide +kernel
theorem dX7_judge_19 : decode cX7_judge 19 = .ok (.lconst 1, 1) := by decide +kernel
theorem dX7_judge_20 : decode cX7_judge 20 = .ok (.lstore 4, 2) := by decide +kernel
theorem dX7_judge_22 : decode cX7_judge 22 = .ok (.iconst 1, 1) := by decide +kernel
theorem dX7_judge_23 : decode cX7_judge 23 = .ok (.istore 6, 2) := by decide +kernel
theorem dX7_judge_25 : decode cX7_judge 25 = .ok (.iload 6, 2) := by decide +kernel
theorem dX7_judge_27 : decode cX7_judge 27 = .ok (.iload_n 1, 1) := by decide +kernel
theorem dX7_judge_28 : decode cX7_judge 28 = .ok (.if_icmp .ge 17, 3) := by decide +kernel
theorem dX7_judge_31 : decode cX7_judge 31 = .ok (.lload 4, 2) := by decide +kernel
theorem dX7_judge_33 : decode cX7_judge 33 = .ok (.ldc2_w 215, 3) := by decide +kernel
theorem dX7_judge_36 : decode cX7_judge 36 = .ok (.lmul, 1) := by decide +kernel
theorem dX7_judge_37 : decode cX7_judge 37 = .ok (.lstore 4, 2) := by decide +kernel
theorem dX7_judge_39 : decode cX7_judge 39 = .ok (.iinc 6 1, 3) := by decide +kernel
theorem dX7_judge_42 : decode cX7_judge 42 = .ok (.goto (-17), 3) := by decide +kernel
theorem dX7_judge_45 : decode cX7_judge 45 = .ok (.lload 4, 2) := by decide +kernel
theorem dX7_judge_47 : decode cX7_judge 47 = .ok (.lconst 0, 1) := by decide +kernel
theorem dX7_judge_48 : decode cX7_judge 48 = .ok (.lcmp, 1) := by decide +kernel
theorem dX7_judge_49 : decode cX7_judge 49 = .ok (.ifCond .le 14, 3) := by decide +kernel
theorem dX7_judge_52 : decode cX7_judge 52 = .ok (.lload_n 2, 1) := by decide +kernel
theorem dX7_judge_53 : decode cX7_judge 53 = .ok (.lload 4, 2) := by decide +kernel
theorem dX7_judge_55 : decode cX7_judge 55 = .ok (.ldiv, 1) := by decide +kernel
theorem dX7_judge_56 : decode cX7_judge 56 = .ok (.ldc2_w 215, 3) := by decide +kernel
theorem dX7_judge_59 : decode cX7_judge 59 = .ok (.lcmp, 1) := by decide +kernel
theorem dX7_judge_60 : decode cX7_judge 60 = .ok (.ifCond .lt 6, 3) := by decide +kernel
theorem dX7_judge_63 : decode cX7_judge 63 = .ok (.bipush (-2), 2) := by decide +kernel
theorem dX7_judge_65 : decode cX7_judge 65 = .ok (.ireturn, 1) := by decide +kernel
theorem dX7_judge_66 : decode cX7_judge 66 = .ok (.aload_n 0, 1) := by decide +kernel
theorem dX7_judge_67 : decode cX7_judge 67 = .ok (.getfield 30, 3) := by decide +kernel
theorem dX7_judge_70 : decode cX7_judge 70 = .ok (.aload_n 0, 1) := by decide +kernel
theorem dX7_judge_71 : decode cX7_judge 71 = .ok (.getfield 26, 3) := by decide +kernel
theorem dX7_judge_74 : decode cX7_judge 74 = .ok (.invokevirtual 96, 3) := by decide +kernel
theorem dX7_judge_77 : decode cX7_judge 77 = .ok (.lload_n 2, 1) := by decide +kernel
theorem dX7_judge_78 : decode cX7_judge 78 = .ok (.lstore 6, 2) := by decide +kernel
theorem dX7_judge_80 : decode cX7_judge 80 = .ok (.iconst 0, 1) := by decide +kernel
theorem dX7_judge_81 : decode cX7_judge 81 = .ok (.istore 8, 2) := by decide +kernel
theorem dX7_judge_83 : decode cX7_judge 83 = .ok (.iload 8, 2) := by decide +kernel
theorem dX7_judge_85 : decode cX7_judge 85 = .ok (.iload_n 1, 1) := by decide +kernel
theorem dX7_judge_86 : decode cX7_judge 86 = .ok (.if_icmp .ge 47, 3) := by decide +kernel
theorem dX7_judge_89 : decode cX7_judge 89 = .ok (.lload 4, 2) := by decide +kernel
theorem dX7_judge_91 : decode cX7_judge 91 = .ok (.lconst 0, 1) := by decide +kernel
theorem dX7_judge_92 : decode cX7_judge 92 = .ok (.lcmp, 1) := by decide +kernel
theorem dX7_judge_93 : decode cX7_judge 93 = .ok (.ifCond .le 40, 3) := by decide +kernel
theorem dX7_judge_96 : decode cX7_judge 96 = .ok (.aload_n 0, 1) := by decide +kernel
theorem dX7_judge_97 : decode cX7_judge 97 = .ok (.lload 6, 2) := by decide +kernel
theorem dX7_judge_99 : decode cX7_judge 99 = .ok (.lload 4, 2) := by decide +kernel
theorem dX7_judge_101 : decode cX7_judge 101 = .ok (.ldiv, 1) := by decide +kernel
theorem dX7_judge_102 : decode cX7_judge 102 = .ok (.l2i, 1) := by decide +kernel
theorem dX7_judge_103 : decode cX7_judge 103 = .ok (.invokevirtual 217, 3) := by decide +kernel
theorem dX7_judge_106 : decode cX7_judge 106 = .ok (.ifCond .ne 6, 3) := by decide +kernel
theorem dX7_judge_109 : decode cX7_judge 109 = .ok (.iload 8, 2) := by decide +kernel
theorem dX7_judge_111 : decode cX7_judge 111 = .ok (.ireturn, 1) := by decide +kernel
theorem dX7_judge_112 : decode cX7_judge 112 = .ok (.lload 6, 2) := by decide +kernel
theorem dX7_judge_114 : decode cX7_judge 114 = .ok (.lload 4, 2) := by decide +kernel
theorem dX7_judge_116 : decode cX7_judge 116 = .ok (.lrem, 1) := by decide +kernel
theorem dX7_judge_117 : decode cX7_judge 117 = .ok (.lstore 6, 2) := by decide +kernel
theorem dX7_judge_119 : decode cX7_judge 119 = .ok (.lload 4, 2) := by decide +kernel
theorem dX7_judge_121 : decode cX7_judge 121 = .ok (.ldc2_w 215, 3) := by decide +kernel
theorem dX7_judge_124 : decode cX7_judge 124 = .ok (.ldiv, 1) := by decide +kernel
theorem dX7_judge_125 : decode cX7_judge 125 = .ok (.lstore 4, 2) := by decide +kernel
theorem dX7_judge_127 : decode cX7_judge 127 = .ok (.iinc 8 1, 3) := by decide +kernel
theorem dX7_judge_130 : decode cX7_judge 130 = .ok (.goto (-47), 3) := by decide +kernel
theorem dX7_judge_133 : decode cX7_judge 133 = .ok (.bipush (-9), 2) := by decide +kernel
theorem dX7_judge_135 : decode cX7_judge 135 = .ok (.ireturn, 1) := by decide +kernel
theorem dX7_accepts_0 : decode cX7_accepts 0 = .ok (.iload_n 1, 1) := by decide +kernel
theorem dX7_accepts_1 : decode cX7_accepts 1 = .ok (.sipush 10000, 3) := by decide +kernel
theorem dX7_accepts_4 : decode cX7_accepts 4 = .ok (.idiv, 1) := by decide +kernel
theorem dX7_accepts_5 : decode cX7_accepts 5 = .ok (.istore_n 2, 1) := by decide +kernel
theorem dX7_accepts_6 : decode cX7_accepts 6 = .ok (.iload_n 1, 1) := by decide +kernel
theorem dX7_accepts_7 : decode cX7_accepts 7 = .ok (.sipush 1000, 3) := by decide +kernel
theorem dX7_accepts_10 : decode cX7_accepts 10 = .ok (.idiv, 1) := by decide +kernel
theorem dX7_accepts_11 : decode cX7_accepts 11 = .ok (.bipush 10, 2) := by decide +kernel
theorem dX7_accepts_13 : decode cX7_accepts 13 = .ok (.irem, 1) := by decide +kernel
theorem dX7_accepts_14 : decode cX7_accepts 14 = .ok (.istore_n 3, 1) := by decide +kernel
theorem dX7_accepts_15 : decode cX7_accepts 15 = .ok (.iload_n 1, 1) := by decide +kernel
theorem dX7_accepts_16 : decode cX7_accepts 16 = .ok (.bipush 100, 2) := by decide +kernel
theorem dX7_accepts_18 : decode cX7_accepts 18 = .ok (.idiv, 1) := by decide +kernel
theorem dX7_accepts_19 : decode cX7_accepts 19 = .ok (.bipush 10, 2) := by decide +kernel
theorem dX7_accepts_21 : decode cX7_accepts 21 = .ok (.irem, 1) := by decide +kernel
theorem dX7_accepts_22 : decode cX7_accepts 22 = .ok (.istore 4, 2) := by decide +kernel
theorem dX7_accepts_24 : decode cX7_accepts 24 = .ok (.iload_n 1, 1) := by decide +kernel
theorem dX7_accepts_25 : decode cX7_accepts 25 = .ok (.bipush 10, 2) := by decide +kernel
theorem dX7_accepts_27 : decode cX7_accepts 27 = .ok (.idiv, 1) := by decide +kernel
theorem dX7_accepts_28 : decode cX7_accepts 28 = .ok (.bipush 10, 2) := by decide +kernel
theorem dX7_accepts_30 : decode cX7_accepts 30 = .ok (.irem, 1) := by decide +kernel
theorem dX7_accepts_31 : decode cX7_accepts 31 = .ok (.istore 5, 2) := by decide +kernel
theorem dX7_accepts_33 : decode cX7_accepts 33 = .ok (.iload_n 1, 1) := by decide +kernel
theorem dX7_accepts_34 : decode cX7_accepts 34 = .ok (.bipush 10, 2) := by decide +kernel
theorem dX7_accepts_36 : decode cX7_accepts 36 = .ok (.irem, 1) := by decide +kernel
theorem dX7_accepts_37 : decode cX7_accepts 37 = .ok (.istore 6, 2) := by decide +kernel
theorem dX7_accepts_39 : decode cX7_accepts 39 = .ok (.iload_n 3, 1) := by decide +kernel
theorem dX7_accepts_40 : decode cX7_accepts 40 = .ok (.bipush 10, 2) := by decide +kernel
theorem dX7_accepts_42 : decode cX7_accepts 42 = .ok (.imul, 1) := by decide +kernel
theorem dX7_accepts_43 : decode cX7_accepts 43 = .ok (.iload 4, 2) := by decide +kernel
theorem dX7_accepts_45 : decode cX7_accepts 45 = .ok (.iadd, 1) := by decide +kernel
theorem dX7_accepts_46 : decode cX7_accepts 46 = .ok (.istore 7, 2) := by decide +kernel
theorem dX7_accepts_48 : decode cX7_accepts 48 = .ok (.iload 6, 2) := by decide +kernel
theorem dX7_accepts_50 : decode cX7_accepts 50 = .ok (.ifCond .eq 5, 3) := by decide +kernel
theorem dX7_accepts_53 : decode cX7_accepts 53 = .ok (.iconst 0, 1) := by decide +kernel
theorem dX7_accepts_54 : decode cX7_accepts 54 = .ok (.ireturn, 1) := by decide +kernel
theorem dX7_accepts_55 : decode cX7_accepts 55 = .ok (.iload_n 2, 1) := by decide +kernel
theorem dX7_accepts_56 : decode cX7_accepts 56 = .ok (.tableswitch 242 1 7 #[44, 71, 95, 126, 147, 168, 201], 44) := by decide +kernel
theorem dX7_accepts_100 : decode cX7_accepts 100 = .ok (.iload 5, 2) := by decide +kernel
theorem dX7_accepts_102 : decode cX7_accepts 102 = .ok (.ifCond .ne 23, 3) := by decide +kernel
theorem dX7_accepts_105 : decode cX7_accepts 105 = .ok (.aload_n 0, 1) := by decide +kernel
theorem dX7_accepts_106 : decode cX7_accepts 106 = .ok (.getfield 30, 3) := by decide +kernel
theorem dX7_accepts_109 : decode cX7_accepts 109 = .ok (.aload_n 0, 1) := by decide +kernel
theorem dX7_accepts_110 : decode cX7_accepts 110 = .ok (.getfield 19, 3) := by decide +kernel
theorem dX7_accepts_113 : decode cX7_accepts 113 = .ok (.iload 7, 2) := by decide +kernel
theorem dX7_accepts_115 : decode cX7_accepts 115 = .ok (.invokevirtual 144, 3) := by decide +kernel
theorem dX7_accepts_118 : decode cX7_accepts 118 = .ok (.ifCond .lt 7, 3) := by decide +kernel
theorem dX7_accepts_121 : decode cX7_accepts 121 = .ok (.iconst 1, 1) := by decide +kernel
theorem dX7_accepts_122 : decode cX7_accepts 122 = .ok (.goto 4, 3) := by decide +kernel
theorem dX7_accepts_125 : decode cX7_accepts 125 = .ok (.iconst 0, 1) := by decide +kernel
theorem dX7_accepts_126 : decode cX7_accepts 126 = .ok (.ireturn, 1) := by decide +kernel
theorem dX7_accepts_127 : decode cX7_accepts 127 = .ok (.aload_n 0, 1) := by decide +kernel
theorem dX7_accepts_128 : decode cX7_accepts 128 = .ok (.getfield 30, 3) := by decide +kernel
theorem dX7_accepts_131 : decode cX7_accepts 131 = .ok (.aload_n 0, 1) := by decide +kernel
theorem dX7_accepts_132 : decode cX7_accepts 132 = .ok (.getfield 19, 3) := by decide +kernel
theorem dX7_accepts_135 : decode cX7_accepts 135 = .ok (.iload 7, 2) := by decide +kernel
theorem dX7_accepts_137 : decode cX7_accepts 137 = .ok (.iload 5, 2) := by decide +kernel
theorem dX7_accepts_139 : decode cX7_accepts 139 = .ok (.invokevirtual 152, 3) := by decide +kernel
theorem dX7_accepts_142 : decode cX7_accepts 142 = .ok (.ifCond .lt 7, 3) := by decide +kernel
theorem dX7_accepts_145 : decode cX7_accepts 145 = .ok (.iconst 1, 1) := by decide +kernel
theorem dX7_accepts_146 : decode cX7_accepts 146 = .ok (.goto 4, 3) := by decide +kernel
theorem dX7_accepts_149 : decode cX7_accepts 149 = .ok (.iconst 0, 1) := by decide +kernel
theorem dX7_accepts_150 : decode cX7_accepts 150 = .ok (.ireturn, 1) := by decide +kernel
theorem dX7_accepts_151 : decode cX7_accepts 151 = .ok (.iload 4, 2) := by decide +kernel
theorem dX7_accepts_153 : decode cX7_accepts 153 = .ok (.ifCond .ne 27, 3) := by decide +kernel
theorem dX7_accepts_156 : decode cX7_accepts 156 = .ok (.iload 5, 2) := by decide +kernel
theorem dX7_accepts_158 : decode cX7_accepts 158 = .ok (.ifCond .ne 22, 3) := by decide +kernel
theorem dX7_accepts_161 : decode cX7_accepts 161 = .ok (.aload_n 0, 1) := by decide +kernel
theorem dX7_accepts_162 : decode cX7_accepts 162 = .ok (.getfield 30, 3) := by decide +kernel
theorem dX7_accepts_165 : decode cX7_accepts 165 = .ok (.aload_n 0, 1) := by decide +kernel
theorem dX7_accepts_166 : decode cX7_accepts 166 = .ok (.getfield 19, 3) := by decide +kernel
theorem dX7_accepts_169 : decode cX7_accepts 169 = .ok (.iload_n 3, 1) := by decide +kernel
theorem dX7_accepts_170 : decode cX7_accepts 170 = .ok (.invokevirtual 156, 3) := by decide +kernel
theorem dX7_accepts_173 : decode cX7_accepts 173 = .ok (.ifCond .lt 7, 3) := by decide +kernel
theorem dX7_accepts_176 : decode cX7_accepts 176 = .ok (.iconst 1, 1) := by decide +kernel
theorem dX7_accepts_177 : decode cX7_accepts 177 = .ok (.goto 4, 3) := by decide +kernel
theorem dX7_accepts_180 : decode cX7_accepts 180 = .ok (.iconst 0, 1) := by decide +kernel
theorem dX7_accepts_181 : decode cX7_accepts 181 = .ok (.ireturn, 1) := by decide +kernel
theorem dX7_accepts_182 : decode cX7_accepts 182 = .ok (.aload_n 0, 1) := by decide +kernel
theorem dX7_accepts_183 : decode cX7_accepts 183 = .ok (.getfield 30, 3) := by decide +kernel
theorem dX7_accepts_186 : decode cX7_accepts 186 = .ok (.iload_n 3, 1) := by decide +kernel
theorem dX7_accepts_187 : decode cX7_accepts 187 = .ok (.iload 4, 2) := by decide +kernel
theorem dX7_accepts_189 : decode cX7_accepts 189 = .ok (.iload 5, 2) := by decide +kernel
theorem dX7_accepts_191 : decode cX7_accepts 191 = .ok (.invokevirtual 159, 3) := by decide +kernel
theorem dX7_accepts_194 : decode cX7_accepts 194 = .ok (.ifCond .lt 7, 3) := by decide +kernel
theorem dX7_accepts_197 : decode cX7_accepts 197 = .ok (.iconst 1, 1) := by decide +kernel
theorem dX7_accepts_198 : decode cX7_accepts 198 = .ok (.goto 4, 3) := by decide +kernel
theorem dX7_accepts_201 : decode cX7_accepts 201 = .ok (.iconst 0, 1) := by decide +kernel
theorem dX7_accepts_202 : decode cX7_accepts 202 = .ok (.ireturn, 1) := by decide +kernel
theorem dX7_accepts_203 : decode cX7_accepts 203 = .ok (.aload_n 0, 1) := by decide +kernel
theorem dX7_accepts_204 : decode cX7_accepts 204 = .ok (.getfield 30, 3) := by decide +kernel
theorem dX7_accepts_207 : decode cX7_accepts 207 = .ok (.aload_n 0, 1) := by decide +kernel
theorem dX7_accepts_208 : decode cX7_accepts 208 = .ok (.getfield 19, 3) := by decide +kernel
theorem dX7_accepts_211 : decode cX7_accepts 211 = .ok (.iload_n 3, 1) := by decide +kernel
theorem dX7_accepts_212 : decode cX7_accepts 212 = .ok (.iload 4, 2) := by decide +kernel
theorem dX7_accepts_214 : decode cX7_accepts 214 = .ok (.bipush 10, 2) := by decide +kernel
theorem dX7_accepts_216 : decode cX7_accepts 216 = .ok (.imul, 1) := by decide +kernel
theorem dX7_accepts_217 : decode cX7_accepts 217 = .ok (.iload 5, 2) := by decide +kernel
theorem dX7_accepts_219 : decode cX7_accepts 219 = .ok (.iadd, 1) := by decide +kernel
theorem dX7_accepts_220 : decode cX7_accepts 220 = .ok (.invokevirtual 170, 3) := by decide +kernel
theorem dX7_accepts_223 : decode cX7_accepts 223 = .ok (.ireturn, 1) := by decide +kernel
theorem dX7_accepts_224 : decode cX7_accepts 224 = .ok (.iload 5, 2) := by decide +kernel
theorem dX7_accepts_226 : decode cX7_accepts 226 = .ok (.ifCond .ne 29, 3) := by decide +kernel
theorem dX7_accepts_229 : decode cX7_accepts 229 = .ok (.aload_n 0, 1) := by decide +kernel
theorem dX7_accepts_230 : decode cX7_accepts 230 = .ok (.getfield 50, 3) := by decide +kernel
theorem dX7_accepts_233 : decode cX7_accepts 233 = .ok (.aload_n 0, 1) := by decide +kernel
theorem dX7_accepts_234 : decode cX7_accepts 234 = .ok (.getfield 19, 3) := by decide +kernel
theorem dX7_accepts_237 : decode cX7_accepts 237 = .ok (.aload_n 0, 1) := by decide +kernel
theorem dX7_accepts_238 : decode cX7_accepts 238 = .ok (.getfield 30, 3) := by decide +kernel
theorem dX7_accepts_241 : decode cX7_accepts 241 = .ok (.invokevirtual 174, 3) := by decide +kernel
theorem dX7_accepts_244 : decode cX7_accepts 244 = .ok (.iload 7, 2) := by decide +kernel
theorem dX7_accepts_246 : decode cX7_accepts 246 = .ok (.i2l, 1) := by decide +kernel
theorem dX7_accepts_247 : decode cX7_accepts 247 = .ok (.lcmp, 1) := by decide +kernel
theorem dX7_accepts_248 : decode cX7_accepts 248 = .ok (.ifCond .gt 7, 3) := by decide +kernel
theorem dX7_accepts_251 : decode cX7_accepts 251 = .ok (.iconst 1, 1) := by decide +kernel
theorem dX7_accepts_252 : decode cX7_accepts 252 = .ok (.goto 4, 3) := by decide +kernel
theorem dX7_accepts_255 : decode cX7_accepts 255 = .ok (.iconst 0, 1) := by decide +kernel
theorem dX7_accepts_256 : decode cX7_accepts 256 = .ok (.ireturn, 1) := by decide +kernel
theorem dX7_accepts_257 : decode cX7_accepts 257 = .ok (.aload_n 0, 1) := by decide +kernel
theorem dX7_accepts_258 : decode cX7_accepts 258 = .ok (.getfield 30, 3) := by decide +kernel
theorem dX7_accepts_261 : decode cX7_accepts 261 = .ok (.iload 7, 2) := by decide +kernel
theorem dX7_accepts_263 : decode cX7_accepts 263 = .ok (.invokevirtual 132, 3) := by decide +kernel
theorem dX7_accepts_266 : decode cX7_accepts 266 = .ok (.ifCond .eq 30, 3) := by decide +kernel
theorem dX7_accepts_269 : decode cX7_accepts 269 = .ok (.iload 5, 2) := by decide +kernel
theorem dX7_accepts_271 : decode cX7_accepts 271 = .ok (.invokestatic 195, 3) := by decide +kernel
theorem dX7_accepts_274 : decode cX7_accepts 274 = .ok (.ifCond .eq 22, 3) := by decide +kernel
theorem dX7_accepts_277 : decode cX7_accepts 277 = .ok (.aload_n 0, 1) := by decide +kernel
theorem dX7_accepts_278 : decode cX7_accepts 278 = .ok (.aload_n 0, 1) := by decide +kernel
theorem dX7_accepts_279 : decode cX7_accepts 279 = .ok (.getfield 30, 3) := by decide +kernel
theorem dX7_accepts_282 : decode cX7_accepts 282 = .ok (.iload 7, 2) := by decide +kernel
theorem dX7_accepts_284 : decode cX7_accepts 284 = .ok (.invokevirtual 211, 3) := by decide +kernel
theorem dX7_accepts_287 : decode cX7_accepts 287 = .ok (.iload 5, 2) := by decide +kernel
theorem dX7_accepts_289 : decode cX7_accepts 289 = .ok (.if_icmp .ne 7, 3) := by decide +kernel
theorem dX7_accepts_292 : decode cX7_accepts 292 = .ok (.iconst 1, 1) := by decide +kernel
theorem dX7_accepts_293 : decode cX7_accepts 293 = .ok (.goto 4, 3) := by decide +kernel
theorem dX7_accepts_296 : decode cX7_accepts 296 = .ok (.iconst 0, 1) := by decide +kernel
theorem dX7_accepts_297 : decode cX7_accepts 297 = .ok (.ireturn, 1) := by decide +kernel
theorem dX7_accepts_298 : decode cX7_accepts 298 = .ok (.iconst 0, 1) := by decide +kernel
theorem dX7_accepts_299 : decode cX7_accepts 299 = .ok (.ireturn, 1) := by decide +kernel
theorem dX7_see_0 : decode cX7_see 0 = .ok (.aload_n 0, 1) := by decide +kernel
theorem dX7_see_1 : decode cX7_see 1 = .ok (.getfield 19, 3) := by decide +kernel
theorem dX7_see_4 : decode cX7_see 4 = .ok (.iload_n 1, 1) := by decide +kernel
theorem dX7_see_5 : decode cX7_see 5 = .ok (.invokevirtual 105, 3) := by decide +kernel
theorem dX7_see_8 : decode cX7_see 8 = .ok (.ifCond .eq 14, 3) := by decide +kernel
theorem dX7_see_11 : decode cX7_see 11 = .ok (.aload_n 0, 1) := by decide +kernel
theorem dX7_see_12 : decode cX7_see 12 = .ok (.getfield 26, 3) := by decide +kernel
theorem dX7_see_15 : decode cX7_see 15 = .ok (.iload_n 2, 1) := by decide +kernel
theorem dX7_see_16 : decode cX7_see 16 = .ok (.invokevirtual 132, 3) := by decide +kernel
theorem dX7_see_19 : decode cX7_see 19 = .ok (.ifCond .ne 5, 3) := by decide +kernel
theorem dX7_see_22 : decode cX7_see 22 = .ok (.iconst (-1), 1) := by decide +kernel
theorem dX7_see_23 : decode cX7_see 23 = .ok (.ireturn, 1) := by decide +kernel
theorem dX7_see_24 : decode cX7_see 24 = .ok (.iload_n 3, 1) := by decide +kernel
theorem dX7_see_25 : decode cX7_see 25 = .ok (.ifCond .eq 11, 3) := by decide +kernel
theorem dX7_see_28 : decode cX7_see 28 = .ok (.iload_n 3, 1) := by decide +kernel
theorem dX7_see_29 : decode cX7_see 29 = .ok (.iconst 1, 1) := by decide +kernel
theorem dX7_see_30 : decode cX7_see 30 = .ok (.if_icmp .eq 6, 3) := by decide +kernel
theorem dX7_see_33 : decode cX7_see 33 = .ok (.bipush (-2), 2) := by decide +kernel
theorem dX7_see_35 : decode cX7_see 35 = .ok (.ireturn, 1) := by decide +kernel
theorem dX7_see_36 : decode cX7_see 36 = .ok (.aload_n 0, 1) := by decide +kernel
theorem dX7_see_37 : decode cX7_see 37 = .ok (.getfield 43, 3) := by decide +kernel
theorem dX7_see_40 : decode cX7_see 40 = .ok (.getfield 220, 3) := by decide +kernel
theorem dX7_see_43 : decode cX7_see 43 = .ok (.bipush 6, 2) := by decide +kernel
theorem dX7_see_45 : decode cX7_see 45 = .ok (.if_icmp .lt 6, 3) := by decide +kernel
theorem dX7_see_48 : decode cX7_see 48 = .ok (.bipush (-4), 2) := by decide +kernel
theorem dX7_see_50 : decode cX7_see 50 = .ok (.ireturn, 1) := by decide +kernel
theorem dX7_see_51 : decode cX7_see 51 = .ok (.aload_n 0, 1) := by decide +kernel
theorem dX7_see_52 : decode cX7_see 52 = .ok (.getfield 43, 3) := by decide +kernel
theorem dX7_see_55 : decode cX7_see 55 = .ok (.iload_n 1, 1) := by decide +kernel
theorem dX7_see_56 : decode cX7_see 56 = .ok (.iload_n 2, 1) := by decide +kernel
theorem dX7_see_57 : decode cX7_see 57 = .ok (.iload_n 3, 1) := by decide +kernel
theorem dX7_see_58 : decode cX7_see 58 = .ok (.iconst 1, 1) := by decide +kernel
theorem dX7_see_59 : decode cX7_see 59 = .ok (.if_icmp .ne 7, 3) := by decide +kernel
theorem dX7_see_62 : decode cX7_see 62 = .ok (.iconst 1, 1) := by decide +kernel
theorem dX7_see_63 : decode cX7_see 63 = .ok (.goto 4, 3) := by decide +kernel
theorem dX7_see_66 : decode cX7_see 66 = .ok (.iconst 0, 1) := by decide +kernel
theorem dX7_see_67 : decode cX7_see 67 = .ok (.invokevirtual 223, 3) := by decide +kernel
theorem dX7_see_70 : decode cX7_see 70 = .ok (.aload_n 0, 1) := by decide +kernel
theorem dX7_see_71 : decode cX7_see 71 = .ok (.getfield 43, 3) := by decide +kernel
theorem dX7_see_74 : decode cX7_see 74 = .ok (.getfield 220, 3) := by decide +kernel
theorem dX7_see_77 : decode cX7_see 77 = .ok (.ireturn, 1) := by decide +kernel
theorem dX7_unsee_0 : decode cX7_unsee 0 = .ok (.aload_n 0, 1) := by decide +kernel
theorem dX7_unsee_1 : decode cX7_unsee 1 = .ok (.getfield 43, 3) := by decide +kernel
theorem dX7_unsee_4 : decode cX7_unsee 4 = .ok (.getfield 220, 3) := by decide +kernel
theorem dX7_unsee_7 : decode cX7_unsee 7 = .ok (.istore_n 1, 1) := by decide +kernel
theorem dX7_unsee_8 : decode cX7_unsee 8 = .ok (.aload_n 0, 1) := by decide +kernel
theorem dX7_unsee_9 : decode cX7_unsee 9 = .ok (.getfield 43, 3) := by decide +kernel
theorem dX7_unsee_12 : decode cX7_unsee 12 = .ok (.iconst 0, 1) := by decide +kernel
theorem dX7_unsee_13 : decode cX7_unsee 13 = .ok (.putfield 220, 3) := by decide +kernel
theorem dX7_unsee_16 : decode cX7_unsee 16 = .ok (.iload_n 1, 1) := by decide +kernel
theorem dX7_unsee_17 : decode cX7_unsee 17 = .ok (.ireturn, 1) := by decide +kernel
theorem dX7_which_0 : decode cX7_which 0 = .ok (.iload_n 1, 1) := by decide +kernel
theorem dX7_which_1 : decode cX7_which 1 = .ok (.ifCond .eq 12, 3) := by decide +kernel
theorem dX7_which_4 : decode cX7_which 4 = .ok (.iload_n 1, 1) := by decide +kernel
theorem dX7_which_5 : decode cX7_which 5 = .ok (.iconst 1, 1) := by decide +kernel
theorem dX7_which_6 : decode cX7_which 6 = .ok (.if_icmp .eq 7, 3) := by decide +kernel
theorem dX7_which_9 : decode cX7_which 9 = .ok (.ldc2_w 198, 3) := by decide +kernel
theorem dX7_which_12 : decode cX7_which 12 = .ok (.lreturn, 1) := by decide +kernel
theorem dX7_which_13 : decode cX7_which 13 = .ok (.aload_n 0, 1) := by decide +kernel
theorem dX7_which_14 : decode cX7_which 14 = .ok (.getfield 50, 3) := by decide +kernel
theorem dX7_which_17 : decode cX7_which 17 = .ok (.aload_n 0, 1) := by decide +kernel
theorem dX7_which_18 : decode cX7_which 18 = .ok (.getfield 19, 3) := by decide +kernel
theorem dX7_which_21 : decode cX7_which 21 = .ok (.aload_n 0, 1) := by decide +kernel
theorem dX7_which_22 : decode cX7_which 22 = .ok (.getfield 26, 3) := by decide +kernel
theorem dX7_which_25 : decode cX7_which 25 = .ok (.aload_n 0, 1) := by decide +kernel
theorem dX7_which_26 : decode cX7_which 26 = .ok (.getfield 43, 3) := by decide +kernel
theorem dX7_which_29 : decode cX7_which 29 = .ok (.invokevirtual 226, 3) := by decide +kernel
theorem dX7_which_32 : decode cX7_which 32 = .ok (.lstore_n 2, 1) := by decide +kernel
theorem dX7_which_33 : decode cX7_which 33 = .ok (.iload_n 1, 1) := by decide +kernel
theorem dX7_which_34 : decode cX7_which 34 = .ok (.ifCond .ne 5, 3) := by decide +kernel
theorem dX7_which_37 : decode cX7_which 37 = .ok (.lload_n 2, 1) := by decide +kernel
theorem dX7_which_38 : decode cX7_which 38 = .ok (.lreturn, 1) := by decide +kernel
theorem dX7_which_39 : decode cX7_which 39 = .ok (.lload_n 2, 1) := by decide +kernel
theorem dX7_which_40 : decode cX7_which 40 = .ok (.lconst 0, 1) := by decide +kernel
theorem dX7_which_41 : decode cX7_which 41 = .ok (.lcmp, 1) := by decide +kernel
theorem dX7_which_42 : decode cX7_which 42 = .ok (.ifCond .ne 7, 3) := by decide +kernel
theorem dX7_which_45 : decode cX7_which 45 = .ok (.ldc2_w 230, 3) := by decide +kernel
theorem dX7_which_48 : decode cX7_which 48 = .ok (.lreturn, 1) := by decide +kernel
theorem dX7_which_49 : decode cX7_which 49 = .ok (.aload_n 0, 1) := by decide +kernel
theorem dX7_which_50 : decode cX7_which 50 = .ok (.getfield 57, 3) := by decide +kernel
theorem dX7_which_53 : decode cX7_which 53 = .ok (.aload_n 0, 1) := by decide +kernel
theorem dX7_which_54 : decode cX7_which 54 = .ok (.getfield 50, 3) := by decide +kernel
theorem dX7_which_57 : decode cX7_which 57 = .ok (.aload_n 0, 1) := by decide +kernel
theorem dX7_which_58 : decode cX7_which 58 = .ok (.getfield 26, 3) := by decide +kernel
theorem dX7_which_61 : decode cX7_which 61 = .ok (.getfield 119, 3) := by decide +kernel
theorem dX7_which_64 : decode cX7_which 64 = .ok (.invokevirtual 178, 3) := by decide +kernel
theorem dX7_which_67 : decode cX7_which 67 = .ok (.aload_n 0, 1) := by decide +kernel
theorem dX7_which_68 : decode cX7_which 68 = .ok (.getfield 57, 3) := by decide +kernel
theorem dX7_which_71 : decode cX7_which 71 = .ok (.aload_n 0, 1) := by decide +kernel
theorem dX7_which_72 : decode cX7_which 72 = .ok (.getfield 50, 3) := by decide +kernel
theorem dX7_which_75 : decode cX7_which 75 = .ok (.lconst 0, 1) := by decide +kernel
theorem dX7_which_76 : decode cX7_which 76 = .ok (.invokevirtual 182, 3) := by decide +kernel
theorem dX7_which_79 : decode cX7_which 79 = .ok (.aload_n 0, 1) := by decide +kernel
theorem dX7_which_80 : decode cX7_which 80 = .ok (.getfield 50, 3) := by decide +kernel
theorem dX7_which_83 : decode cX7_which 83 = .ok (.aload_n 0, 1) := by decide +kernel
theorem dX7_which_84 : decode cX7_which 84 = .ok (.getfield 19, 3) := by decide +kernel
theorem dX7_which_87 : decode cX7_which 87 = .ok (.aload_n 0, 1) := by decide +kernel
theorem dX7_which_88 : decode cX7_which 88 = .ok (.getfield 26, 3) := by decide +kernel
theorem dX7_which_91 : decode cX7_which 91 = .ok (.invokevirtual 174, 3) := by decide +kernel
theorem dX7_which_94 : decode cX7_which 94 = .ok (.pop2, 1) := by decide +kernel
theorem dX7_which_95 : decode cX7_which 95 = .ok (.aload_n 0, 1) := by decide +kernel
theorem dX7_which_96 : decode cX7_which 96 = .ok (.getfield 57, 3) := by decide +kernel
theorem dX7_which_99 : decode cX7_which 99 = .ok (.aload_n 0, 1) := by decide +kernel
theorem dX7_which_100 : decode cX7_which 100 = .ok (.getfield 50, 3) := by decide +kernel
theorem dX7_which_103 : decode cX7_which 103 = .ok (.aload_n 0, 1) := by decide +kernel
theorem dX7_which_104 : decode cX7_which 104 = .ok (.getfield 26, 3) := by decide +kernel
theorem dX7_which_107 : decode cX7_which 107 = .ok (.getfield 119, 3) := by decide +kernel
theorem dX7_which_110 : decode cX7_which 110 = .ok (.invokevirtual 178, 3) := by decide +kernel
theorem dX7_which_113 : decode cX7_which 113 = .ok (.aload_n 0, 1) := by decide +kernel
theorem dX7_which_114 : decode cX7_which 114 = .ok (.getfield 57, 3) := by decide +kernel
theorem dX7_which_117 : decode cX7_which 117 = .ok (.aload_n 0, 1) := by decide +kernel
theorem dX7_which_118 : decode cX7_which 118 = .ok (.getfield 50, 3) := by decide +kernel
theorem dX7_which_121 : decode cX7_which 121 = .ok (.invokevirtual 232, 3) := by decide +kernel
theorem dX7_which_124 : decode cX7_which 124 = .ok (.lreturn, 1) := by decide +kernel
theorem dX7_share_0 : decode cX7_share 0 = .ok (.aload_n 0, 1) := by decide +kernel
theorem dX7_share_1 : decode cX7_share 1 = .ok (.getfield 19, 3) := by decide +kernel
theorem dX7_share_4 : decode cX7_share 4 = .ok (.iload_n 1, 1) := by decide +kernel
theorem dX7_share_5 : decode cX7_share 5 = .ok (.invokevirtual 105, 3) := by decide +kernel
theorem dX7_share_8 : decode cX7_share 8 = .ok (.ifCond .ne 7, 3) := by decide +kernel
theorem dX7_share_11 : decode cX7_share 11 = .ok (.ldc2_w 193, 3) := by decide +kernel
theorem dX7_share_14 : decode cX7_share 14 = .ok (.lreturn, 1) := by decide +kernel
theorem dX7_share_15 : decode cX7_share 15 = .ok (.aload_n 0, 1) := by decide +kernel
theorem dX7_share_16 : decode cX7_share 16 = .ok (.getfield 50, 3) := by decide +kernel
theorem dX7_share_19 : decode cX7_share 19 = .ok (.aload_n 0, 1) := by decide +kernel
theorem dX7_share_20 : decode cX7_share 20 = .ok (.getfield 19, 3) := by decide +kernel
theorem dX7_share_23 : decode cX7_share 23 = .ok (.aload_n 0, 1) := by decide +kernel
theorem dX7_share_24 : decode cX7_share 24 = .ok (.getfield 26, 3) := by decide +kernel
theorem dX7_share_27 : decode cX7_share 27 = .ok (.invokevirtual 174, 3) := by decide +kernel
theorem dX7_share_30 : decode cX7_share 30 = .ok (.pop2, 1) := by decide +kernel
theorem dX7_share_31 : decode cX7_share 31 = .ok (.iconst 1, 1) := by decide +kernel
theorem dX7_share_32 : decode cX7_share 32 = .ok (.iload_n 1, 1) := by decide +kernel
theorem dX7_share_33 : decode cX7_share 33 = .ok (.ishl, 1) := by decide +kernel
theorem dX7_share_34 : decode cX7_share 34 = .ok (.istore_n 3, 1) := by decide +kernel
theorem dX7_share_35 : decode cX7_share 35 = .ok (.aload_n 0, 1) := by decide +kernel
theorem dX7_share_36 : decode cX7_share 36 = .ok (.getfield 50, 3) := by decide +kernel
theorem dX7_share_39 : decode cX7_share 39 = .ok (.getfield 236, 3) := by decide +kernel
theorem dX7_share_42 : decode cX7_share 42 = .ok (.istore 4, 2) := by decide +kernel
theorem dX7_share_44 : decode cX7_share 44 = .ok (.iload 4, 2) := by decide +kernel
theorem dX7_share_46 : decode cX7_share 46 = .ok (.iload_n 3, 1) := by decide +kernel
theorem dX7_share_47 : decode cX7_share 47 = .ok (.iand, 1) := by decide +kernel
theorem dX7_share_48 : decode cX7_share 48 = .ok (.ifCond .ne 10, 3) := by decide +kernel
theorem dX7_share_51 : decode cX7_share 51 = .ok (.lconst 0, 1) := by decide +kernel
theorem dX7_share_52 : decode cX7_share 52 = .ok (.lconst 1, 1) := by decide +kernel
theorem dX7_share_53 : decode cX7_share 53 = .ok (.iload_n 2, 1) := by decide +kernel
theorem dX7_share_54 : decode cX7_share 54 = .ok (.invokestatic 239, 3) := by decide +kernel
theorem dX7_share_57 : decode cX7_share 57 = .ok (.lreturn, 1) := by decide +kernel
theorem dX7_share_58 : decode cX7_share 58 = .ok (.iload 4, 2) := by decide +kernel
theorem dX7_share_60 : decode cX7_share 60 = .ok (.invokestatic 243, 3) := by decide +kernel
theorem dX7_share_63 : decode cX7_share 63 = .ok (.istore 5, 2) := by decide +kernel
theorem dX7_share_65 : decode cX7_share 65 = .ok (.lconst 0, 1) := by decide +kernel
theorem dX7_share_66 : decode cX7_share 66 = .ok (.lstore 6, 2) := by decide +kernel
theorem dX7_share_68 : decode cX7_share 68 = .ok (.iconst 0, 1) := by decide +kernel
theorem dX7_share_69 : decode cX7_share 69 = .ok (.istore 8, 2) := by decide +kernel
theorem dX7_share_71 : decode cX7_share 71 = .ok (.iload 8, 2) := by decide +kernel
theorem dX7_share_73 : decode cX7_share 73 = .ok (.iload 4, 2) := by decide +kernel
theorem dX7_share_75 : decode cX7_share 75 = .ok (.if_icmp .gt 80, 3) := by decide +kernel
theorem dX7_share_78 : decode cX7_share 78 = .ok (.iload 8, 2) := by decide +kernel
theorem dX7_share_80 : decode cX7_share 80 = .ok (.iload 4, 2) := by decide +kernel
theorem dX7_share_82 : decode cX7_share 82 = .ok (.iconst (-1), 1) := by decide +kernel
theorem dX7_share_83 : decode cX7_share 83 = .ok (.ixor, 1) := by decide +kernel
theorem dX7_share_84 : decode cX7_share 84 = .ok (.iand, 1) := by decide +kernel
theorem dX7_share_85 : decode cX7_share 85 = .ok (.ifCond .ne 64, 3) := by decide +kernel
theorem dX7_share_88 : decode cX7_share 88 = .ok (.iload 8, 2) := by decide +kernel
theorem dX7_share_90 : decode cX7_share 90 = .ok (.iload_n 3, 1) := by decide +kernel
theorem dX7_share_91 : decode cX7_share 91 = .ok (.iand, 1) := by decide +kernel
theorem dX7_share_92 : decode cX7_share 92 = .ok (.ifCond .ne 57, 3) := by decide +kernel
theorem dX7_share_95 : decode cX7_share 95 = .ok (.iload 8, 2) := by decide +kernel
theorem dX7_share_97 : decode cX7_share 97 = .ok (.invokestatic 243, 3) := by decide +kernel
theorem dX7_share_100 : decode cX7_share 100 = .ok (.istore 9, 2) := by decide +kernel
theorem dX7_share_102 : decode cX7_share 102 = .ok (.iload 9, 2) := by decide +kernel
theorem dX7_share_104 : decode cX7_share 104 = .ok (.invokestatic 249, 3) := by decide +kernel
theorem dX7_share_107 : decode cX7_share 107 = .ok (.iload 5, 2) := by decide +kernel
theorem dX7_share_109 : decode cX7_share 109 = .ok (.iconst 1, 1) := by decide +kernel
theorem dX7_share_110 : decode cX7_share 110 = .ok (.isub, 1) := by decide +kernel
theorem dX7_share_111 : decode cX7_share 111 = .ok (.iload 9, 2) := by decide +kernel
theorem dX7_share_113 : decode cX7_share 113 = .ok (.isub, 1) := by decide +kernel
theorem dX7_share_114 : decode cX7_share 114 = .ok (.invokestatic 249, 3) := by decide +kernel
theorem dX7_share_117 : decode cX7_share 117 = .ok (.lmul, 1) := by decide +kernel
theorem dX7_share_118 : decode cX7_share 118 = .ok (.lstore 10, 2) := by decide +kernel
theorem dX7_share_120 : decode cX7_share 120 = .ok (.lload 6, 2) := by decide +kernel
theorem dX7_share_122 : decode cX7_share 122 = .ok (.lload 10, 2) := by decide +kernel
theorem dX7_share_124 : decode cX7_share 124 = .ok (.aload_n 0, 1) := by decide +kernel
theorem dX7_share_125 : decode cX7_share 125 = .ok (.getfield 50, 3) := by decide +kernel
theorem dX7_share_128 : decode cX7_share 128 = .ok (.iload 8, 2) := by decide +kernel
theorem dX7_share_130 : decode cX7_share 130 = .ok (.iload_n 3, 1) := by decide +kernel
theorem dX7_share_131 : decode cX7_share 131 = .ok (.ior, 1) := by decide +kernel
theorem dX7_share_132 : decode cX7_share 132 = .ok (.invokevirtual 253, 3) := by decide +kernel
theorem dX7_share_135 : decode cX7_share 135 = .ok (.aload_n 0, 1) := by decide +kernel
theorem dX7_share_136 : decode cX7_share 136 = .ok (.getfield 50, 3) := by decide +kernel
theorem dX7_share_139 : decode cX7_share 139 = .ok (.iload 8, 2) := by decide +kernel
theorem dX7_share_141 : decode cX7_share 141 = .ok (.invokevirtual 253, 3) := by decide +kernel
theorem dX7_share_144 : decode cX7_share 144 = .ok (.lsub, 1) := by decide +kernel
theorem dX7_share_145 : decode cX7_share 145 = .ok (.lmul, 1) := by decide +kernel
theorem dX7_share_146 : decode cX7_share 146 = .ok (.ladd, 1) := by decide +kernel
theorem dX7_share_147 : decode cX7_share 147 = .ok (.lstore 6, 2) := by decide +kernel
theorem dX7_share_149 : decode cX7_share 149 = .ok (.iinc 8 1, 3) := by decide +kernel
theorem dX7_share_152 : decode cX7_share 152 = .ok (.goto (-81), 3) := by decide +kernel
theorem dX7_share_155 : decode cX7_share 155 = .ok (.lload 6, 2) := by decide +kernel
theorem dX7_share_157 : decode cX7_share 157 = .ok (.iload 5, 2) := by decide +kernel
theorem dX7_share_159 : decode cX7_share 159 = .ok (.invokestatic 249, 3) := by decide +kernel
theorem dX7_share_162 : decode cX7_share 162 = .ok (.iload_n 2, 1) := by decide +kernel
theorem dX7_share_163 : decode cX7_share 163 = .ok (.invokestatic 239, 3) := by decide +kernel
theorem dX7_share_166 : decode cX7_share 166 = .ok (.lreturn, 1) := by decide +kernel
theorem dX7_lost_0 : decode cX7_lost 0 = .ok (.iload_n 1, 1) := by decide +kernel
theorem dX7_lost_1 : decode cX7_lost 1 = .ok (.ifCond .lt 9, 3) := by decide +kernel
theorem dX7_lost_4 : decode cX7_lost 4 = .ok (.iload_n 1, 1) := by decide +kernel
theorem dX7_lost_5 : decode cX7_lost 5 = .ok (.bipush 10, 2) := by decide +kernel
theorem dX7_lost_7 : decode cX7_lost 7 = .ok (.if_icmp .le 6, 3) := by decide +kernel
theorem dX7_lost_10 : decode cX7_lost 10 = .ok (.bipush (-2), 2) := by decide +kernel
theorem dX7_lost_12 : decode cX7_lost 12 = .ok (.ireturn, 1) := by decide +kernel
theorem dX7_lost_13 : decode cX7_lost 13 = .ok (.aload_n 0, 1) := by decide +kernel
theorem dX7_lost_14 : decode cX7_lost 14 = .ok (.getfield 50, 3) := by decide +kernel
theorem dX7_lost_17 : decode cX7_lost 17 = .ok (.aload_n 0, 1) := by decide +kernel
theorem dX7_lost_18 : decode cX7_lost 18 = .ok (.getfield 19, 3) := by decide +kernel
theorem dX7_lost_21 : decode cX7_lost 21 = .ok (.aload_n 0, 1) := by decide +kernel
theorem dX7_lost_22 : decode cX7_lost 22 = .ok (.getfield 26, 3) := by decide +kernel
theorem dX7_lost_25 : decode cX7_lost 25 = .ok (.invokevirtual 174, 3) := by decide +kernel
theorem dX7_lost_28 : decode cX7_lost 28 = .ok (.pop2, 1) := by decide +kernel
theorem dX7_lost_29 : decode cX7_lost 29 = .ok (.aload_n 0, 1) := by decide +kernel
theorem dX7_lost_30 : decode cX7_lost 30 = .ok (.getfield 50, 3) := by decide +kernel
theorem dX7_lost_33 : decode cX7_lost 33 = .ok (.getfield 236, 3) := by decide +kernel
theorem dX7_lost_36 : decode cX7_lost 36 = .ok (.istore_n 3, 1) := by decide +kernel
theorem dX7_lost_37 : decode cX7_lost 37 = .ok (.iload_n 3, 1) := by decide +kernel
theorem dX7_lost_38 : decode cX7_lost 38 = .ok (.invokestatic 243, 3) := by decide +kernel
theorem dX7_lost_41 : decode cX7_lost 41 = .ok (.istore 4, 2) := by decide +kernel
theorem dX7_lost_43 : decode cX7_lost 43 = .ok (.lconst 0, 1) := by decide +kernel
theorem dX7_lost_44 : decode cX7_lost 44 = .ok (.lstore 5, 2) := by decide +kernel
theorem dX7_lost_46 : decode cX7_lost 46 = .ok (.iconst 0, 1) := by decide +kernel
theorem dX7_lost_47 : decode cX7_lost 47 = .ok (.istore 7, 2) := by decide +kernel
theorem dX7_lost_49 : decode cX7_lost 49 = .ok (.iload 7, 2) := by decide +kernel
theorem dX7_lost_51 : decode cX7_lost 51 = .ok (.iload_n 3, 1) := by decide +kernel
theorem dX7_lost_52 : decode cX7_lost 52 = .ok (.if_icmp .gt 63, 3) := by decide +kernel
theorem dX7_lost_55 : decode cX7_lost 55 = .ok (.iload 7, 2) := by decide +kernel
theorem dX7_lost_57 : decode cX7_lost 57 = .ok (.iload_n 3, 1) := by decide +kernel
theorem dX7_lost_58 : decode cX7_lost 58 = .ok (.iconst (-1), 1) := by decide +kernel
theorem dX7_lost_59 : decode cX7_lost 59 = .ok (.ixor, 1) := by decide +kernel
theorem dX7_lost_60 : decode cX7_lost 60 = .ok (.iand, 1) := by decide +kernel
theorem dX7_lost_61 : decode cX7_lost 61 = .ok (.ifCond .ne 48, 3) := by decide +kernel
theorem dX7_lost_64 : decode cX7_lost 64 = .ok (.aload_n 0, 1) := by decide +kernel
theorem dX7_lost_65 : decode cX7_lost 65 = .ok (.getfield 50, 3) := by decide +kernel
theorem dX7_lost_68 : decode cX7_lost 68 = .ok (.iload 7, 2) := by decide +kernel
theorem dX7_lost_70 : decode cX7_lost 70 = .ok (.invokevirtual 253, 3) := by decide +kernel
theorem dX7_lost_73 : decode cX7_lost 73 = .ok (.lconst 0, 1) := by decide +kernel
theorem dX7_lost_74 : decode cX7_lost 74 = .ok (.lcmp, 1) := by decide +kernel
theorem dX7_lost_75 : decode cX7_lost 75 = .ok (.ifCond .le 34, 3) := by decide +kernel
theorem dX7_lost_78 : decode cX7_lost 78 = .ok (.iload 7, 2) := by decide +kernel
theorem dX7_lost_80 : decode cX7_lost 80 = .ok (.invokestatic 243, 3) := by decide +kernel
theorem dX7_lost_83 : decode cX7_lost 83 = .ok (.istore 8, 2) := by decide +kernel
theorem dX7_lost_85 : decode cX7_lost 85 = .ok (.lload 5, 2) := by decide +kernel
theorem dX7_lost_87 : decode cX7_lost 87 = .ok (.bipush 10, 2) := by decide +kernel
theorem dX7_lost_89 : decode cX7_lost 89 = .ok (.iload_n 1, 1) := by decide +kernel
theorem dX7_lost_90 : decode cX7_lost 90 = .ok (.isub, 1) := by decide +kernel
theorem dX7_lost_91 : decode cX7_lost 91 = .ok (.iload 8, 2) := by decide +kernel
theorem dX7_lost_93 : decode cX7_lost 93 = .ok (.invokestatic 256, 3) := by decide +kernel
theorem dX7_lost_96 : decode cX7_lost 96 = .ok (.iload_n 1, 1) := by decide +kernel
theorem dX7_lost_97 : decode cX7_lost 97 = .ok (.iload 4, 2) := by decide +kernel
theorem dX7_lost_99 : decode cX7_lost 99 = .ok (.iload 8, 2) := by decide +kernel
theorem dX7_lost_101 : decode cX7_lost 101 = .ok (.isub, 1) := by decide +kernel
theorem dX7_lost_102 : decode cX7_lost 102 = .ok (.invokestatic 256, 3) := by decide +kernel
theorem dX7_lost_105 : decode cX7_lost 105 = .ok (.lmul, 1) := by decide +kernel
theorem dX7_lost_106 : decode cX7_lost 106 = .ok (.ladd, 1) := by decide +kernel
theorem dX7_lost_107 : decode cX7_lost 107 = .ok (.lstore 5, 2) := by decide +kernel
theorem dX7_lost_109 : decode cX7_lost 109 = .ok (.iinc 7 1, 3) := by decide +kernel
theorem dX7_lost_112 : decode cX7_lost 112 = .ok (.goto (-63), 3) := by decide +kernel
theorem dX7_lost_115 : decode cX7_lost 115 = .ok (.lload 5, 2) := by decide +kernel
theorem dX7_lost_117 : decode cX7_lost 117 = .ok (.bipush 10, 2) := by decide +kernel
theorem dX7_lost_119 : decode cX7_lost 119 = .ok (.iload 4, 2) := by decide +kernel
theorem dX7_lost_121 : decode cX7_lost 121 = .ok (.invokestatic 256, 3) := by decide +kernel
theorem dX7_lost_124 : decode cX7_lost 124 = .ok (.iload_n 2, 1) := by decide +kernel
theorem dX7_lost_125 : decode cX7_lost 125 = .ok (.invokestatic 239, 3) := by decide +kernel
theorem dX7_lost_128 : decode cX7_lost 128 = .ok (.l2i, 1) := by decide +kernel
theorem dX7_lost_129 : decode cX7_lost 129 = .ok (.ireturn, 1) := by decide +kernel
theorem dX7_seed_0 : decode cX7_seed 0 = .ok (.aload_n 0, 1) := by decide +kernel
theorem dX7_seed_1 : decode cX7_seed 1 = .ok (.getfield 74, 3) := by decide +kernel
theorem dX7_seed_4 : decode cX7_seed 4 = .ok (.lstore_n 3, 1) := by decide +kernel
theorem dX7_seed_5 : decode cX7_seed 5 = .ok (.aload_n 0, 1) := by decide +kernel
theorem dX7_seed_6 : decode cX7_seed 6 = .ok (.lload_n 1, 1) := by decide +kernel
theorem dX7_seed_7 : decode cX7_seed 7 = .ok (.putfield 74, 3) := by decide +kernel
theorem dX7_seed_10 : decode cX7_seed 10 = .ok (.lload_n 3, 1) := by decide +kernel
theorem dX7_seed_11 : decode cX7_seed 11 = .ok (.lreturn, 1) := by decide +kernel
theorem dX7_drawn_0 : decode cX7_drawn 0 = .ok (.iload_n 1, 1) := by decide +kernel
theorem dX7_drawn_1 : decode cX7_drawn 1 = .ok (.iconst 1, 1) := by decide +kernel
theorem dX7_drawn_2 : decode cX7_drawn 2 = .ok (.if_icmp .lt 9, 3) := by decide +kernel
theorem dX7_drawn_5 : decode cX7_drawn 5 = .ok (.iload_n 1, 1) := by decide +kernel
theorem dX7_drawn_6 : decode cX7_drawn 6 = .ok (.bipush 20, 2) := by decide +kernel
theorem dX7_drawn_8 : decode cX7_drawn 8 = .ok (.if_icmp .le 6, 3) := by decide +kernel
theorem dX7_drawn_11 : decode cX7_drawn 11 = .ok (.bipush (-2), 2) := by decide +kernel
theorem dX7_drawn_13 : decode cX7_drawn 13 = .ok (.ireturn, 1) := by decide +kernel
theorem dX7_drawn_14 : decode cX7_drawn 14 = .ok (.aload_n 0, 1) := by decide +kernel
theorem dX7_drawn_15 : decode cX7_drawn 15 = .ok (.getfield 50, 3) := by decide +kernel
theorem dX7_drawn_18 : decode cX7_drawn 18 = .ok (.aload_n 0, 1) := by decide +kernel
theorem dX7_drawn_19 : decode cX7_drawn 19 = .ok (.getfield 19, 3) := by decide +kernel
theorem dX7_drawn_22 : decode cX7_drawn 22 = .ok (.aload_n 0, 1) := by decide +kernel
theorem dX7_drawn_23 : decode cX7_drawn 23 = .ok (.getfield 26, 3) := by decide +kernel
theorem dX7_drawn_26 : decode cX7_drawn 26 = .ok (.invokevirtual 174, 3) := by decide +kernel
theorem dX7_drawn_29 : decode cX7_drawn 29 = .ok (.lstore_n 2, 1) := by decide +kernel
theorem dX7_drawn_30 : decode cX7_drawn 30 = .ok (.lload_n 2, 1) := by decide +kernel
theorem dX7_drawn_31 : decode cX7_drawn 31 = .ok (.lconst 0, 1) := by decide +kernel
theorem dX7_drawn_32 : decode cX7_drawn 32 = .ok (.lcmp, 1) := by decide +kernel
theorem dX7_drawn_33 : decode cX7_drawn 33 = .ok (.ifCond .le 21, 3) := by decide +kernel
theorem dX7_drawn_36 : decode cX7_drawn 36 = .ok (.aload_n 0, 1) := by decide +kernel
theorem dX7_drawn_37 : decode cX7_drawn 37 = .ok (.getfield 57, 3) := by decide +kernel
theorem dX7_drawn_40 : decode cX7_drawn 40 = .ok (.aload_n 0, 1) := by decide +kernel
theorem dX7_drawn_41 : decode cX7_drawn 41 = .ok (.getfield 50, 3) := by decide +kernel
theorem dX7_drawn_44 : decode cX7_drawn 44 = .ok (.aload_n 0, 1) := by decide +kernel
theorem dX7_drawn_45 : decode cX7_drawn 45 = .ok (.getfield 26, 3) := by decide +kernel
theorem dX7_drawn_48 : decode cX7_drawn 48 = .ok (.getfield 119, 3) := by decide +kernel
theorem dX7_drawn_51 : decode cX7_drawn 51 = .ok (.invokevirtual 178, 3) := by decide +kernel
theorem dX7_drawn_54 : decode cX7_drawn 54 = .ok (.iconst 0, 1) := by decide +kernel
theorem dX7_drawn_55 : decode cX7_drawn 55 = .ok (.istore 4, 2) := by decide +kernel
theorem dX7_drawn_57 : decode cX7_drawn 57 = .ok (.iconst 0, 1) := by decide +kernel
theorem dX7_drawn_58 : decode cX7_drawn 58 = .ok (.istore 5, 2) := by decide +kernel
theorem dX7_drawn_60 : decode cX7_drawn 60 = .ok (.iload 5, 2) := by decide +kernel
theorem dX7_drawn_62 : decode cX7_drawn 62 = .ok (.iload_n 1, 1) := by decide +kernel
theorem dX7_drawn_63 : decode cX7_drawn 63 = .ok (.if_icmp .ge 63, 3) := by decide +kernel
theorem dX7_drawn_66 : decode cX7_drawn 66 = .ok (.aload_n 0, 1) := by decide +kernel
theorem dX7_drawn_67 : decode cX7_drawn 67 = .ok (.aload_n 0, 1) := by decide +kernel
theorem dX7_drawn_68 : decode cX7_drawn 68 = .ok (.getfield 74, 3) := by decide +kernel
theorem dX7_drawn_71 : decode cX7_drawn 71 = .ok (.ldc2_w 259, 3) := by decide +kernel
theorem dX7_drawn_74 : decode cX7_drawn 74 = .ok (.lmul, 1) := by decide +kernel
theorem dX7_drawn_75 : decode cX7_drawn 75 = .ok (.ldc2_w 261, 3) := by decide +kernel
theorem dX7_drawn_78 : decode cX7_drawn 78 = .ok (.ladd, 1) := by decide +kernel
theorem dX7_drawn_79 : decode cX7_drawn 79 = .ok (.putfield 74, 3) := by decide +kernel
theorem dX7_drawn_82 : decode cX7_drawn 82 = .ok (.lload_n 2, 1) := by decide +kernel
theorem dX7_drawn_83 : decode cX7_drawn 83 = .ok (.lconst 0, 1) := by decide +kernel
theorem dX7_drawn_84 : decode cX7_drawn 84 = .ok (.lcmp, 1) := by decide +kernel
theorem dX7_drawn_85 : decode cX7_drawn 85 = .ok (.ifCond .le 35, 3) := by decide +kernel
theorem dX7_drawn_88 : decode cX7_drawn 88 = .ok (.aload_n 0, 1) := by decide +kernel
theorem dX7_drawn_89 : decode cX7_drawn 89 = .ok (.getfield 57, 3) := by decide +kernel
theorem dX7_drawn_92 : decode cX7_drawn 92 = .ok (.aload_n 0, 1) := by decide +kernel
theorem dX7_drawn_93 : decode cX7_drawn 93 = .ok (.getfield 50, 3) := by decide +kernel
theorem dX7_drawn_96 : decode cX7_drawn 96 = .ok (.aload_n 0, 1) := by decide +kernel
theorem dX7_drawn_97 : decode cX7_drawn 97 = .ok (.getfield 74, 3) := by decide +kernel
theorem dX7_drawn_100 : decode cX7_drawn 100 = .ok (.bipush 33, 2) := by decide +kernel
theorem dX7_drawn_102 : decode cX7_drawn 102 = .ok (.lushr, 1) := by decide +kernel
theorem dX7_drawn_103 : decode cX7_drawn 103 = .ok (.lload_n 2, 1) := by decide +kernel
theorem dX7_drawn_104 : decode cX7_drawn 104 = .ok (.lrem, 1) := by decide +kernel
theorem dX7_drawn_105 : decode cX7_drawn 105 = .ok (.invokevirtual 182, 3) := by decide +kernel
theorem dX7_drawn_108 : decode cX7_drawn 108 = .ok (.iload 4, 2) := by decide +kernel
theorem dX7_drawn_110 : decode cX7_drawn 110 = .ok (.aload_n 0, 1) := by decide +kernel
theorem dX7_drawn_111 : decode cX7_drawn 111 = .ok (.getfield 57, 3) := by decide +kernel
theorem dX7_drawn_114 : decode cX7_drawn 114 = .ok (.getfield 186, 3) := by decide +kernel
theorem dX7_drawn_117 : decode cX7_drawn 117 = .ok (.iadd, 1) := by decide +kernel
theorem dX7_drawn_118 : decode cX7_drawn 118 = .ok (.istore 4, 2) := by decide +kernel
theorem dX7_drawn_120 : decode cX7_drawn 120 = .ok (.iinc 5 1, 3) := by decide +kernel
theorem dX7_drawn_123 : decode cX7_drawn 123 = .ok (.goto (-63), 3) := by decide +kernel
theorem dX7_drawn_126 : decode cX7_drawn 126 = .ok (.iload 4, 2) := by decide +kernel
theorem dX7_drawn_128 : decode cX7_drawn 128 = .ok (.ireturn, 1) := by decide +kernel
theorem dX7_keep_0 : decode cX7_keep 0 = .ok (.iload_n 1, 1) := by decide +kernel
theorem dX7_keep_1 : decode cX7_keep 1 = .ok (.ifCond .lt 8, 3) := by decide +kernel
theorem dX7_keep_4 : decode cX7_keep 4 = .ok (.iload_n 1, 1) := by decide +kernel
theorem dX7_keep_5 : decode cX7_keep 5 = .ok (.iconst 2, 1) := by decide +kernel
theorem dX7_keep_6 : decode cX7_keep 6 = .ok (.if_icmp .lt 5, 3) := by decide +kernel
theorem dX7_keep_9 : decode cX7_keep 9 = .ok (.iconst (-1), 1) := by decide +kernel
theorem dX7_keep_10 : decode cX7_keep 10 = .ok (.ireturn, 1) := by decide +kernel
theorem dX7_keep_11 : decode cX7_keep 11 = .ok (.iload_n 1, 1) := by decide +kernel
theorem dX7_keep_12 : decode cX7_keep 12 = .ok (.ifCond .ne 22, 3) := by decide +kernel
theorem dX7_keep_15 : decode cX7_keep 15 = .ok (.aload_n 0, 1) := by decide +kernel
theorem dX7_keep_16 : decode cX7_keep 16 = .ok (.getfield 61, 3) := by decide +kernel
theorem dX7_keep_19 : decode cX7_keep 19 = .ok (.aload_n 0, 1) := by decide +kernel
theorem dX7_keep_20 : decode cX7_keep 20 = .ok (.getfield 26, 3) := by decide +kernel
theorem dX7_keep_23 : decode cX7_keep 23 = .ok (.invokevirtual 96, 3) := by decide +kernel
theorem dX7_keep_26 : decode cX7_keep 26 = .ok (.aload_n 0, 1) := by decide +kernel
theorem dX7_keep_27 : decode cX7_keep 27 = .ok (.iconst 1, 1) := by decide +kernel
theorem dX7_keep_28 : decode cX7_keep 28 = .ok (.putfield 67, 3) := by decide +kernel
theorem dX7_keep_31 : decode cX7_keep 31 = .ok (.goto 19, 3) := by decide +kernel
theorem dX7_keep_34 : decode cX7_keep 34 = .ok (.aload_n 0, 1) := by decide +kernel
theorem dX7_keep_35 : decode cX7_keep 35 = .ok (.getfield 64, 3) := by decide +kernel
theorem dX7_keep_38 : decode cX7_keep 38 = .ok (.aload_n 0, 1) := by decide +kernel
theorem dX7_keep_39 : decode cX7_keep 39 = .ok (.getfield 26, 3) := by decide +kernel
theorem dX7_keep_42 : decode cX7_keep 42 = .ok (.invokevirtual 96, 3) := by decide +kernel
theorem dX7_keep_45 : decode cX7_keep 45 = .ok (.aload_n 0, 1) := by decide +kernel
theorem dX7_keep_46 : decode cX7_keep 46 = .ok (.iconst 1, 1) := by decide +kernel
theorem dX7_keep_47 : decode cX7_keep 47 = .ok (.putfield 71, 3) := by decide +kernel
theorem dX7_keep_50 : decode cX7_keep 50 = .ok (.aload_n 0, 1) := by decide +kernel
theorem dX7_keep_51 : decode cX7_keep 51 = .ok (.getfield 19, 3) := by decide +kernel
theorem dX7_keep_54 : decode cX7_keep 54 = .ok (.getfield 263, 3) := by decide +kernel
theorem dX7_keep_57 : decode cX7_keep 57 = .ok (.ireturn, 1) := by decide +kernel
theorem dX7_again_0 : decode cX7_again 0 = .ok (.iload_n 1, 1) := by decide +kernel
theorem dX7_again_1 : decode cX7_again 1 = .ok (.ifCond .lt 8, 3) := by decide +kernel
theorem dX7_again_4 : decode cX7_again 4 = .ok (.iload_n 1, 1) := by decide +kernel
theorem dX7_again_5 : decode cX7_again 5 = .ok (.iconst 2, 1) := by decide +kernel
theorem dX7_again_6 : decode cX7_again 6 = .ok (.if_icmp .lt 5, 3) := by decide +kernel
theorem dX7_again_9 : decode cX7_again 9 = .ok (.iconst (-1), 1) := by decide +kernel
theorem dX7_again_10 : decode cX7_again 10 = .ok (.ireturn, 1) := by decide +kernel
theorem dX7_again_11 : decode cX7_again 11 = .ok (.iload_n 1, 1) := by decide +kernel
theorem dX7_again_12 : decode cX7_again 12 = .ok (.ifCond .ne 10, 3) := by decide +kernel
theorem dX7_again_15 : decode cX7_again 15 = .ok (.aload_n 0, 1) := by decide +kernel
theorem dX7_again_16 : decode cX7_again 16 = .ok (.getfield 67, 3) := by decide +kernel
theorem dX7_again_19 : decode cX7_again 19 = .ok (.goto 7, 3) := by decide +kernel
theorem dX7_again_22 : decode cX7_again 22 = .ok (.aload_n 0, 1) := by decide +kernel
theorem dX7_again_23 : decode cX7_again 23 = .ok (.getfield 71, 3) := by decide +kernel
theorem dX7_again_26 : decode cX7_again 26 = .ok (.istore_n 2, 1) := by decide +kernel
theorem dX7_again_27 : decode cX7_again 27 = .ok (.iload_n 2, 1) := by decide +kernel
theorem dX7_again_28 : decode cX7_again 28 = .ok (.ifCond .ne 6, 3) := by decide +kernel
theorem dX7_again_31 : decode cX7_again 31 = .ok (.bipush (-3), 2) := by decide +kernel
theorem dX7_again_33 : decode cX7_again 33 = .ok (.ireturn, 1) := by decide +kernel
theorem dX7_again_34 : decode cX7_again 34 = .ok (.aload_n 0, 1) := by decide +kernel
theorem dX7_again_35 : decode cX7_again 35 = .ok (.getfield 26, 3) := by decide +kernel
theorem dX7_again_38 : decode cX7_again 38 = .ok (.iload_n 1, 1) := by decide +kernel
theorem dX7_again_39 : decode cX7_again 39 = .ok (.ifCond .ne 10, 3) := by decide +kernel
theorem dX7_again_42 : decode cX7_again 42 = .ok (.aload_n 0, 1) := by decide +kernel
theorem dX7_again_43 : decode cX7_again 43 = .ok (.getfield 61, 3) := by decide +kernel
theorem dX7_again_46 : decode cX7_again 46 = .ok (.goto 7, 3) := by decide +kernel
theorem dX7_again_49 : decode cX7_again 49 = .ok (.aload_n 0, 1) := by decide +kernel
theorem dX7_again_50 : decode cX7_again 50 = .ok (.getfield 64, 3) := by decide +kernel
theorem dX7_again_53 : decode cX7_again 53 = .ok (.invokevirtual 96, 3) := by decide +kernel
theorem dX7_again_56 : decode cX7_again 56 = .ok (.aload_n 0, 1) := by decide +kernel
theorem dX7_again_57 : decode cX7_again 57 = .ok (.getfield 36, 3) := by decide +kernel
theorem dX7_again_60 : decode cX7_again 60 = .ok (.invokevirtual 99, 3) := by decide +kernel
theorem dX7_again_63 : decode cX7_again 63 = .ok (.aload_n 0, 1) := by decide +kernel
theorem dX7_again_64 : decode cX7_again 64 = .ok (.getfield 19, 3) := by decide +kernel
theorem dX7_again_67 : decode cX7_again 67 = .ok (.getfield 263, 3) := by decide +kernel
theorem dX7_again_70 : decode cX7_again 70 = .ok (.ireturn, 1) := by decide +kernel
theorem dX7_count_0 : decode cX7_count 0 = .ok (.iload_n 1, 1) := by decide +kernel
theorem dX7_count_1 : decode cX7_count 1 = .ok (.tableswitch 99 0 6 #[43, 51, 59, 67, 75, 83, 91], 43) := by decide +kernel
theorem dX7_count_44 : decode cX7_count 44 = .ok (.aload_n 0, 1) := by decide +kernel
theorem dX7_count_45 : decode cX7_count 45 = .ok (.getfield 12, 3) := by decide +kernel
theorem dX7_count_48 : decode cX7_count 48 = .ok (.getfield 78, 3) := by decide +kernel
theorem dX7_count_51 : decode cX7_count 51 = .ok (.ireturn, 1) := by decide +kernel
theorem dX7_count_52 : decode cX7_count 52 = .ok (.aload_n 0, 1) := by decide +kernel
theorem dX7_count_53 : decode cX7_count 53 = .ok (.getfield 19, 3) := by decide +kernel
theorem dX7_count_56 : decode cX7_count 56 = .ok (.getfield 263, 3) := by decide +kernel
theorem dX7_count_59 : decode cX7_count 59 = .ok (.ireturn, 1) := by decide +kernel
theorem dX7_count_60 : decode cX7_count 60 = .ok (.aload_n 0, 1) := by decide +kernel
theorem dX7_count_61 : decode cX7_count 61 = .ok (.getfield 26, 3) := by decide +kernel
theorem dX7_count_64 : decode cX7_count 64 = .ok (.getfield 102, 3) := by decide +kernel
theorem dX7_count_67 : decode cX7_count 67 = .ok (.ireturn, 1) := by decide +kernel
theorem dX7_count_68 : decode cX7_count 68 = .ok (.aload_n 0, 1) := by decide +kernel
theorem dX7_count_69 : decode cX7_count 69 = .ok (.getfield 26, 3) := by decide +kernel
theorem dX7_count_72 : decode cX7_count 72 = .ok (.invokevirtual 266, 3) := by decide +kernel
theorem dX7_count_75 : decode cX7_count 75 = .ok (.ireturn, 1) := by decide +kernel
theorem dX7_count_76 : decode cX7_count 76 = .ok (.aload_n 0, 1) := by decide +kernel
theorem dX7_count_77 : decode cX7_count 77 = .ok (.getfield 26, 3) := by decide +kernel
theorem dX7_count_80 : decode cX7_count 80 = .ok (.getfield 125, 3) := by decide +kernel
theorem dX7_count_83 : decode cX7_count 83 = .ok (.ireturn, 1) := by decide +kernel
theorem dX7_count_84 : decode cX7_count 84 = .ok (.aload_n 0, 1) := by decide +kernel
theorem dX7_count_85 : decode cX7_count 85 = .ok (.getfield 36, 3) := by decide +kernel
theorem dX7_count_88 : decode cX7_count 88 = .ok (.getfield 163, 3) := by decide +kernel
theorem dX7_count_91 : decode cX7_count 91 = .ok (.ireturn, 1) := by decide +kernel
theorem dX7_count_92 : decode cX7_count 92 = .ok (.aload_n 0, 1) := by decide +kernel
theorem dX7_count_93 : decode cX7_count 93 = .ok (.getfield 43, 3) := by decide +kernel
theorem dX7_count_96 : decode cX7_count 96 = .ok (.getfield 220, 3) := by decide +kernel
theorem dX7_count_99 : decode cX7_count 99 = .ok (.ireturn, 1) := by decide +kernel
theorem dX7_count_100 : decode cX7_count 100 = .ok (.bipush (-2), 2) := by decide +kernel
theorem dX7_count_102 : decode cX7_count 102 = .ok (.ireturn, 1) := by decide +kernel
theorem dX7_isKind_0 : decode cX7_isKind 0 = .ok (.iload_n 0, 1) := by decide +kernel
theorem dX7_isKind_1 : decode cX7_isKind 1 = .ok (.ifCond .lt 12, 3) := by decide +kernel
theorem dX7_isKind_4 : decode cX7_isKind 4 = .ok (.iload_n 0, 1) := by decide +kernel
theorem dX7_isKind_5 : decode cX7_isKind 5 = .ok (.iconst 3, 1) := by decide +kernel
theorem dX7_isKind_6 : decode cX7_isKind 6 = .ok (.if_icmp .ge 7, 3) := by decide +kernel
theorem dX7_isKind_9 : decode cX7_isKind 9 = .ok (.iconst 1, 1) := by decide +kernel
theorem dX7_isKind_10 : decode cX7_isKind 10 = .ok (.goto 4, 3) := by decide +kernel
theorem dX7_isKind_13 : decode cX7_isKind 13 = .ok (.iconst 0, 1) := by decide +kernel
theorem dX7_isKind_14 : decode cX7_isKind 14 = .ok (.ireturn, 1) := by decide +kernel
theorem dX7_isSign_0 : decode cX7_isSign 0 = .ok (.iload_n 0, 1) := by decide +kernel
theorem dX7_isSign_1 : decode cX7_isSign 1 = .ok (.ifCond .lt 13, 3) := by decide +kernel
theorem dX7_isSign_4 : decode cX7_isSign 4 = .ok (.iload_n 0, 1) := by decide +kernel
theorem dX7_isSign_5 : decode cX7_isSign 5 = .ok (.bipush 7, 2) := by decide +kernel
theorem dX7_isSign_7 : decode cX7_isSign 7 = .ok (.if_icmp .ge 7, 3) := by decide +kernel
theorem dX7_isSign_10 : decode cX7_isSign 10 = .ok (.iconst 1, 1) := by decide +kernel
theorem dX7_isSign_11 : decode cX7_isSign 11 = .ok (.goto 4, 3) := by decide +kernel
theorem dX7_isSign_14 : decode cX7_isSign 14 = .ok (.iconst 0, 1) := by decide +kernel
theorem dX7_isSign_15 : decode cX7_isSign 15 = .ok (.ireturn, 1) := by decide +kernel
theorem dX7_factorial_0 : decode cX7_factorial 0 = .ok (.iload_n 0, 1) := by decide +kernel
theorem dX7_factorial_1 : decode cX7_factorial 1 = .ok (.ifCond .lt 19, 3) := by decide +kernel
theorem dX7_factorial_4 : decode cX7_factorial 4 = .ok (.iload_n 0, 1) := by decide +kernel
theorem dX7_factorial_5 : decode cX7_factorial 5 = .ok (.getstatic 269, 3) := by decide +kernel
theorem dX7_factorial_8 : decode cX7_factorial 8 = .ok (.arraylength, 1) := by decide +kernel
theorem dX7_factorial_9 : decode cX7_factorial 9 = .ok (.if_icmp .ge 11, 3) := by decide +kernel
theorem dX7_factorial_12 : decode cX7_factorial 12 = .ok (.getstatic 269, 3) := by decide +kernel
theorem dX7_factorial_15 : decode cX7_factorial 15 = .ok (.iload_n 0, 1) := by decide +kernel
theorem dX7_factorial_16 : decode cX7_factorial 16 = .ok (.laload, 1) := by decide +kernel
theorem dX7_factorial_17 : decode cX7_factorial 17 = .ok (.goto 4, 3) := by decide +kernel
theorem dX7_factorial_20 : decode cX7_factorial 20 = .ok (.lconst 1, 1) := by decide +kernel
theorem dX7_factorial_21 : decode cX7_factorial 21 = .ok (.lreturn, 1) := by decide +kernel
theorem dX7_power_0 : decode cX7_power 0 = .ok (.lconst 1, 1) := by decide +kernel
theorem dX7_power_1 : decode cX7_power 1 = .ok (.lstore_n 2, 1) := by decide +kernel
theorem dX7_power_2 : decode cX7_power 2 = .ok (.iconst 0, 1) := by decide +kernel
theorem dX7_power_3 : decode cX7_power 3 = .ok (.istore 4, 2) := by decide +kernel
theorem dX7_power_5 : decode cX7_power 5 = .ok (.iload 4, 2) := by decide +kernel
theorem dX7_power_7 : decode cX7_power 7 = .ok (.iload_n 1, 1) := by decide +kernel
theorem dX7_power_8 : decode cX7_power 8 = .ok (.if_icmp .ge 14, 3) := by decide +kernel
theorem dX7_power_11 : decode cX7_power 11 = .ok (.lload_n 2, 1) := by decide +kernel
theorem dX7_power_12 : decode cX7_power 12 = .ok (.iload_n 0, 1) := by decide +kernel
theorem dX7_power_13 : decode cX7_power 13 = .ok (.i2l, 1) := by decide +kernel
theorem dX7_power_14 : decode cX7_power 14 = .ok (.lmul, 1) := by decide +kernel
theorem dX7_power_15 : decode cX7_power 15 = .ok (.lstore_n 2, 1) := by decide +kernel
theorem dX7_power_16 : decode cX7_power 16 = .ok (.iinc 4 1, 3) := by decide +kernel
theorem dX7_power_19 : decode cX7_power 19 = .ok (.goto (-14), 3) := by decide +kernel
theorem dX7_power_22 : decode cX7_power 22 = .ok (.lload_n 2, 1) := by decide +kernel
theorem dX7_power_23 : decode cX7_power 23 = .ok (.lreturn, 1) := by decide +kernel
theorem dX7_lowestTerms_0 : decode cX7_lowestTerms 0 = .ok (.lload_n 0, 1) := by decide +kernel
theorem dX7_lowestTerms_1 : decode cX7_lowestTerms 1 = .ok (.lstore 5, 2) := by decide +kernel
theorem dX7_lowestTerms_3 : decode cX7_lowestTerms 3 = .ok (.lload_n 2, 1) := by decide +kernel
theorem dX7_lowestTerms_4 : decode cX7_lowestTerms 4 = .ok (.lstore 7, 2) := by decide +kernel
theorem dX7_lowestTerms_6 : decode cX7_lowestTerms 6 = .ok (.iconst 0, 1) := by decide +kernel
theorem dX7_lowestTerms_7 : decode cX7_lowestTerms 7 = .ok (.istore 9, 2) := by decide +kernel
theorem dX7_lowestTerms_9 : decode cX7_lowestTerms 9 = .ok (.iload 9, 2) := by decide +kernel
theorem dX7_lowestTerms_11 : decode cX7_lowestTerms 11 = .ok (.sipush 200, 3) := by decide +kernel
theorem dX7_lowestTerms_14 : decode cX7_lowestTerms 14 = .ok (.if_icmp .ge 31, 3) := by decide +kernel
theorem dX7_lowestTerms_17 : decode cX7_lowestTerms 17 = .ok (.lload 7, 2) := by decide +kernel
theorem dX7_lowestTerms_19 : decode cX7_lowestTerms 19 = .ok (.lconst 0, 1) := by decide +kernel
theorem dX7_lowestTerms_20 : decode cX7_lowestTerms 20 = .ok (.lcmp, 1) := by decide +kernel
theorem dX7_lowestTerms_21 : decode cX7_lowestTerms 21 = .ok (.ifCond .eq 24, 3) := by decide +kernel
theorem dX7_lowestTerms_24 : decode cX7_lowestTerms 24 = .ok (.lload 5, 2) := by decide +kernel
theorem dX7_lowestTerms_26 : decode cX7_lowestTerms 26 = .ok (.lload 7, 2) := by decide +kernel
theorem dX7_lowestTerms_28 : decode cX7_lowestTerms 28 = .ok (.lrem, 1) := by decide +kernel
theorem dX7_lowestTerms_29 : decode cX7_lowestTerms 29 = .ok (.lstore 10, 2) := by decide +kernel
theorem dX7_lowestTerms_31 : decode cX7_lowestTerms 31 = .ok (.lload 7, 2) := by decide +kernel
theorem dX7_lowestTerms_33 : decode cX7_lowestTerms 33 = .ok (.lstore 5, 2) := by decide +kernel
theorem dX7_lowestTerms_35 : decode cX7_lowestTerms 35 = .ok (.lload 10, 2) := by decide +kernel
theorem dX7_lowestTerms_37 : decode cX7_lowestTerms 37 = .ok (.lstore 7, 2) := by decide +kernel
theorem dX7_lowestTerms_39 : decode cX7_lowestTerms 39 = .ok (.iinc 9 1, 3) := by decide +kernel
theorem dX7_lowestTerms_42 : decode cX7_lowestTerms 42 = .ok (.goto (-33), 3) := by decide +kernel
theorem dX7_lowestTerms_45 : decode cX7_lowestTerms 45 = .ok (.iload 4, 2) := by decide +kernel
theorem dX7_lowestTerms_47 : decode cX7_lowestTerms 47 = .ok (.ifCond .eq 7, 3) := by decide +kernel
theorem dX7_lowestTerms_50 : decode cX7_lowestTerms 50 = .ok (.lload_n 0, 1) := by decide +kernel
theorem dX7_lowestTerms_51 : decode cX7_lowestTerms 51 = .ok (.goto 4, 3) := by decide +kernel
theorem dX7_lowestTerms_54 : decode cX7_lowestTerms 54 = .ok (.lload_n 2, 1) := by decide +kernel
theorem dX7_lowestTerms_55 : decode cX7_lowestTerms 55 = .ok (.lstore 9, 2) := by decide +kernel
theorem dX7_lowestTerms_57 : decode cX7_lowestTerms 57 = .ok (.lload 5, 2) := by decide +kernel
theorem dX7_lowestTerms_59 : decode cX7_lowestTerms 59 = .ok (.lconst 0, 1) := by decide +kernel
theorem dX7_lowestTerms_60 : decode cX7_lowestTerms 60 = .ok (.lcmp, 1) := by decide +kernel
theorem dX7_lowestTerms_61 : decode cX7_lowestTerms 61 = .ok (.ifCond .ne 8, 3) := by decide +kernel
theorem dX7_lowestTerms_64 : decode cX7_lowestTerms 64 = .ok (.lload 9, 2) := by decide +kernel
theorem dX7_lowestTerms_66 : decode cX7_lowestTerms 66 = .ok (.goto 8, 3) := by decide +kernel
theorem dX7_lowestTerms_69 : decode cX7_lowestTerms 69 = .ok (.lload 9, 2) := by decide +kernel
theorem dX7_lowestTerms_71 : decode cX7_lowestTerms 71 = .ok (.lload 5, 2) := by decide +kernel
theorem dX7_lowestTerms_73 : decode cX7_lowestTerms 73 = .ok (.ldiv, 1) := by decide +kernel
theorem dX7_lowestTerms_74 : decode cX7_lowestTerms 74 = .ok (.lreturn, 1) := by decide +kernel
theorem dX8_init_0 : decode cX8_init 0 = .ok (.aload_n 0, 1) := by decide +kernel
theorem dX8_init_1 : decode cX8_init 1 = .ok (.invokespecial 1, 3) := by decide +kernel
theorem dX8_init_4 : decode cX8_init 4 = .ok (.aload_n 0, 1) := by decide +kernel
theorem dX8_init_5 : decode cX8_init 5 = .ok (.bipush 110, 2) := by decide +kernel
theorem dX8_init_7 : decode cX8_init 7 = .ok (.newarray .int, 2) := by decide +kernel
theorem dX8_init_9 : decode cX8_init 9 = .ok (.putfield 7, 3) := by decide +kernel
theorem dX8_init_12 : decode cX8_init 12 = .ok (.aload_n 0, 1) := by decide +kernel
theorem dX8_init_13 : decode cX8_init 13 = .ok (.bipush 7, 2) := by decide +kernel
theorem dX8_init_15 : decode cX8_init 15 = .ok (.newarray .int, 2) := by decide +kernel
theorem dX8_init_17 : decode cX8_init 17 = .ok (.putfield 13, 3) := by decide +kernel
theorem dX8_init_20 : decode cX8_init 20 = .ok (.aload_n 0, 1) := by decide +kernel
theorem dX8_init_21 : decode cX8_init 21 = .ok (.bipush 8, 2) := by decide +kernel
theorem dX8_init_23 : decode cX8_init 23 = .ok (.newarray .int, 2) := by decide +kernel
theorem dX8_init_25 : decode cX8_init 25 = .ok (.putfield 16, 3) := by decide +kernel
theorem dX8_init_28 : decode cX8_init 28 = .ok (.aload_n 0, 1) := by decide +kernel
theorem dX8_init_29 : decode cX8_init 29 = .ok (.bipush 40, 2) := by decide +kernel
theorem dX8_init_31 : decode cX8_init 31 = .ok (.newarray .int, 2) := by decide +kernel
theorem dX8_init_33 : decode cX8_init 33 = .ok (.putfield 19, 3) := by decide +kernel
theorem dX8_init_36 : decode cX8_init 36 = .ok (.aload_n 0, 1) := by decide +kernel
theorem dX8_init_37 : decode cX8_init 37 = .ok (.bipush 8, 2) := by decide +kernel
theorem dX8_init_39 : decode cX8_init 39 = .ok (.newarray .int, 2) := by decide +kernel
theorem dX8_init_41 : decode cX8_init 41 = .ok (.putfield 22, 3) := by decide +kernel
theorem dX8_init_44 : decode cX8_init 44 = .ok (.aload_n 0, 1) := by decide +kernel
theorem dX8_init_45 : decode cX8_init 45 = .ok (.bipush 8, 2) := by decide +kernel
theorem dX8_init_47 : decode cX8_init 47 = .ok (.newarray .int, 2) := by decide +kernel
theorem dX8_init_49 : decode cX8_init 49 = .ok (.putfield 25, 3) := by decide +kernel
theorem dX8_init_52 : decode cX8_init 52 = .ok (.aload_n 0, 1) := by decide +kernel
theorem dX8_init_53 : decode cX8_init 53 = .ok (.bipush 7, 2) := by decide +kernel
theorem dX8_init_55 : decode cX8_init 55 = .ok (.newarray .int, 2) := by decide +kernel
theorem dX8_init_57 : decode cX8_init 57 = .ok (.putfield 28, 3) := by decide +kernel
theorem dX8_init_60 : decode cX8_init 60 = .ok (.aload_n 0, 1) := by decide +kernel
theorem dX8_init_61 : decode cX8_init 61 = .ok (.bipush 8, 2) := by decide +kernel
theorem dX8_init_63 : decode cX8_init 63 = .ok (.newarray .int, 2) := by decide +kernel
theorem dX8_init_65 : decode cX8_init 65 = .ok (.putfield 31, 3) := by decide +kernel
theorem dX8_init_68 : decode cX8_init 68 = .ok (.aload_n 0, 1) := by decide +kernel
theorem dX8_init_69 : decode cX8_init 69 = .ok (.bipush 40, 2) := by decide +kernel
theorem dX8_init_71 : decode cX8_init 71 = .ok (.newarray .int, 2) := by decide +kernel
theorem dX8_init_73 : decode cX8_init 73 = .ok (.putfield 34, 3) := by decide +kernel
theorem dX8_init_76 : decode cX8_init 76 = .ok (.aload_n 0, 1) := by decide +kernel
theorem dX8_init_77 : decode cX8_init 77 = .ok (.bipush 8, 2) := by decide +kernel
theorem dX8_init_79 : decode cX8_init 79 = .ok (.newarray .int, 2) := by decide +kernel
theorem dX8_init_81 : decode cX8_init 81 = .ok (.putfield 37, 3) := by decide +kernel
theorem dX8_init_84 : decode cX8_init 84 = .ok (.aload_n 0, 1) := by decide +kernel
theorem dX8_init_85 : decode cX8_init 85 = .ok (.bipush 8, 2) := by decide +kernel
theorem dX8_init_87 : decode cX8_init 87 = .ok (.newarray .int, 2) := by decide +kernel
theorem dX8_init_89 : decode cX8_init 89 = .ok (.putfield 40, 3) := by decide +kernel
theorem dX8_init_92 : decode cX8_init 92 = .ok (.aload_n 0, 1) := by decide +kernel
theorem dX8_init_93 : decode cX8_init 93 = .ok (.bipush 9, 2) := by decide +kernel
theorem dX8_init_95 : decode cX8_init 95 = .ok (.newarray .boolean, 2) := by decide +kernel
theorem dX8_init_97 : decode cX8_init 97 = .ok (.putfield 43, 3) := by decide +kernel
theorem dX8_init_100 : decode cX8_init 100 = .ok (.aload_n 0, 1) := by decide +kernel
theorem dX8_init_101 : decode cX8_init 101 = .ok (.bipush 43, 2) := by decide +kernel
theorem dX8_init_103 : decode cX8_init 103 = .ok (.newarray .int, 2) := by decide +kernel
theorem dX8_init_105 : decode cX8_init 105 = .ok (.putfield 47, 3) := by decide +kernel
theorem dX8_init_108 : decode cX8_init 108 = .ok (.aload_n 0, 1) := by decide +kernel
theorem dX8_init_109 : decode cX8_init 109 = .ok (.bipush 43, 2) := by decide +kernel
theorem dX8_init_111 : decode cX8_init 111 = .ok (.newarray .int, 2) := by decide +kernel
theorem dX8_init_113 : decode cX8_init 113 = .ok (.putfield 50, 3) := by decide +kernel
theorem dX8_init_116 : decode cX8_init 116 = .ok (.aload_n 0, 1) := by decide +kernel
theorem dX8_init_117 : decode cX8_init 117 = .ok (.bipush 43, 2) := by decide +kernel
theorem dX8_init_119 : decode cX8_init 119 = .ok (.newarray .int, 2) := by decide +kernel
theorem dX8_init_121 : decode cX8_init 121 = .ok (.putfield 53, 3) := by decide +kernel
theorem dX8_init_124 : decode cX8_init 124 = .ok (.aload_n 0, 1) := by decide +kernel
theorem dX8_init_125 : decode cX8_init 125 = .ok (.sipush 602, 3) := by decide +kernel
theorem dX8_init_128 : decode cX8_init 128 = .ok (.newarray .int, 2) := by decide +kernel
theorem dX8_init_130 : decode cX8_init 130 = .ok (.putfield 56, 3) := by decide +kernel
theorem dX8_init_133 : decode cX8_init 133 = .ok (.aload_n 0, 1) := by decide +kernel
theorem dX8_init_134 : decode cX8_init 134 = .ok (.bipush 86, 2) := by decide +kernel
theorem dX8_init_136 : decode cX8_init 136 = .ok (.newarray .int, 2) := by decide +kernel
theorem dX8_init_138 : decode cX8_init 138 = .ok (.putfield 59, 3) := by decide +kernel
theorem dX8_init_141 : decode cX8_init 141 = .ok (.aload_n 0, 1) := by decide +kernel
theorem dX8_init_142 : decode cX8_init 142 = .ok (.iconst 2, 1) := by decide +kernel
theorem dX8_init_143 : decode cX8_init 143 = .ok (.newarray .boolean, 2) := by decide +kernel
theorem dX8_init_145 : decode cX8_init 145 = .ok (.putfield 62, 3) := by decide +kernel
theorem dX8_init_148 : decode cX8_init 148 = .ok (.aload_n 0, 1) := by decide +kernel
theorem dX8_init_149 : decode cX8_init 149 = .ok (.bipush 6, 2) := by decide +kernel
theorem dX8_init_151 : decode cX8_init 151 = .ok (.newarray .int, 2) := by decide +kernel
theorem dX8_init_153 : decode cX8_init 153 = .ok (.putfield 65, 3) := by decide +kernel
theorem dX8_init_156 : decode cX8_init 156 = .ok (.aload_n 0, 1) := by decide +kernel
theorem dX8_init_157 : decode cX8_init 157 = .ok (.bipush 6, 2) := by decide +kernel
theorem dX8_init_159 : decode cX8_init 159 = .ok (.newarray .int, 2) := by decide +kernel
theorem dX8_init_161 : decode cX8_init 161 = .ok (.putfield 68, 3) := by decide +kernel
theorem dX8_init_164 : decode cX8_init 164 = .ok (.aload_n 0, 1) := by decide +kernel
theorem dX8_init_165 : decode cX8_init 165 = .ok (.bipush 6, 2) := by decide +kernel
theorem dX8_init_167 : decode cX8_init 167 = .ok (.newarray .int, 2) := by decide +kernel
theorem dX8_init_169 : decode cX8_init 169 = .ok (.putfield 71, 3) := by decide +kernel
theorem dX8_init_172 : decode cX8_init 172 = .ok (.aload_n 0, 1) := by decide +kernel
theorem dX8_init_173 : decode cX8_init 173 = .ok (.sipush 16425, 3) := by decide +kernel
theorem dX8_init_176 : decode cX8_init 176 = .ok (.newarray .long, 2) := by decide +kernel
theorem dX8_init_178 : decode cX8_init 178 = .ok (.putfield 74, 3) := by decide +kernel
theorem dX8_init_181 : decode cX8_init 181 = .ok (.aload_n 0, 1) := by decide +kernel
theorem dX8_init_182 : decode cX8_init 182 = .ok (.sipush 225, 3) := by decide +kernel
theorem dX8_init_185 : decode cX8_init 185 = .ok (.newarray .long, 2) := by decide +kernel
theorem dX8_init_187 : decode cX8_init 187 = .ok (.putfield 78, 3) := by decide +kernel
theorem dX8_init_190 : decode cX8_init 190 = .ok (.aload_n 0, 1) := by decide +kernel
theorem dX8_init_191 : decode cX8_init 191 = .ok (.sipush 225, 3) := by decide +kernel
theorem dX8_init_194 : decode cX8_init 194 = .ok (.newarray .long, 2) := by decide +kernel
theorem dX8_init_196 : decode cX8_init 196 = .ok (.putfield 81, 3) := by decide +kernel
theorem dX8_init_199 : decode cX8_init 199 = .ok (.aload_n 0, 1) := by decide +kernel
theorem dX8_init_200 : decode cX8_init 200 = .ok (.bipush 8, 2) := by decide +kernel
theorem dX8_init_202 : decode cX8_init 202 = .ok (.newarray .int, 2) := by decide +kernel
theorem dX8_init_204 : decode cX8_init 204 = .ok (.putfield 84, 3) := by decide +kernel
theorem dX8_init_207 : decode cX8_init 207 = .ok (.aload_n 0, 1) := by decide +kernel
theorem dX8_init_208 : decode cX8_init 208 = .ok (.sipush 256, 3) := by decide +kernel
theorem dX8_init_211 : decode cX8_init 211 = .ok (.newarray .long, 2) := by decide +kernel
theorem dX8_init_213 : decode cX8_init 213 = .ok (.putfield 87, 3) := by decide +kernel
theorem dX8_init_216 : decode cX8_init 216 = .ok (.iconst 0, 1) := by decide +kernel
theorem dX8_init_217 : decode cX8_init 217 = .ok (.istore_n 1, 1) := by decide +kernel
theorem dX8_init_218 : decode cX8_init 218 = .ok (.iload_n 1, 1) := by decide +kernel
theorem dX8_init_219 : decode cX8_init 219 = .ok (.bipush 7, 2) := by decide +kernel
theorem dX8_init_221 : decode cX8_init 221 = .ok (.if_icmp .ge 16, 3) := by decide +kernel
theorem dX8_init_224 : decode cX8_init 224 = .ok (.aload_n 0, 1) := by decide +kernel
theorem dX8_init_225 : decode cX8_init 225 = .ok (.getfield 13, 3) := by decide +kernel
theorem dX8_init_228 : decode cX8_init 228 = .ok (.iload_n 1, 1) := by decide +kernel
theorem dX8_init_229 : decode cX8_init 229 = .ok (.iconst 1, 1) := by decide +kernel
theorem dX8_init_230 : decode cX8_init 230 = .ok (.iastore, 1) := by decide +kernel
theorem dX8_init_231 : decode cX8_init 231 = .ok (.iinc 1 1, 3) := by decide +kernel
theorem dX8_init_234 : decode cX8_init 234 = .ok (.goto (-16), 3) := by decide +kernel
theorem dX8_init_237 : decode cX8_init 237 = .ok (.aload_n 0, 1) := by decide +kernel
theorem dX8_init_238 : decode cX8_init 238 = .ok (.getfield 50, 3) := by decide +kernel
theorem dX8_init_241 : decode cX8_init 241 = .ok (.invokestatic 90, 3) := by decide +kernel
theorem dX8_init_244 : decode cX8_init 244 = .ok (.return_, 1) := by decide +kernel
theorem dX8_begin_0 : decode cX8_begin 0 = .ok (.iconst 0, 1) := by decide +kernel
theorem dX8_begin_1 : decode cX8_begin 1 = .ok (.istore_n 1, 1) := by decide +kernel
theorem dX8_begin_2 : decode cX8_begin 2 = .ok (.iload_n 1, 1) := by decide +kernel
theorem dX8_begin_3 : decode cX8_begin 3 = .ok (.bipush 43, 2) := by decide +kernel
theorem dX8_begin_5 : decode cX8_begin 5 = .ok (.if_icmp .ge 28, 3) := by decide +kernel
theorem dX8_begin_8 : decode cX8_begin 8 = .ok (.aload_n 0, 1) := by decide +kernel
theorem dX8_begin_9 : decode cX8_begin 9 = .ok (.iload_n 1, 1) := by decide +kernel
theorem dX8_begin_10 : decode cX8_begin 10 = .ok (.iload_n 1, 1) := by decide +kernel
theorem dX8_begin_11 : decode cX8_begin 11 = .ok (.iconst 2, 1) := by decide +kernel
theorem dX8_begin_12 : decode cX8_begin 12 = .ok (.if_icmp .lt 13, 3) := by decide +kernel
theorem dX8_begin_15 : decode cX8_begin 15 = .ok (.iload_n 1, 1) := by decide +kernel
theorem dX8_begin_16 : decode cX8_begin 16 = .ok (.bipush 11, 2) := by decide +kernel
theorem dX8_begin_18 : decode cX8_begin 18 = .ok (.if_icmp .ge 7, 3) := by decide +kernel
theorem dX8_begin_21 : decode cX8_begin 21 = .ok (.iconst 1, 1) := by decide +kernel
theorem dX8_begin_22 : decode cX8_begin 22 = .ok (.goto 4, 3) := by decide +kernel
theorem dX8_begin_25 : decode cX8_begin 25 = .ok (.iconst 0, 1) := by decide +kernel
theorem dX8_begin_26 : decode cX8_begin 26 = .ok (.iastore, 1) := by decide +kernel
theorem dX8_begin_27 : decode cX8_begin 27 = .ok (.iinc 1 1, 3) := by decide +kernel
theorem dX8_begin_30 : decode cX8_begin 30 = .ok (.goto (-28), 3) := by decide +kernel
theorem dX8_begin_33 : decode cX8_begin 33 = .ok (.return_, 1) := by decide +kernel
theorem dX8_in_0 : decode cX8_in 0 = .ok (.lload_n 0, 1) := by decide +kernel
theorem dX8_in_1 : decode cX8_in 1 = .ok (.lload_n 2, 1) := by decide +kernel
theorem dX8_in_2 : decode cX8_in 2 = .ok (.lcmp, 1) := by decide +kernel
theorem dX8_in_3 : decode cX8_in 3 = .ok (.ifCond .lt 14, 3) := by decide +kernel
theorem dX8_in_6 : decode cX8_in 6 = .ok (.lload_n 0, 1) := by decide +kernel
theorem dX8_in_7 : decode cX8_in 7 = .ok (.lload 4, 2) := by decide +kernel
theorem dX8_in_9 : decode cX8_in 9 = .ok (.lcmp, 1) := by decide +kernel
theorem dX8_in_10 : decode cX8_in 10 = .ok (.ifCond .gt 7, 3) := by decide +kernel
theorem dX8_in_13 : decode cX8_in 13 = .ok (.iconst 1, 1) := by decide +kernel
theorem dX8_in_14 : decode cX8_in 14 = .ok (.goto 4, 3) := by decide +kernel
theorem dX8_in_17 : decode cX8_in 17 = .ok (.iconst 0, 1) := by decide +kernel
theorem dX8_in_18 : decode cX8_in 18 = .ok (.ireturn, 1) := by decide +kernel
theorem dX8_has_0 : decode cX8_has 0 = .ok (.iload_n 0, 1) := by decide +kernel
theorem dX8_has_1 : decode cX8_has 1 = .ok (.iload_n 1, 1) := by decide +kernel
theorem dX8_has_2 : decode cX8_has 2 = .ok (.ishr, 1) := by decide +kernel
theorem dX8_has_3 : decode cX8_has 3 = .ok (.iconst 1, 1) := by decide +kernel
theorem dX8_has_4 : decode cX8_has 4 = .ok (.iand, 1) := by decide +kernel
theorem dX8_has_5 : decode cX8_has 5 = .ok (.iconst 1, 1) := by decide +kernel
theorem dX8_has_6 : decode cX8_has 6 = .ok (.if_icmp .ne 7, 3) := by decide +kernel
theorem dX8_has_9 : decode cX8_has 9 = .ok (.iconst 1, 1) := by decide +kernel
theorem dX8_has_10 : decode cX8_has 10 = .ok (.goto 4, 3) := by decide +kernel
theorem dX8_has_13 : decode cX8_has 13 = .ok (.iconst 0, 1) := by decide +kernel
theorem dX8_has_14 : decode cX8_has 14 = .ok (.ireturn, 1) := by decide +kernel
theorem dX8_ones_0 : decode cX8_ones 0 = .ok (.iconst 0, 1) := by decide +kernel
theorem dX8_ones_1 : decode cX8_ones 1 = .ok (.istore_n 1, 1) := by decide +kernel
theorem dX8_ones_2 : decode cX8_ones 2 = .ok (.iconst 0, 1) := by decide +kernel
theorem dX8_ones_3 : decode cX8_ones 3 = .ok (.istore_n 2, 1) := by decide +kernel
theorem dX8_ones_4 : decode cX8_ones 4 = .ok (.iload_n 2, 1) := by decide +kernel
theorem dX8_ones_5 : decode cX8_ones 5 = .ok (.bipush 8, 2) := by decide +kernel
theorem dX8_ones_7 : decode cX8_ones 7 = .ok (.if_icmp .ge 17, 3) := by decide +kernel
theorem dX8_ones_10 : decode cX8_ones 10 = .ok (.iload_n 1, 1) := by decide +kernel
theorem dX8_ones_11 : decode cX8_ones 11 = .ok (.iload_n 0, 1) := by decide +kernel
theorem dX8_ones_12 : decode cX8_ones 12 = .ok (.iload_n 2, 1) := by decide +kernel
theorem dX8_ones_13 : decode cX8_ones 13 = .ok (.ishr, 1) := by decide +kernel
theorem dX8_ones_14 : decode cX8_ones 14 = .ok (.iconst 1, 1) := by decide +kernel
theorem dX8_ones_15 : decode cX8_ones 15 = .ok (.iand, 1) := by decide +kernel
theorem dX8_ones_16 : decode cX8_ones 16 = .ok (.iadd, 1) := by decide +kernel
theorem dX8_ones_17 : decode cX8_ones 17 = .ok (.istore_n 1, 1) := by decide +kernel
theorem dX8_ones_18 : decode cX8_ones 18 = .ok (.iinc 2 1, 3) := by decide +kernel
theorem dX8_ones_21 : decode cX8_ones 21 = .ok (.goto (-17), 3) := by decide +kernel
theorem dX8_ones_24 : decode cX8_ones 24 = .ok (.iload_n 1, 1) := by decide +kernel
theorem dX8_ones_25 : decode cX8_ones 25 = .ok (.ireturn, 1) := by decide +kernel
theorem dX8_power_0 : decode cX8_power 0 = .ok (.iconst 1, 1) := by decide +kernel
theorem dX8_power_1 : decode cX8_power 1 = .ok (.istore_n 2, 1) := by decide +kernel
theorem dX8_power_2 : decode cX8_power 2 = .ok (.iconst 0, 1) := by decide +kernel
theorem dX8_power_3 : decode cX8_power 3 = .ok (.istore_n 3, 1) := by decide +kernel
theorem dX8_power_4 : decode cX8_power 4 = .ok (.iload_n 3, 1) := by decide +kernel
theorem dX8_power_5 : decode cX8_power 5 = .ok (.iload_n 1, 1) := by decide +kernel
theorem dX8_power_6 : decode cX8_power 6 = .ok (.if_icmp .ge 13, 3) := by decide +kernel
theorem dX8_power_9 : decode cX8_power 9 = .ok (.iload_n 2, 1) := by decide +kernel
theorem dX8_power_10 : decode cX8_power 10 = .ok (.iload_n 0, 1) := by decide +kernel
theorem dX8_power_11 : decode cX8_power 11 = .ok (.imul, 1) := by decide +kernel
theorem dX8_power_12 : decode cX8_power 12 = .ok (.istore_n 2, 1) := by decide +kernel
theorem dX8_power_13 : decode cX8_power 13 = .ok (.iinc 3 1, 3) := by decide +kernel
theorem dX8_power_16 : decode cX8_power 16 = .ok (.goto (-12), 3) := by decide +kernel
theorem dX8_power_19 : decode cX8_power 19 = .ok (.iload_n 2, 1) := by decide +kernel
theorem dX8_power_20 : decode cX8_power 20 = .ok (.ireturn, 1) := by decide +kernel
theorem dX8_lay_0 : decode cX8_lay 0 = .ok (.iconst 0, 1) := by decide +kernel
theorem dX8_lay_1 : decode cX8_lay 1 = .ok (.istore_n 2, 1) := by decide +kernel
theorem dX8_lay_2 : decode cX8_lay 2 = .ok (.iload_n 2, 1) := by decide +kernel
theorem dX8_lay_3 : decode cX8_lay 3 = .ok (.bipush 43, 2) := by decide +kernel
theorem dX8_lay_5 : decode cX8_lay 5 = .ok (.if_icmp .ge 15, 3) := by decide +kernel
theorem dX8_lay_8 : decode cX8_lay 8 = .ok (.aload_n 0, 1) := by decide +kernel
theorem dX8_lay_9 : decode cX8_lay 9 = .ok (.iload_n 2, 1) := by decide +kernel
theorem dX8_lay_10 : decode cX8_lay 10 = .ok (.aload_n 1, 1) := by decide +kernel
theorem dX8_lay_11 : decode cX8_lay 11 = .ok (.iload_n 2, 1) := by decide +kernel
theorem dX8_lay_12 : decode cX8_lay 12 = .ok (.iaload, 1) := by decide +kernel
theorem dX8_lay_13 : decode cX8_lay 13 = .ok (.iastore, 1) := by decide +kernel
theorem dX8_lay_14 : decode cX8_lay 14 = .ok (.iinc 2 1, 3) := by decide +kernel
theorem dX8_lay_17 : decode cX8_lay 17 = .ok (.goto (-15), 3) := by decide +kernel
theorem dX8_lay_20 : decode cX8_lay 20 = .ok (.return_, 1) := by decide +kernel
theorem dX8_noWord_0 : decode cX8_noWord 0 = .ok (.iload_n 1, 1) := by decide +kernel
theorem dX8_noWord_1 : decode cX8_noWord 1 = .ok (.i2l, 1) := by decide +kernel
theorem dX8_noWord_2 : decode cX8_noWord 2 = .ok (.lconst 0, 1) := by decide +kernel
theorem dX8_noWord_3 : decode cX8_noWord 3 = .ok (.aload_n 0, 1) := by decide +kernel
theorem dX8_noWord_4 : decode cX8_noWord 4 = .ok (.getfield 98, 3) := by decide +kernel
theorem dX8_noWord_7 : decode cX8_noWord 7 = .ok (.iconst 1, 1) := by decide +kernel
theorem dX8_noWord_8 : decode cX8_noWord 8 = .ok (.isub, 1) := by decide +kernel
theorem dX8_noWord_9 : decode cX8_noWord 9 = .ok (.i2l, 1) := by decide +kernel
theorem dX8_noWord_10 : decode cX8_noWord 10 = .ok (.invokestatic 101, 3) := by decide +kernel
theorem dX8_noWord_13 : decode cX8_noWord 13 = .ok (.ifCond .ne 7, 3) := by decide +kernel
theorem dX8_noWord_16 : decode cX8_noWord 16 = .ok (.iconst 1, 1) := by decide +kernel
theorem dX8_noWord_17 : decode cX8_noWord 17 = .ok (.goto 4, 3) := by decide +kernel
theorem dX8_noWord_20 : decode cX8_noWord 20 = .ok (.iconst 0, 1) := by decide +kernel
theorem dX8_noWord_21 : decode cX8_noWord 21 = .ok (.ireturn, 1) := by decide +kernel
theorem dX8_noUnit_0 : decode cX8_noUnit 0 = .ok (.iload_n 1, 1) := by decide +kernel
theorem dX8_noUnit_1 : decode cX8_noUnit 1 = .ok (.i2l, 1) := by decide +kernel
theorem dX8_noUnit_2 : decode cX8_noUnit 2 = .ok (.lconst 0, 1) := by decide +kernel
theorem dX8_noUnit_3 : decode cX8_noUnit 3 = .ok (.aload_n 0, 1) := by decide +kernel
theorem dX8_noUnit_4 : decode cX8_noUnit 4 = .ok (.getfield 50, 3) := by decide +kernel
theorem dX8_noUnit_7 : decode cX8_noUnit 7 = .ok (.iconst 0, 1) := by decide +kernel
theorem dX8_noUnit_8 : decode cX8_noUnit 8 = .ok (.iaload, 1) := by decide +kernel
theorem dX8_noUnit_9 : decode cX8_noUnit 9 = .ok (.iconst 1, 1) := by decide +kernel
theorem dX8_noUnit_10 : decode cX8_noUnit 10 = .ok (.isub, 1) := by decide +kernel
theorem dX8_noUnit_11 : decode cX8_noUnit 11 = .ok (.i2l, 1) := by decide +kernel
theorem dX8_noUnit_12 : decode cX8_noUnit 12 = .ok (.invokestatic 101, 3) := by decide +kernel
theorem dX8_noUnit_15 : decode cX8_noUnit 15 = .ok (.ifCond .ne 7, 3) := by decide +kernel
theorem dX8_noUnit_18 : decode cX8_noUnit 18 = .ok (.iconst 1, 1) := by decide +kernel
theorem dX8_noUnit_19 : decode cX8_noUnit 19 = .ok (.goto 4, 3) := by decide +kernel
theorem dX8_noUnit_22 : decode cX8_noUnit 22 = .ok (.iconst 0, 1) := by decide +kernel
theorem dX8_noUnit_23 : decode cX8_noUnit 23 = .ok (.ireturn, 1) := by decide +kernel
theorem dX8_write_0 : decode cX8_write 0 = .ok (.aload_n 0, 1) := by decide +kernel
theorem dX8_write_1 : decode cX8_write 1 = .ok (.iconst 0, 1) := by decide +kernel
theorem dX8_write_2 : decode cX8_write 2 = .ok (.putfield 94, 3) := by decide +kernel
theorem dX8_write_5 : decode cX8_write 5 = .ok (.iload_n 1, 1) := by decide +kernel
theorem dX8_write_6 : decode cX8_write 6 = .ok (.i2l, 1) := by decide +kernel
theorem dX8_write_7 : decode cX8_write 7 = .ok (.lconst 0, 1) := by decide +kernel
theorem dX8_write_8 : decode cX8_write 8 = .ok (.ldc2_w 105, 3) := by decide +kernel
theorem dX8_write_11 : decode cX8_write 11 = .ok (.invokestatic 101, 3) := by decide +kernel
theorem dX8_write_14 : decode cX8_write 14 = .ok (.ifCond .ne 6, 3) := by decide +kernel
theorem dX8_write_17 : decode cX8_write 17 = .ok (.bipush (-2), 2) := by decide +kernel
theorem dX8_write_19 : decode cX8_write 19 = .ok (.ireturn, 1) := by decide +kernel
theorem dX8_write_20 : decode cX8_write 20 = .ok (.aload_n 0, 1) := by decide +kernel
theorem dX8_write_21 : decode cX8_write 21 = .ok (.getfield 107, 3) := by decide +kernel
theorem dX8_write_24 : decode cX8_write 24 = .ok (.bipush 110, 2) := by decide +kernel
theorem dX8_write_26 : decode cX8_write 26 = .ok (.if_icmp .ne 6, 3) := by decide +kernel
theorem dX8_write_29 : decode cX8_write 29 = .ok (.bipush (-4), 2) := by decide +kernel
theorem dX8_write_31 : decode cX8_write 31 = .ok (.ireturn, 1) := by decide +kernel
theorem dX8_write_32 : decode cX8_write 32 = .ok (.aload_n 0, 1) := by decide +kernel
theorem dX8_write_33 : decode cX8_write 33 = .ok (.getfield 7, 3) := by decide +kernel
theorem dX8_write_36 : decode cX8_write 36 = .ok (.aload_n 0, 1) := by decide +kernel
theorem dX8_write_37 : decode cX8_write 37 = .ok (.getfield 107, 3) := by decide +kernel
theorem dX8_write_40 : decode cX8_write 40 = .ok (.iload_n 1, 1) := by decide +kernel
theorem dX8_write_41 : decode cX8_write 41 = .ok (.iastore, 1) := by decide +kernel
theorem dX8_write_42 : decode cX8_write 42 = .ok (.aload_n 0, 1) := by decide +kernel
theorem dX8_write_43 : decode cX8_write 43 = .ok (.dup, 1) := by decide +kernel
theorem dX8_write_44 : decode cX8_write 44 = .ok (.getfield 107, 3) := by decide +kernel
