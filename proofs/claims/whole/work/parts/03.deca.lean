theorem dX0_init_0 : decode cX0_init 0 = .ok (.aload_n 0, 1) := by decide +kernel
theorem dX0_init_1 : decode cX0_init 1 = .ok (.invokespecial 3, 3) := by decide +kernel
theorem dX0_init_4 : decode cX0_init 4 = .ok (.aload_n 0, 1) := by decide +kernel
theorem dX0_init_5 : decode cX0_init 5 = .ok (.bipush 8, 2) := by decide +kernel
theorem dX0_init_7 : decode cX0_init 7 = .ok (.newarray .int, 2) := by decide +kernel
theorem dX0_init_9 : decode cX0_init 9 = .ok (.putfield 11, 3) := by decide +kernel
theorem dX0_init_12 : decode cX0_init 12 = .ok (.aload_n 0, 1) := by decide +kernel
theorem dX0_init_13 : decode cX0_init 13 = .ok (.bipush 88, 2) := by decide +kernel
theorem dX0_init_15 : decode cX0_init 15 = .ok (.newarray .int, 2) := by decide +kernel
theorem dX0_init_17 : decode cX0_init 17 = .ok (.putfield 15, 3) := by decide +kernel
theorem dX0_init_20 : decode cX0_init 20 = .ok (.aload_n 0, 1) := by decide +kernel
theorem dX0_init_21 : decode cX0_init 21 = .ok (.bipush 11, 2) := by decide +kernel
theorem dX0_init_23 : decode cX0_init 23 = .ok (.newarray .int, 2) := by decide +kernel
theorem dX0_init_25 : decode cX0_init 25 = .ok (.putfield 18, 3) := by decide +kernel
theorem dX0_init_28 : decode cX0_init 28 = .ok (.return_, 1) := by decide +kernel
theorem dX0_has_0 : decode cX0_has 0 = .ok (.iload_n 1, 1) := by decide +kernel
theorem dX0_has_1 : decode cX0_has 1 = .ok (.ifCond .lt 15, 3) := by decide +kernel
theorem dX0_has_4 : decode cX0_has 4 = .ok (.iload_n 1, 1) := by decide +kernel
theorem dX0_has_5 : decode cX0_has 5 = .ok (.aload_n 0, 1) := by decide +kernel
theorem dX0_has_6 : decode cX0_has 6 = .ok (.getfield 21, 3) := by decide +kernel
theorem dX0_has_9 : decode cX0_has 9 = .ok (.if_icmp .ge 7, 3) := by decide +kernel
theorem dX0_has_12 : decode cX0_has 12 = .ok (.iconst 1, 1) := by decide +kernel
theorem dX0_has_13 : decode cX0_has 13 = .ok (.goto 4, 3) := by decide +kernel
theorem dX0_has_16 : decode cX0_has 16 = .ok (.iconst 0, 1) := by decide +kernel
theorem dX0_has_17 : decode cX0_has 17 = .ok (.ireturn, 1) := by decide +kernel
theorem dX0_add_0 : decode cX0_add 0 = .ok (.aload_n 0, 1) := by decide +kernel
theorem dX0_add_1 : decode cX0_add 1 = .ok (.getfield 21, 3) := by decide +kernel
theorem dX0_add_4 : decode cX0_add 4 = .ok (.bipush 8, 2) := by decide +kernel
theorem dX0_add_6 : decode cX0_add 6 = .ok (.if_icmp .lt 6, 3) := by decide +kernel
theorem dX0_add_9 : decode cX0_add 9 = .ok (.bipush (-4), 2) := by decide +kernel
theorem dX0_add_11 : decode cX0_add 11 = .ok (.ireturn, 1) := by decide +kernel
theorem dX0_add_12 : decode cX0_add 12 = .ok (.aload_n 0, 1) := by decide +kernel
theorem dX0_add_13 : decode cX0_add 13 = .ok (.getfield 11, 3) := by decide +kernel
theorem dX0_add_16 : decode cX0_add 16 = .ok (.aload_n 0, 1) := by decide +kernel
theorem dX0_add_17 : decode cX0_add 17 = .ok (.getfield 21, 3) := by decide +kernel
theorem dX0_add_20 : decode cX0_add 20 = .ok (.iload_n 1, 1) := by decide +kernel
theorem dX0_add_21 : decode cX0_add 21 = .ok (.iastore, 1) := by decide +kernel
theorem dX0_add_22 : decode cX0_add 22 = .ok (.aload_n 0, 1) := by decide +kernel
theorem dX0_add_23 : decode cX0_add 23 = .ok (.dup, 1) := by decide +kernel
theorem dX0_add_24 : decode cX0_add 24 = .ok (.getfield 21, 3) := by decide +kernel
theorem dX0_add_27 : decode cX0_add 27 = .ok (.iconst 1, 1) := by decide +kernel
theorem dX0_add_28 : decode cX0_add 28 = .ok (.iadd, 1) := by decide +kernel
theorem dX0_add_29 : decode cX0_add 29 = .ok (.putfield 21, 3) := by decide +kernel
theorem dX0_add_32 : decode cX0_add 32 = .ok (.aload_n 0, 1) := by decide +kernel
theorem dX0_add_33 : decode cX0_add 33 = .ok (.getfield 21, 3) := by decide +kernel
theorem dX0_add_36 : decode cX0_add 36 = .ok (.iconst 1, 1) := by decide +kernel
theorem dX0_add_37 : decode cX0_add 37 = .ok (.isub, 1) := by decide +kernel
theorem dX0_add_38 : decode cX0_add 38 = .ok (.ireturn, 1) := by decide +kernel
theorem dX0_said_0 : decode cX0_said 0 = .ok (.aload_n 0, 1) := by decide +kernel
theorem dX0_said_1 : decode cX0_said 1 = .ok (.getfield 15, 3) := by decide +kernel
theorem dX0_said_4 : decode cX0_said 4 = .ok (.iload_n 1, 1) := by decide +kernel
theorem dX0_said_5 : decode cX0_said 5 = .ok (.bipush 11, 2) := by decide +kernel
theorem dX0_said_7 : decode cX0_said 7 = .ok (.imul, 1) := by decide +kernel
theorem dX0_said_8 : decode cX0_said 8 = .ok (.iload_n 2, 1) := by decide +kernel
theorem dX0_said_9 : decode cX0_said 9 = .ok (.iadd, 1) := by decide +kernel
theorem dX0_said_10 : decode cX0_said 10 = .ok (.iaload, 1) := by decide +kernel
theorem dX0_said_11 : decode cX0_said 11 = .ok (.ireturn, 1) := by decide +kernel
theorem dX0_change_0 : decode cX0_change 0 = .ok (.aload_n 0, 1) := by decide +kernel
theorem dX0_change_1 : decode cX0_change 1 = .ok (.iload_n 1, 1) := by decide +kernel
theorem dX0_change_2 : decode cX0_change 2 = .ok (.iload_n 2, 1) := by decide +kernel
theorem dX0_change_3 : decode cX0_change 3 = .ok (.invokevirtual 25, 3) := by decide +kernel
theorem dX0_change_6 : decode cX0_change 6 = .ok (.istore 4, 2) := by decide +kernel
theorem dX0_change_8 : decode cX0_change 8 = .ok (.aload_n 0, 1) := by decide +kernel
theorem dX0_change_9 : decode cX0_change 9 = .ok (.getfield 15, 3) := by decide +kernel
theorem dX0_change_12 : decode cX0_change 12 = .ok (.iload_n 1, 1) := by decide +kernel
theorem dX0_change_13 : decode cX0_change 13 = .ok (.bipush 11, 2) := by decide +kernel
theorem dX0_change_15 : decode cX0_change 15 = .ok (.imul, 1) := by decide +kernel
theorem dX0_change_16 : decode cX0_change 16 = .ok (.iload_n 2, 1) := by decide +kernel
theorem dX0_change_17 : decode cX0_change 17 = .ok (.iadd, 1) := by decide +kernel
theorem dX0_change_18 : decode cX0_change 18 = .ok (.iload_n 3, 1) := by decide +kernel
theorem dX0_change_19 : decode cX0_change 19 = .ok (.iastore, 1) := by decide +kernel
theorem dX0_change_20 : decode cX0_change 20 = .ok (.iload 4, 2) := by decide +kernel
theorem dX0_change_22 : decode cX0_change 22 = .ok (.ireturn, 1) := by decide +kernel
theorem dX0_bestOffer_0 : decode cX0_bestOffer 0 = .ok (.iconst 0, 1) := by decide +kernel
theorem dX0_bestOffer_1 : decode cX0_bestOffer 1 = .ok (.istore_n 2, 1) := by decide +kernel
theorem dX0_bestOffer_2 : decode cX0_bestOffer 2 = .ok (.iload_n 2, 1) := by decide +kernel
theorem dX0_bestOffer_3 : decode cX0_bestOffer 3 = .ok (.bipush 11, 2) := by decide +kernel
theorem dX0_bestOffer_5 : decode cX0_bestOffer 5 = .ok (.if_icmp .ge 26, 3) := by decide +kernel
theorem dX0_bestOffer_8 : decode cX0_bestOffer 8 = .ok (.aload_n 0, 1) := by decide +kernel
theorem dX0_bestOffer_9 : decode cX0_bestOffer 9 = .ok (.getfield 18, 3) := by decide +kernel
theorem dX0_bestOffer_12 : decode cX0_bestOffer 12 = .ok (.iload_n 2, 1) := by decide +kernel
theorem dX0_bestOffer_13 : decode cX0_bestOffer 13 = .ok (.bipush 10, 2) := by decide +kernel
theorem dX0_bestOffer_15 : decode cX0_bestOffer 15 = .ok (.iload_n 2, 1) := by decide +kernel
theorem dX0_bestOffer_16 : decode cX0_bestOffer 16 = .ok (.isub, 1) := by decide +kernel
theorem dX0_bestOffer_17 : decode cX0_bestOffer 17 = .ok (.aload_n 0, 1) := by decide +kernel
theorem dX0_bestOffer_18 : decode cX0_bestOffer 18 = .ok (.iload_n 1, 1) := by decide +kernel
theorem dX0_bestOffer_19 : decode cX0_bestOffer 19 = .ok (.iload_n 2, 1) := by decide +kernel
theorem dX0_bestOffer_20 : decode cX0_bestOffer 20 = .ok (.invokevirtual 25, 3) := by decide +kernel
theorem dX0_bestOffer_23 : decode cX0_bestOffer 23 = .ok (.imul, 1) := by decide +kernel
theorem dX0_bestOffer_24 : decode cX0_bestOffer 24 = .ok (.iastore, 1) := by decide +kernel
theorem dX0_bestOffer_25 : decode cX0_bestOffer 25 = .ok (.iinc 2 1, 3) := by decide +kernel
theorem dX0_bestOffer_28 : decode cX0_bestOffer 28 = .ok (.goto (-26), 3) := by decide +kernel
theorem dX0_bestOffer_31 : decode cX0_bestOffer 31 = .ok (.aload_n 0, 1) := by decide +kernel
theorem dX0_bestOffer_32 : decode cX0_bestOffer 32 = .ok (.getfield 18, 3) := by decide +kernel
theorem dX0_bestOffer_35 : decode cX0_bestOffer 35 = .ok (.invokestatic 29, 3) := by decide +kernel
theorem dX0_bestOffer_38 : decode cX0_bestOffer 38 = .ok (.ireturn, 1) := by decide +kernel
theorem dX1_init_0 : decode cX1_init 0 = .ok (.aload_n 0, 1) := by decide +kernel
theorem dX1_init_1 : decode cX1_init 1 = .ok (.invokespecial 5, 3) := by decide +kernel
theorem dX1_init_4 : decode cX1_init 4 = .ok (.aload_n 0, 1) := by decide +kernel
theorem dX1_init_5 : decode cX1_init 5 = .ok (.sipush 568, 3) := by decide +kernel
theorem dX1_init_8 : decode cX1_init 8 = .ok (.newarray .int, 2) := by decide +kernel
theorem dX1_init_10 : decode cX1_init 10 = .ok (.putfield 11, 3) := by decide +kernel
theorem dX1_init_13 : decode cX1_init 13 = .ok (.return_, 1) := by decide +kernel
theorem dX1_clear_0 : decode cX1_clear 0 = .ok (.aload_n 0, 1) := by decide +kernel
theorem dX1_clear_1 : decode cX1_clear 1 = .ok (.getfield 11, 3) := by decide +kernel
theorem dX1_clear_4 : decode cX1_clear 4 = .ok (.iconst 0, 1) := by decide +kernel
theorem dX1_clear_5 : decode cX1_clear 5 = .ok (.invokestatic 15, 3) := by decide +kernel
theorem dX1_clear_8 : decode cX1_clear 8 = .ok (.aload_n 0, 1) := by decide +kernel
theorem dX1_clear_9 : decode cX1_clear 9 = .ok (.getfield 11, 3) := by decide +kernel
theorem dX1_clear_12 : decode cX1_clear 12 = .ok (.iconst 0, 1) := by decide +kernel
theorem dX1_clear_13 : decode cX1_clear 13 = .ok (.iconst 1, 1) := by decide +kernel
theorem dX1_clear_14 : decode cX1_clear 14 = .ok (.iastore, 1) := by decide +kernel
theorem dX1_clear_15 : decode cX1_clear 15 = .ok (.aload_n 0, 1) := by decide +kernel
theorem dX1_clear_16 : decode cX1_clear 16 = .ok (.iconst 0, 1) := by decide +kernel
theorem dX1_clear_17 : decode cX1_clear 17 = .ok (.putfield 21, 3) := by decide +kernel
theorem dX1_clear_20 : decode cX1_clear 20 = .ok (.aload_n 0, 1) := by decide +kernel
theorem dX1_clear_21 : decode cX1_clear 21 = .ok (.iconst 0, 1) := by decide +kernel
theorem dX1_clear_22 : decode cX1_clear 22 = .ok (.putfield 25, 3) := by decide +kernel
theorem dX1_clear_25 : decode cX1_clear 25 = .ok (.return_, 1) := by decide +kernel
theorem dX1_pool_0 : decode cX1_pool 0 = .ok (.iconst 0, 1) := by decide +kernel
theorem dX1_pool_1 : decode cX1_pool 1 = .ok (.istore_n 2, 1) := by decide +kernel
theorem dX1_pool_2 : decode cX1_pool 2 = .ok (.iload_n 2, 1) := by decide +kernel
theorem dX1_pool_3 : decode cX1_pool 3 = .ok (.bipush 11, 2) := by decide +kernel
theorem dX1_pool_5 : decode cX1_pool 5 = .ok (.if_icmp .ge 32, 3) := by decide +kernel
theorem dX1_pool_8 : decode cX1_pool 8 = .ok (.iconst 0, 1) := by decide +kernel
theorem dX1_pool_9 : decode cX1_pool 9 = .ok (.istore_n 3, 1) := by decide +kernel
theorem dX1_pool_10 : decode cX1_pool 10 = .ok (.iload_n 3, 1) := by decide +kernel
theorem dX1_pool_11 : decode cX1_pool 11 = .ok (.aload_n 1, 1) := by decide +kernel
theorem dX1_pool_12 : decode cX1_pool 12 = .ok (.getfield 28, 3) := by decide +kernel
theorem dX1_pool_15 : decode cX1_pool 15 = .ok (.iload_n 2, 1) := by decide +kernel
theorem dX1_pool_16 : decode cX1_pool 16 = .ok (.iaload, 1) := by decide +kernel
theorem dX1_pool_17 : decode cX1_pool 17 = .ok (.if_icmp .ge 14, 3) := by decide +kernel
theorem dX1_pool_20 : decode cX1_pool 20 = .ok (.aload_n 0, 1) := by decide +kernel
theorem dX1_pool_21 : decode cX1_pool 21 = .ok (.iload_n 2, 1) := by decide +kernel
theorem dX1_pool_22 : decode cX1_pool 22 = .ok (.invokevirtual 33, 3) := by decide +kernel
theorem dX1_pool_25 : decode cX1_pool 25 = .ok (.iinc 3 1, 3) := by decide +kernel
theorem dX1_pool_28 : decode cX1_pool 28 = .ok (.goto (-18), 3) := by decide +kernel
theorem dX1_pool_31 : decode cX1_pool 31 = .ok (.iinc 2 1, 3) := by decide +kernel
theorem dX1_pool_34 : decode cX1_pool 34 = .ok (.goto (-32), 3) := by decide +kernel
theorem dX1_pool_37 : decode cX1_pool 37 = .ok (.return_, 1) := by decide +kernel
theorem dX1_poolOne_0 : decode cX1_poolOne 0 = .ok (.bipush 7, 2) := by decide +kernel
theorem dX1_poolOne_2 : decode cX1_poolOne 2 = .ok (.istore_n 2, 1) := by decide +kernel
theorem dX1_poolOne_3 : decode cX1_poolOne 3 = .ok (.iload_n 2, 1) := by decide +kernel
theorem dX1_poolOne_4 : decode cX1_poolOne 4 = .ok (.ifCond .le 52, 3) := by decide +kernel
theorem dX1_poolOne_7 : decode cX1_poolOne 7 = .ok (.iload_n 1, 1) := by decide +kernel
theorem dX1_poolOne_8 : decode cX1_poolOne 8 = .ok (.istore_n 3, 1) := by decide +kernel
theorem dX1_poolOne_9 : decode cX1_poolOne 9 = .ok (.iload_n 3, 1) := by decide +kernel
theorem dX1_poolOne_10 : decode cX1_poolOne 10 = .ok (.bipush 71, 2) := by decide +kernel
theorem dX1_poolOne_12 : decode cX1_poolOne 12 = .ok (.if_icmp .ge 38, 3) := by decide +kernel
theorem dX1_poolOne_15 : decode cX1_poolOne 15 = .ok (.aload_n 0, 1) := by decide +kernel
theorem dX1_poolOne_16 : decode cX1_poolOne 16 = .ok (.getfield 11, 3) := by decide +kernel
theorem dX1_poolOne_19 : decode cX1_poolOne 19 = .ok (.iload_n 2, 1) := by decide +kernel
theorem dX1_poolOne_20 : decode cX1_poolOne 20 = .ok (.bipush 71, 2) := by decide +kernel
theorem dX1_poolOne_22 : decode cX1_poolOne 22 = .ok (.imul, 1) := by decide +kernel
theorem dX1_poolOne_23 : decode cX1_poolOne 23 = .ok (.iload_n 3, 1) := by decide +kernel
theorem dX1_poolOne_24 : decode cX1_poolOne 24 = .ok (.iadd, 1) := by decide +kernel
theorem dX1_poolOne_25 : decode cX1_poolOne 25 = .ok (.dup2, 1) := by decide +kernel
theorem dX1_poolOne_26 : decode cX1_poolOne 26 = .ok (.iaload, 1) := by decide +kernel
theorem dX1_poolOne_27 : decode cX1_poolOne 27 = .ok (.aload_n 0, 1) := by decide +kernel
theorem dX1_poolOne_28 : decode cX1_poolOne 28 = .ok (.getfield 11, 3) := by decide +kernel
theorem dX1_poolOne_31 : decode cX1_poolOne 31 = .ok (.iload_n 2, 1) := by decide +kernel
theorem dX1_poolOne_32 : decode cX1_poolOne 32 = .ok (.iconst 1, 1) := by decide +kernel
theorem dX1_poolOne_33 : decode cX1_poolOne 33 = .ok (.isub, 1) := by decide +kernel
theorem dX1_poolOne_34 : decode cX1_poolOne 34 = .ok (.bipush 71, 2) := by decide +kernel
theorem dX1_poolOne_36 : decode cX1_poolOne 36 = .ok (.imul, 1) := by decide +kernel
theorem dX1_poolOne_37 : decode cX1_poolOne 37 = .ok (.iload_n 3, 1) := by decide +kernel
theorem dX1_poolOne_38 : decode cX1_poolOne 38 = .ok (.iadd, 1) := by decide +kernel
theorem dX1_poolOne_39 : decode cX1_poolOne 39 = .ok (.iload_n 1, 1) := by decide +kernel
theorem dX1_poolOne_40 : decode cX1_poolOne 40 = .ok (.isub, 1) := by decide +kernel
theorem dX1_poolOne_41 : decode cX1_poolOne 41 = .ok (.iaload, 1) := by decide +kernel
theorem dX1_poolOne_42 : decode cX1_poolOne 42 = .ok (.iadd, 1) := by decide +kernel
theorem dX1_poolOne_43 : decode cX1_poolOne 43 = .ok (.iastore, 1) := by decide +kernel
theorem dX1_poolOne_44 : decode cX1_poolOne 44 = .ok (.iinc 3 1, 3) := by decide +kernel
theorem dX1_poolOne_47 : decode cX1_poolOne 47 = .ok (.goto (-38), 3) := by decide +kernel
theorem dX1_poolOne_50 : decode cX1_poolOne 50 = .ok (.iinc 2 (-1), 3) := by decide +kernel
theorem dX1_poolOne_53 : decode cX1_poolOne 53 = .ok (.goto (-50), 3) := by decide +kernel
theorem dX1_poolOne_56 : decode cX1_poolOne 56 = .ok (.aload_n 0, 1) := by decide +kernel
theorem dX1_poolOne_57 : decode cX1_poolOne 57 = .ok (.dup, 1) := by decide +kernel
theorem dX1_poolOne_58 : decode cX1_poolOne 58 = .ok (.getfield 21, 3) := by decide +kernel
theorem dX1_poolOne_61 : decode cX1_poolOne 61 = .ok (.iconst 1, 1) := by decide +kernel
theorem dX1_poolOne_62 : decode cX1_poolOne 62 = .ok (.iadd, 1) := by decide +kernel
theorem dX1_poolOne_63 : decode cX1_poolOne 63 = .ok (.putfield 21, 3) := by decide +kernel
theorem dX1_poolOne_66 : decode cX1_poolOne 66 = .ok (.aload_n 0, 1) := by decide +kernel
theorem dX1_poolOne_67 : decode cX1_poolOne 67 = .ok (.dup, 1) := by decide +kernel
theorem dX1_poolOne_68 : decode cX1_poolOne 68 = .ok (.getfield 25, 3) := by decide +kernel
theorem dX1_poolOne_71 : decode cX1_poolOne 71 = .ok (.iload_n 1, 1) := by decide +kernel
theorem dX1_poolOne_72 : decode cX1_poolOne 72 = .ok (.iadd, 1) := by decide +kernel
theorem dX1_poolOne_73 : decode cX1_poolOne 73 = .ok (.putfield 25, 3) := by decide +kernel
theorem dX1_poolOne_76 : decode cX1_poolOne 76 = .ok (.return_, 1) := by decide +kernel
theorem dX1_asFarApart_0 : decode cX1_asFarApart 0 = .ok (.aload_n 1, 1) := by decide +kernel
theorem dX1_asFarApart_1 : decode cX1_asFarApart 1 = .ok (.getfield 37, 3) := by decide +kernel
theorem dX1_asFarApart_4 : decode cX1_asFarApart 4 = .ok (.bipush 7, 2) := by decide +kernel
theorem dX1_asFarApart_6 : decode cX1_asFarApart 6 = .ok (.if_icmp .le 5, 3) := by decide +kernel
theorem dX1_asFarApart_9 : decode cX1_asFarApart 9 = .ok (.iconst 0, 1) := by decide +kernel
theorem dX1_asFarApart_10 : decode cX1_asFarApart 10 = .ok (.ireturn, 1) := by decide +kernel
theorem dX1_asFarApart_11 : decode cX1_asFarApart 11 = .ok (.aload_n 0, 1) := by decide +kernel
theorem dX1_asFarApart_12 : decode cX1_asFarApart 12 = .ok (.aload_n 1, 1) := by decide +kernel
theorem dX1_asFarApart_13 : decode cX1_asFarApart 13 = .ok (.getfield 37, 3) := by decide +kernel
theorem dX1_asFarApart_16 : decode cX1_asFarApart 16 = .ok (.aload_n 1, 1) := by decide +kernel
theorem dX1_asFarApart_17 : decode cX1_asFarApart 17 = .ok (.getfield 40, 3) := by decide +kernel
theorem dX1_asFarApart_20 : decode cX1_asFarApart 20 = .ok (.invokevirtual 43, 3) := by decide +kernel
theorem dX1_asFarApart_23 : decode cX1_asFarApart 23 = .ok (.istore_n 2, 1) := by decide +kernel
theorem dX1_asFarApart_24 : decode cX1_asFarApart 24 = .ok (.iconst 0, 1) := by decide +kernel
theorem dX1_asFarApart_25 : decode cX1_asFarApart 25 = .ok (.istore_n 3, 1) := by decide +kernel
theorem dX1_asFarApart_26 : decode cX1_asFarApart 26 = .ok (.iconst 0, 1) := by decide +kernel
theorem dX1_asFarApart_27 : decode cX1_asFarApart 27 = .ok (.istore 4, 2) := by decide +kernel
theorem dX1_asFarApart_29 : decode cX1_asFarApart 29 = .ok (.iconst 0, 1) := by decide +kernel
theorem dX1_asFarApart_30 : decode cX1_asFarApart 30 = .ok (.istore 5, 2) := by decide +kernel
theorem dX1_asFarApart_32 : decode cX1_asFarApart 32 = .ok (.iload 5, 2) := by decide +kernel
theorem dX1_asFarApart_34 : decode cX1_asFarApart 34 = .ok (.bipush 71, 2) := by decide +kernel
theorem dX1_asFarApart_36 : decode cX1_asFarApart 36 = .ok (.if_icmp .ge 56, 3) := by decide +kernel
theorem dX1_asFarApart_39 : decode cX1_asFarApart 39 = .ok (.aload_n 0, 1) := by decide +kernel
theorem dX1_asFarApart_40 : decode cX1_asFarApart 40 = .ok (.getfield 11, 3) := by decide +kernel
theorem dX1_asFarApart_43 : decode cX1_asFarApart 43 = .ok (.aload_n 1, 1) := by decide +kernel
theorem dX1_asFarApart_44 : decode cX1_asFarApart 44 = .ok (.getfield 37, 3) := by decide +kernel
theorem dX1_asFarApart_47 : decode cX1_asFarApart 47 = .ok (.bipush 71, 2) := by decide +kernel
theorem dX1_asFarApart_49 : decode cX1_asFarApart 49 = .ok (.imul, 1) := by decide +kernel
theorem dX1_asFarApart_50 : decode cX1_asFarApart 50 = .ok (.iload 5, 2) := by decide +kernel
theorem dX1_asFarApart_52 : decode cX1_asFarApart 52 = .ok (.iadd, 1) := by decide +kernel
theorem dX1_asFarApart_53 : decode cX1_asFarApart 53 = .ok (.iaload, 1) := by decide +kernel
theorem dX1_asFarApart_54 : decode cX1_asFarApart 54 = .ok (.istore 6, 2) := by decide +kernel
theorem dX1_asFarApart_56 : decode cX1_asFarApart 56 = .ok (.iload_n 3, 1) := by decide +kernel
theorem dX1_asFarApart_57 : decode cX1_asFarApart 57 = .ok (.iload 6, 2) := by decide +kernel
theorem dX1_asFarApart_59 : decode cX1_asFarApart 59 = .ok (.iadd, 1) := by decide +kernel
theorem dX1_asFarApart_60 : decode cX1_asFarApart 60 = .ok (.istore_n 3, 1) := by decide +kernel
theorem dX1_asFarApart_61 : decode cX1_asFarApart 61 = .ok (.iload 4, 2) := by decide +kernel
theorem dX1_asFarApart_63 : decode cX1_asFarApart 63 = .ok (.aload_n 0, 1) := by decide +kernel
theorem dX1_asFarApart_64 : decode cX1_asFarApart 64 = .ok (.aload_n 1, 1) := by decide +kernel
theorem dX1_asFarApart_65 : decode cX1_asFarApart 65 = .ok (.getfield 37, 3) := by decide +kernel
theorem dX1_asFarApart_68 : decode cX1_asFarApart 68 = .ok (.iload 5, 2) := by decide +kernel
theorem dX1_asFarApart_70 : decode cX1_asFarApart 70 = .ok (.invokevirtual 43, 3) := by decide +kernel
theorem dX1_asFarApart_73 : decode cX1_asFarApart 73 = .ok (.iload_n 2, 1) := by decide +kernel
theorem dX1_asFarApart_74 : decode cX1_asFarApart 74 = .ok (.if_icmp .lt 8, 3) := by decide +kernel
theorem dX1_asFarApart_77 : decode cX1_asFarApart 77 = .ok (.iload 6, 2) := by decide +kernel
theorem dX1_asFarApart_79 : decode cX1_asFarApart 79 = .ok (.goto 4, 3) := by decide +kernel
theorem dX1_asFarApart_82 : decode cX1_asFarApart 82 = .ok (.iconst 0, 1) := by decide +kernel
theorem dX1_asFarApart_83 : decode cX1_asFarApart 83 = .ok (.iadd, 1) := by decide +kernel
theorem dX1_asFarApart_84 : decode cX1_asFarApart 84 = .ok (.istore 4, 2) := by decide +kernel
theorem dX1_asFarApart_86 : decode cX1_asFarApart 86 = .ok (.iinc 5 1, 3) := by decide +kernel
theorem dX1_asFarApart_89 : decode cX1_asFarApart 89 = .ok (.goto (-57), 3) := by decide +kernel
theorem dX1_asFarApart_92 : decode cX1_asFarApart 92 = .ok (.iload 4, 2) := by decide +kernel
theorem dX1_asFarApart_94 : decode cX1_asFarApart 94 = .ok (.iload_n 3, 1) := by decide +kernel
theorem dX1_asFarApart_95 : decode cX1_asFarApart 95 = .ok (.invokestatic 47, 3) := by decide +kernel
theorem dX1_asFarApart_98 : decode cX1_asFarApart 98 = .ok (.ireturn, 1) := by decide +kernel
theorem dX1_apart_0 : decode cX1_apart 0 = .ok (.iload_n 2, 1) := by decide +kernel
theorem dX1_apart_1 : decode cX1_apart 1 = .ok (.aload_n 0, 1) := by decide +kernel
theorem dX1_apart_2 : decode cX1_apart 2 = .ok (.getfield 21, 3) := by decide +kernel
theorem dX1_apart_5 : decode cX1_apart 5 = .ok (.imul, 1) := by decide +kernel
theorem dX1_apart_6 : decode cX1_apart 6 = .ok (.aload_n 0, 1) := by decide +kernel
theorem dX1_apart_7 : decode cX1_apart 7 = .ok (.getfield 25, 3) := by decide +kernel
theorem dX1_apart_10 : decode cX1_apart 10 = .ok (.iload_n 1, 1) := by decide +kernel
theorem dX1_apart_11 : decode cX1_apart 11 = .ok (.imul, 1) := by decide +kernel
theorem dX1_apart_12 : decode cX1_apart 12 = .ok (.isub, 1) := by decide +kernel
theorem dX1_apart_13 : decode cX1_apart 13 = .ok (.invokestatic 50, 3) := by decide +kernel
theorem dX1_apart_16 : decode cX1_apart 16 = .ok (.ireturn, 1) := by decide +kernel
theorem dX2_init_0 : decode cX2_init 0 = .ok (.aload_n 0, 1) := by decide +kernel
theorem dX2_init_1 : decode cX2_init 1 = .ok (.invokespecial 3, 3) := by decide +kernel
theorem dX2_init_4 : decode cX2_init 4 = .ok (.aload_n 0, 1) := by decide +kernel
theorem dX2_init_5 : decode cX2_init 5 = .ok (.bipush 60, 2) := by decide +kernel
theorem dX2_init_7 : decode cX2_init 7 = .ok (.newarray .int, 2) := by decide +kernel
theorem dX2_init_9 : decode cX2_init 9 = .ok (.putfield 11, 3) := by decide +kernel
theorem dX2_init_12 : decode cX2_init 12 = .ok (.aload_n 0, 1) := by decide +kernel
theorem dX2_init_13 : decode cX2_init 13 = .ok (.bipush 60, 2) := by decide +kernel
theorem dX2_init_15 : decode cX2_init 15 = .ok (.newarray .int, 2) := by decide +kernel
theorem dX2_init_17 : decode cX2_init 17 = .ok (.putfield 15, 3) := by decide +kernel
theorem dX2_init_20 : decode cX2_init 20 = .ok (.aload_n 0, 1) := by decide +kernel
theorem dX2_init_21 : decode cX2_init 21 = .ok (.bipush 60, 2) := by decide +kernel
theorem dX2_init_23 : decode cX2_init 23 = .ok (.newarray .int, 2) := by decide +kernel
theorem dX2_init_25 : decode cX2_init 25 = .ok (.putfield 18, 3) := by decide +kernel
theorem dX2_init_28 : decode cX2_init 28 = .ok (.aload_n 0, 1) := by decide +kernel
theorem dX2_init_29 : decode cX2_init 29 = .ok (.bipush 60, 2) := by decide +kernel
theorem dX2_init_31 : decode cX2_init 31 = .ok (.newarray .int, 2) := by decide +kernel
theorem dX2_init_33 : decode cX2_init 33 = .ok (.putfield 21, 3) := by decide +kernel
theorem dX2_init_36 : decode cX2_init 36 = .ok (.aload_n 0, 1) := by decide +kernel
theorem dX2_init_37 : decode cX2_init 37 = .ok (.sipush 180, 3) := by decide +kernel
theorem dX2_init_40 : decode cX2_init 40 = .ok (.newarray .int, 2) := by decide +kernel
theorem dX2_init_42 : decode cX2_init 42 = .ok (.putfield 24, 3) := by decide +kernel
theorem dX2_init_45 : decode cX2_init 45 = .ok (.aload_n 0, 1) := by decide +kernel
theorem dX2_init_46 : decode cX2_init 46 = .ok (.bipush 60, 2) := by decide +kernel
theorem dX2_init_48 : decode cX2_init 48 = .ok (.newarray .int, 2) := by decide +kernel
theorem dX2_init_50 : decode cX2_init 50 = .ok (.putfield 27, 3) := by decide +kernel
theorem dX2_init_53 : decode cX2_init 53 = .ok (.aload_n 0, 1) := by decide +kernel
theorem dX2_init_54 : decode cX2_init 54 = .ok (.bipush 60, 2) := by decide +kernel
theorem dX2_init_56 : decode cX2_init 56 = .ok (.newarray .int, 2) := by decide +kernel
theorem dX2_init_58 : decode cX2_init 58 = .ok (.putfield 30, 3) := by decide +kernel
theorem dX2_init_61 : decode cX2_init 61 = .ok (.aload_n 0, 1) := by decide +kernel
theorem dX2_init_62 : decode cX2_init 62 = .ok (.iconst (-1), 1) := by decide +kernel
theorem dX2_init_63 : decode cX2_init 63 = .ok (.putfield 33, 3) := by decide +kernel
theorem dX2_init_66 : decode cX2_init 66 = .ok (.aload_n 0, 1) := by decide +kernel
theorem dX2_init_67 : decode cX2_init 67 = .ok (.iconst 0, 1) := by decide +kernel
theorem dX2_init_68 : decode cX2_init 68 = .ok (.putfield 37, 3) := by decide +kernel
theorem dX2_init_71 : decode cX2_init 71 = .ok (.aload_n 0, 1) := by decide +kernel
theorem dX2_init_72 : decode cX2_init 72 = .ok (.iconst (-1), 1) := by decide +kernel
theorem dX2_init_73 : decode cX2_init 73 = .ok (.putfield 40, 3) := by decide +kernel
theorem dX2_init_76 : decode cX2_init 76 = .ok (.return_, 1) := by decide +kernel
theorem dX2_add_0 : decode cX2_add 0 = .ok (.aload_n 0, 1) := by decide +kernel
theorem dX2_add_1 : decode cX2_add 1 = .ok (.getfield 43, 3) := by decide +kernel
theorem dX2_add_4 : decode cX2_add 4 = .ok (.bipush 60, 2) := by decide +kernel
theorem dX2_add_6 : decode cX2_add 6 = .ok (.if_icmp .lt 6, 3) := by decide +kernel
theorem dX2_add_9 : decode cX2_add 9 = .ok (.bipush (-4), 2) := by decide +kernel
theorem dX2_add_11 : decode cX2_add 11 = .ok (.ireturn, 1) := by decide +kernel
theorem dX2_add_12 : decode cX2_add 12 = .ok (.aload_n 0, 1) := by decide +kernel
theorem dX2_add_13 : decode cX2_add 13 = .ok (.getfield 33, 3) := by decide +kernel
theorem dX2_add_16 : decode cX2_add 16 = .ok (.iconst (-1), 1) := by decide +kernel
theorem dX2_add_17 : decode cX2_add 17 = .ok (.if_icmp .ne 19, 3) := by decide +kernel
theorem dX2_add_20 : decode cX2_add 20 = .ok (.aload_n 0, 1) := by decide +kernel
theorem dX2_add_21 : decode cX2_add 21 = .ok (.iload_n 1, 1) := by decide +kernel
theorem dX2_add_22 : decode cX2_add 22 = .ok (.invokevirtual 46, 3) := by decide +kernel
theorem dX2_add_25 : decode cX2_add 25 = .ok (.ifCond .ne 11, 3) := by decide +kernel
theorem dX2_add_28 : decode cX2_add 28 = .ok (.aload_n 0, 1) := by decide +kernel
theorem dX2_add_29 : decode cX2_add 29 = .ok (.aload_n 0, 1) := by decide +kernel
theorem dX2_add_30 : decode cX2_add 30 = .ok (.getfield 43, 3) := by decide +kernel
theorem dX2_add_33 : decode cX2_add 33 = .ok (.putfield 33, 3) := by decide +kernel
theorem dX2_add_36 : decode cX2_add 36 = .ok (.aload_n 0, 1) := by decide +kernel
theorem dX2_add_37 : decode cX2_add 37 = .ok (.dup, 1) := by decide +kernel
theorem dX2_add_38 : decode cX2_add 38 = .ok (.getfield 43, 3) := by decide +kernel
theorem dX2_add_41 : decode cX2_add 41 = .ok (.iconst 1, 1) := by decide +kernel
theorem dX2_add_42 : decode cX2_add 42 = .ok (.iadd, 1) := by decide +kernel
theorem dX2_add_43 : decode cX2_add 43 = .ok (.putfield 43, 3) := by decide +kernel
theorem dX2_add_46 : decode cX2_add 46 = .ok (.aload_n 0, 1) := by decide +kernel
theorem dX2_add_47 : decode cX2_add 47 = .ok (.getfield 43, 3) := by decide +kernel
theorem dX2_add_50 : decode cX2_add 50 = .ok (.ireturn, 1) := by decide +kernel
theorem dX2_clear_0 : decode cX2_clear 0 = .ok (.aload_n 0, 1) := by decide +kernel
theorem dX2_clear_1 : decode cX2_clear 1 = .ok (.getfield 43, 3) := by decide +kernel
theorem dX2_clear_4 : decode cX2_clear 4 = .ok (.istore_n 1, 1) := by decide +kernel
theorem dX2_clear_5 : decode cX2_clear 5 = .ok (.aload_n 0, 1) := by decide +kernel
theorem dX2_clear_6 : decode cX2_clear 6 = .ok (.iconst 0, 1) := by decide +kernel
theorem dX2_clear_7 : decode cX2_clear 7 = .ok (.putfield 43, 3) := by decide +kernel
theorem dX2_clear_10 : decode cX2_clear 10 = .ok (.aload_n 0, 1) := by decide +kernel
theorem dX2_clear_11 : decode cX2_clear 11 = .ok (.iconst (-1), 1) := by decide +kernel
theorem dX2_clear_12 : decode cX2_clear 12 = .ok (.putfield 33, 3) := by decide +kernel
theorem dX2_clear_15 : decode cX2_clear 15 = .ok (.aload_n 0, 1) := by decide +kernel
theorem dX2_clear_16 : decode cX2_clear 16 = .ok (.iconst 0, 1) := by decide +kernel
theorem dX2_clear_17 : decode cX2_clear 17 = .ok (.putfield 37, 3) := by decide +kernel
theorem dX2_clear_20 : decode cX2_clear 20 = .ok (.aload_n 0, 1) := by decide +kernel
theorem dX2_clear_21 : decode cX2_clear 21 = .ok (.iconst (-1), 1) := by decide +kernel
theorem dX2_clear_22 : decode cX2_clear 22 = .ok (.putfield 40, 3) := by decide +kernel
theorem dX2_clear_25 : decode cX2_clear 25 = .ok (.aload_n 0, 1) := by decide +kernel
theorem dX2_clear_26 : decode cX2_clear 26 = .ok (.iconst 0, 1) := by decide +kernel
theorem dX2_clear_27 : decode cX2_clear 27 = .ok (.putfield 50, 3) := by decide +kernel
theorem dX2_clear_30 : decode cX2_clear 30 = .ok (.aload_n 0, 1) := by decide +kernel
theorem dX2_clear_31 : decode cX2_clear 31 = .ok (.iconst 0, 1) := by decide +kernel
theorem dX2_clear_32 : decode cX2_clear 32 = .ok (.putfield 53, 3) := by decide +kernel
theorem dX2_clear_35 : decode cX2_clear 35 = .ok (.iload_n 1, 1) := by decide +kernel
theorem dX2_clear_36 : decode cX2_clear 36 = .ok (.ireturn, 1) := by decide +kernel
theorem dX2_faultPlace_0 : decode cX2_faultPlace 0 = .ok (.aload_n 0, 1) := by decide +kernel
theorem dX2_faultPlace_1 : decode cX2_faultPlace 1 = .ok (.getfield 33, 3) := by decide +kernel
theorem dX2_faultPlace_4 : decode cX2_faultPlace 4 = .ok (.iconst (-1), 1) := by decide +kernel
theorem dX2_faultPlace_5 : decode cX2_faultPlace 5 = .ok (.if_icmp .eq 8, 3) := by decide +kernel
theorem dX2_faultPlace_8 : decode cX2_faultPlace 8 = .ok (.aload_n 0, 1) := by decide +kernel
theorem dX2_faultPlace_9 : decode cX2_faultPlace 9 = .ok (.getfield 33, 3) := by decide +kernel
theorem dX2_faultPlace_12 : decode cX2_faultPlace 12 = .ok (.ireturn, 1) := by decide +kernel
theorem dX2_faultPlace_13 : decode cX2_faultPlace 13 = .ok (.aload_n 0, 1) := by decide +kernel
theorem dX2_faultPlace_14 : decode cX2_faultPlace 14 = .ok (.getfield 37, 3) := by decide +kernel
theorem dX2_faultPlace_17 : decode cX2_faultPlace 17 = .ok (.iconst 4, 1) := by decide +kernel
theorem dX2_faultPlace_18 : decode cX2_faultPlace 18 = .ok (.if_icmp .ne 15, 3) := by decide +kernel
theorem dX2_faultPlace_21 : decode cX2_faultPlace 21 = .ok (.aload_n 0, 1) := by decide +kernel
theorem dX2_faultPlace_22 : decode cX2_faultPlace 22 = .ok (.getfield 40, 3) := by decide +kernel
theorem dX2_faultPlace_25 : decode cX2_faultPlace 25 = .ok (.iconst (-1), 1) := by decide +kernel
theorem dX2_faultPlace_26 : decode cX2_faultPlace 26 = .ok (.if_icmp .ne 7, 3) := by decide +kernel
theorem dX2_faultPlace_29 : decode cX2_faultPlace 29 = .ok (.iconst (-1), 1) := by decide +kernel
theorem dX2_faultPlace_30 : decode cX2_faultPlace 30 = .ok (.goto 7, 3) := by decide +kernel
theorem dX2_faultPlace_33 : decode cX2_faultPlace 33 = .ok (.aload_n 0, 1) := by decide +kernel
theorem dX2_faultPlace_34 : decode cX2_faultPlace 34 = .ok (.getfield 43, 3) := by decide +kernel
theorem dX2_faultPlace_37 : decode cX2_faultPlace 37 = .ok (.ireturn, 1) := by decide +kernel
theorem dX2_goesOn_0 : decode cX2_goesOn 0 = .ok (.aload_n 0, 1) := by decide +kernel
theorem dX2_goesOn_1 : decode cX2_goesOn 1 = .ok (.getfield 37, 3) := by decide +kernel
theorem dX2_goesOn_4 : decode cX2_goesOn 4 = .ok (.tableswitch 60 0 3 #[32, 38, 44, 52], 32) := by decide +kernel
theorem dX2_goesOn_36 : decode cX2_goesOn 36 = .ok (.aload_n 0, 1) := by decide +kernel
theorem dX2_goesOn_37 : decode cX2_goesOn 37 = .ok (.iload_n 1, 1) := by decide +kernel
theorem dX2_goesOn_38 : decode cX2_goesOn 38 = .ok (.invokevirtual 56, 3) := by decide +kernel
theorem dX2_goesOn_41 : decode cX2_goesOn 41 = .ok (.ireturn, 1) := by decide +kernel
theorem dX2_goesOn_42 : decode cX2_goesOn 42 = .ok (.aload_n 0, 1) := by decide +kernel
theorem dX2_goesOn_43 : decode cX2_goesOn 43 = .ok (.iload_n 1, 1) := by decide +kernel
theorem dX2_goesOn_44 : decode cX2_goesOn 44 = .ok (.invokevirtual 59, 3) := by decide +kernel
theorem dX2_goesOn_47 : decode cX2_goesOn 47 = .ok (.ireturn, 1) := by decide +kernel
theorem dX2_goesOn_48 : decode cX2_goesOn 48 = .ok (.aload_n 0, 1) := by decide +kernel
theorem dX2_goesOn_49 : decode cX2_goesOn 49 = .ok (.iload_n 1, 1) := by decide +kernel
theorem dX2_goesOn_50 : decode cX2_goesOn 50 = .ok (.iconst 1, 1) := by decide +kernel
theorem dX2_goesOn_51 : decode cX2_goesOn 51 = .ok (.iconst 3, 1) := by decide +kernel
theorem dX2_goesOn_52 : decode cX2_goesOn 52 = .ok (.invokevirtual 62, 3) := by decide +kernel
theorem dX2_goesOn_55 : decode cX2_goesOn 55 = .ok (.ireturn, 1) := by decide +kernel
theorem dX2_goesOn_56 : decode cX2_goesOn 56 = .ok (.aload_n 0, 1) := by decide +kernel
theorem dX2_goesOn_57 : decode cX2_goesOn 57 = .ok (.iload_n 1, 1) := by decide +kernel
theorem dX2_goesOn_58 : decode cX2_goesOn 58 = .ok (.iconst 2, 1) := by decide +kernel
theorem dX2_goesOn_59 : decode cX2_goesOn 59 = .ok (.iconst 4, 1) := by decide +kernel
theorem dX2_goesOn_60 : decode cX2_goesOn 60 = .ok (.invokevirtual 62, 3) := by decide +kernel
theorem dX2_goesOn_63 : decode cX2_goesOn 63 = .ok (.ireturn, 1) := by decide +kernel
theorem dX2_goesOn_64 : decode cX2_goesOn 64 = .ok (.aload_n 0, 1) := by decide +kernel
theorem dX2_goesOn_65 : decode cX2_goesOn 65 = .ok (.iload_n 1, 1) := by decide +kernel
theorem dX2_goesOn_66 : decode cX2_goesOn 66 = .ok (.invokevirtual 66, 3) := by decide +kernel
theorem dX2_goesOn_69 : decode cX2_goesOn 69 = .ok (.ireturn, 1) := by decide +kernel
theorem dX2_beginsNode_0 : decode cX2_beginsNode 0 = .ok (.iload_n 1, 1) := by decide +kernel
theorem dX2_beginsNode_1 : decode cX2_beginsNode 1 = .ok (.invokestatic 69, 3) := by decide +kernel
theorem dX2_beginsNode_4 : decode cX2_beginsNode 4 = .ok (.istore_n 2, 1) := by decide +kernel
theorem dX2_beginsNode_5 : decode cX2_beginsNode 5 = .ok (.iload_n 2, 1) := by decide +kernel
theorem dX2_beginsNode_6 : decode cX2_beginsNode 6 = .ok (.iconst (-1), 1) := by decide +kernel
theorem dX2_beginsNode_7 : decode cX2_beginsNode 7 = .ok (.if_icmp .ne 12, 3) := by decide +kernel
theorem dX2_beginsNode_10 : decode cX2_beginsNode 10 = .ok (.iload_n 1, 1) := by decide +kernel
theorem dX2_beginsNode_11 : decode cX2_beginsNode 11 = .ok (.invokestatic 73, 3) := by decide +kernel
theorem dX2_beginsNode_14 : decode cX2_beginsNode 14 = .ok (.ifCond .ne 5, 3) := by decide +kernel
theorem dX2_beginsNode_17 : decode cX2_beginsNode 17 = .ok (.iconst 0, 1) := by decide +kernel
theorem dX2_beginsNode_18 : decode cX2_beginsNode 18 = .ok (.ireturn, 1) := by decide +kernel
theorem dX2_beginsNode_19 : decode cX2_beginsNode 19 = .ok (.aload_n 0, 1) := by decide +kernel
theorem dX2_beginsNode_20 : decode cX2_beginsNode 20 = .ok (.iload_n 2, 1) := by decide +kernel
theorem dX2_beginsNode_21 : decode cX2_beginsNode 21 = .ok (.invokevirtual 76, 3) := by decide +kernel
theorem dX2_beginsNode_24 : decode cX2_beginsNode 24 = .ok (.iload_n 2, 1) := by decide +kernel
theorem dX2_beginsNode_25 : decode cX2_beginsNode 25 = .ok (.iconst (-1), 1) := by decide +kernel
theorem dX2_beginsNode_26 : decode cX2_beginsNode 26 = .ok (.if_icmp .ne 21, 3) := by decide +kernel
theorem dX2_beginsNode_29 : decode cX2_beginsNode 29 = .ok (.aload_n 0, 1) := by decide +kernel
theorem dX2_beginsNode_30 : decode cX2_beginsNode 30 = .ok (.dup, 1) := by decide +kernel
theorem dX2_beginsNode_31 : decode cX2_beginsNode 31 = .ok (.getfield 53, 3) := by decide +kernel
theorem dX2_beginsNode_34 : decode cX2_beginsNode 34 = .ok (.iconst 1, 1) := by decide +kernel
theorem dX2_beginsNode_35 : decode cX2_beginsNode 35 = .ok (.iadd, 1) := by decide +kernel
theorem dX2_beginsNode_36 : decode cX2_beginsNode 36 = .ok (.putfield 53, 3) := by decide +kernel
theorem dX2_beginsNode_39 : decode cX2_beginsNode 39 = .ok (.aload_n 0, 1) := by decide +kernel
theorem dX2_beginsNode_40 : decode cX2_beginsNode 40 = .ok (.iload_n 1, 1) := by decide +kernel
theorem dX2_beginsNode_41 : decode cX2_beginsNode 41 = .ok (.iconst 0, 1) := by decide +kernel
theorem dX2_beginsNode_42 : decode cX2_beginsNode 42 = .ok (.iconst 2, 1) := by decide +kernel
theorem dX2_beginsNode_43 : decode cX2_beginsNode 43 = .ok (.invokevirtual 62, 3) := by decide +kernel
theorem dX2_beginsNode_46 : decode cX2_beginsNode 46 = .ok (.ireturn, 1) := by decide +kernel
theorem dX2_beginsNode_47 : decode cX2_beginsNode 47 = .ok (.aload_n 0, 1) := by decide +kernel
theorem dX2_beginsNode_48 : decode cX2_beginsNode 48 = .ok (.iconst 1, 1) := by decide +kernel
theorem dX2_beginsNode_49 : decode cX2_beginsNode 49 = .ok (.putfield 37, 3) := by decide +kernel
theorem dX2_beginsNode_52 : decode cX2_beginsNode 52 = .ok (.iconst 1, 1) := by decide +kernel
theorem dX2_beginsNode_53 : decode cX2_beginsNode 53 = .ok (.ireturn, 1) := by decide +kernel
theorem dX2_startNode_0 : decode cX2_startNode 0 = .ok (.aload_n 0, 1) := by decide +kernel
theorem dX2_startNode_1 : decode cX2_startNode 1 = .ok (.getfield 11, 3) := by decide +kernel
theorem dX2_startNode_4 : decode cX2_startNode 4 = .ok (.aload_n 0, 1) := by decide +kernel
theorem dX2_startNode_5 : decode cX2_startNode 5 = .ok (.getfield 50, 3) := by decide +kernel
theorem dX2_startNode_8 : decode cX2_startNode 8 = .ok (.iload_n 1, 1) := by decide +kernel
theorem dX2_startNode_9 : decode cX2_startNode 9 = .ok (.iastore, 1) := by decide +kernel
theorem dX2_startNode_10 : decode cX2_startNode 10 = .ok (.aload_n 0, 1) := by decide +kernel
theorem dX2_startNode_11 : decode cX2_startNode 11 = .ok (.getfield 15, 3) := by decide +kernel
theorem dX2_startNode_14 : decode cX2_startNode 14 = .ok (.aload_n 0, 1) := by decide +kernel
theorem dX2_startNode_15 : decode cX2_startNode 15 = .ok (.getfield 50, 3) := by decide +kernel
theorem dX2_startNode_18 : decode cX2_startNode 18 = .ok (.aload_n 0, 1) := by decide +kernel
theorem dX2_startNode_19 : decode cX2_startNode 19 = .ok (.getfield 40, 3) := by decide +kernel
theorem dX2_startNode_22 : decode cX2_startNode 22 = .ok (.iastore, 1) := by decide +kernel
theorem dX2_startNode_23 : decode cX2_startNode 23 = .ok (.aload_n 0, 1) := by decide +kernel
theorem dX2_startNode_24 : decode cX2_startNode 24 = .ok (.getfield 21, 3) := by decide +kernel
theorem dX2_startNode_27 : decode cX2_startNode 27 = .ok (.aload_n 0, 1) := by decide +kernel
theorem dX2_startNode_28 : decode cX2_startNode 28 = .ok (.getfield 50, 3) := by decide +kernel
theorem dX2_startNode_31 : decode cX2_startNode 31 = .ok (.iconst 0, 1) := by decide +kernel
theorem dX2_startNode_32 : decode cX2_startNode 32 = .ok (.iastore, 1) := by decide +kernel
theorem dX2_startNode_33 : decode cX2_startNode 33 = .ok (.aload_n 0, 1) := by decide +kernel
theorem dX2_startNode_34 : decode cX2_startNode 34 = .ok (.getfield 40, 3) := by decide +kernel
theorem dX2_startNode_37 : decode cX2_startNode 37 = .ok (.iconst (-1), 1) := by decide +kernel
theorem dX2_startNode_38 : decode cX2_startNode 38 = .ok (.if_icmp .eq 34, 3) := by decide +kernel
theorem dX2_startNode_41 : decode cX2_startNode 41 = .ok (.aload_n 0, 1) := by decide +kernel
theorem dX2_startNode_42 : decode cX2_startNode 42 = .ok (.getfield 18, 3) := by decide +kernel
theorem dX2_startNode_45 : decode cX2_startNode 45 = .ok (.aload_n 0, 1) := by decide +kernel
theorem dX2_startNode_46 : decode cX2_startNode 46 = .ok (.getfield 50, 3) := by decide +kernel
theorem dX2_startNode_49 : decode cX2_startNode 49 = .ok (.aload_n 0, 1) := by decide +kernel
theorem dX2_startNode_50 : decode cX2_startNode 50 = .ok (.getfield 21, 3) := by decide +kernel
theorem dX2_startNode_53 : decode cX2_startNode 53 = .ok (.aload_n 0, 1) := by decide +kernel
theorem dX2_startNode_54 : decode cX2_startNode 54 = .ok (.getfield 40, 3) := by decide +kernel
theorem dX2_startNode_57 : decode cX2_startNode 57 = .ok (.iaload, 1) := by decide +kernel
theorem dX2_startNode_58 : decode cX2_startNode 58 = .ok (.iastore, 1) := by decide +kernel
theorem dX2_startNode_59 : decode cX2_startNode 59 = .ok (.aload_n 0, 1) := by decide +kernel
theorem dX2_startNode_60 : decode cX2_startNode 60 = .ok (.getfield 21, 3) := by decide +kernel
theorem dX2_startNode_63 : decode cX2_startNode 63 = .ok (.aload_n 0, 1) := by decide +kernel
theorem dX2_startNode_64 : decode cX2_startNode 64 = .ok (.getfield 40, 3) := by decide +kernel
theorem dX2_startNode_67 : decode cX2_startNode 67 = .ok (.dup2, 1) := by decide +kernel
theorem dX2_startNode_68 : decode cX2_startNode 68 = .ok (.iaload, 1) := by decide +kernel
theorem dX2_startNode_69 : decode cX2_startNode 69 = .ok (.iconst 1, 1) := by decide +kernel
theorem dX2_startNode_70 : decode cX2_startNode 70 = .ok (.iadd, 1) := by decide +kernel
theorem dX2_startNode_71 : decode cX2_startNode 71 = .ok (.iastore, 1) := by decide +kernel
theorem dX2_startNode_72 : decode cX2_startNode 72 = .ok (.aload_n 0, 1) := by decide +kernel
theorem dX2_startNode_73 : decode cX2_startNode 73 = .ok (.dup, 1) := by decide +kernel
theorem dX2_startNode_74 : decode cX2_startNode 74 = .ok (.getfield 50, 3) := by decide +kernel
theorem dX2_startNode_77 : decode cX2_startNode 77 = .ok (.iconst 1, 1) := by decide +kernel
theorem dX2_startNode_78 : decode cX2_startNode 78 = .ok (.iadd, 1) := by decide +kernel
theorem dX2_startNode_79 : decode cX2_startNode 79 = .ok (.putfield 50, 3) := by decide +kernel
theorem dX2_startNode_82 : decode cX2_startNode 82 = .ok (.return_, 1) := by decide +kernel
theorem dX2_opens_0 : decode cX2_opens 0 = .ok (.iload_n 1, 1) := by decide +kernel
theorem dX2_opens_1 : decode cX2_opens 1 = .ok (.bipush 40, 2) := by decide +kernel
theorem dX2_opens_3 : decode cX2_opens 3 = .ok (.if_icmp .eq 5, 3) := by decide +kernel
theorem dX2_opens_6 : decode cX2_opens 6 = .ok (.iconst 0, 1) := by decide +kernel
theorem dX2_opens_7 : decode cX2_opens 7 = .ok (.ireturn, 1) := by decide +kernel
theorem dX2_opens_8 : decode cX2_opens 8 = .ok (.aload_n 0, 1) := by decide +kernel
theorem dX2_opens_9 : decode cX2_opens 9 = .ok (.aload_n 0, 1) := by decide +kernel
theorem dX2_opens_10 : decode cX2_opens 10 = .ok (.getfield 50, 3) := by decide +kernel
theorem dX2_opens_13 : decode cX2_opens 13 = .ok (.iconst 1, 1) := by decide +kernel
theorem dX2_opens_14 : decode cX2_opens 14 = .ok (.isub, 1) := by decide +kernel
theorem dX2_opens_15 : decode cX2_opens 15 = .ok (.putfield 40, 3) := by decide +kernel
theorem dX2_opens_18 : decode cX2_opens 18 = .ok (.aload_n 0, 1) := by decide +kernel
theorem dX2_opens_19 : decode cX2_opens 19 = .ok (.iconst 0, 1) := by decide +kernel
theorem dX2_opens_20 : decode cX2_opens 20 = .ok (.putfield 37, 3) := by decide +kernel
theorem dX2_opens_23 : decode cX2_opens 23 = .ok (.iconst 1, 1) := by decide +kernel
theorem dX2_opens_24 : decode cX2_opens 24 = .ok (.ireturn, 1) := by decide +kernel
theorem dX2_isNextFigure_0 : decode cX2_isNextFigure 0 = .ok (.iload_n 1, 1) := by decide +kernel
theorem dX2_isNextFigure_1 : decode cX2_isNextFigure 1 = .ok (.invokestatic 73, 3) := by decide +kernel
theorem dX2_isNextFigure_4 : decode cX2_isNextFigure 4 = .ok (.ifCond .ne 5, 3) := by decide +kernel
theorem dX2_isNextFigure_7 : decode cX2_isNextFigure 7 = .ok (.iconst 0, 1) := by decide +kernel
theorem dX2_isNextFigure_8 : decode cX2_isNextFigure 8 = .ok (.ireturn, 1) := by decide +kernel
theorem dX2_isNextFigure_9 : decode cX2_isNextFigure 9 = .ok (.aload_n 0, 1) := by decide +kernel
theorem dX2_isNextFigure_10 : decode cX2_isNextFigure 10 = .ok (.getfield 24, 3) := by decide +kernel
theorem dX2_isNextFigure_13 : decode cX2_isNextFigure 13 = .ok (.aload_n 0, 1) := by decide +kernel
theorem dX2_isNextFigure_14 : decode cX2_isNextFigure 14 = .ok (.getfield 50, 3) := by decide +kernel
theorem dX2_isNextFigure_17 : decode cX2_isNextFigure 17 = .ok (.iconst 1, 1) := by decide +kernel
theorem dX2_isNextFigure_18 : decode cX2_isNextFigure 18 = .ok (.isub, 1) := by decide +kernel
theorem dX2_isNextFigure_19 : decode cX2_isNextFigure 19 = .ok (.iconst 3, 1) := by decide +kernel
theorem dX2_isNextFigure_20 : decode cX2_isNextFigure 20 = .ok (.imul, 1) := by decide +kernel
theorem dX2_isNextFigure_21 : decode cX2_isNextFigure 21 = .ok (.iload_n 2, 1) := by decide +kernel
theorem dX2_isNextFigure_22 : decode cX2_isNextFigure 22 = .ok (.iadd, 1) := by decide +kernel
theorem dX2_isNextFigure_23 : decode cX2_isNextFigure 23 = .ok (.iload_n 1, 1) := by decide +kernel
theorem dX2_isNextFigure_24 : decode cX2_isNextFigure 24 = .ok (.bipush 48, 2) := by decide +kernel
theorem dX2_isNextFigure_26 : decode cX2_isNextFigure 26 = .ok (.isub, 1) := by decide +kernel
theorem dX2_isNextFigure_27 : decode cX2_isNextFigure 27 = .ok (.iastore, 1) := by decide +kernel
theorem dX2_isNextFigure_28 : decode cX2_isNextFigure 28 = .ok (.aload_n 0, 1) := by decide +kernel
theorem dX2_isNextFigure_29 : decode cX2_isNextFigure 29 = .ok (.iload_n 3, 1) := by decide +kernel
theorem dX2_isNextFigure_30 : decode cX2_isNextFigure 30 = .ok (.putfield 37, 3) := by decide +kernel
theorem dX2_isNextFigure_33 : decode cX2_isNextFigure 33 = .ok (.iconst 1, 1) := by decide +kernel
theorem dX2_isNextFigure_34 : decode cX2_isNextFigure 34 = .ok (.ireturn, 1) := by decide +kernel
theorem dX2_followsNode_0 : decode cX2_followsNode 0 = .ok (.aload_n 0, 1) := by decide +kernel
theorem dX2_followsNode_1 : decode cX2_followsNode 1 = .ok (.getfield 40, 3) := by decide +kernel
theorem dX2_followsNode_4 : decode cX2_followsNode 4 = .ok (.iconst (-1), 1) := by decide +kernel
theorem dX2_followsNode_5 : decode cX2_followsNode 5 = .ok (.if_icmp .ne 5, 3) := by decide +kernel
theorem dX2_followsNode_8 : decode cX2_followsNode 8 = .ok (.iconst 0, 1) := by decide +kernel
theorem dX2_followsNode_9 : decode cX2_followsNode 9 = .ok (.ireturn, 1) := by decide +kernel
theorem dX2_followsNode_10 : decode cX2_followsNode 10 = .ok (.iload_n 1, 1) := by decide +kernel
theorem dX2_followsNode_11 : decode cX2_followsNode 11 = .ok (.bipush 44, 2) := by decide +kernel
theorem dX2_followsNode_13 : decode cX2_followsNode 13 = .ok (.if_icmp .ne 23, 3) := by decide +kernel
theorem dX2_followsNode_16 : decode cX2_followsNode 16 = .ok (.aload_n 0, 1) := by decide +kernel
theorem dX2_followsNode_17 : decode cX2_followsNode 17 = .ok (.getfield 21, 3) := by decide +kernel
theorem dX2_followsNode_20 : decode cX2_followsNode 20 = .ok (.aload_n 0, 1) := by decide +kernel
theorem dX2_followsNode_21 : decode cX2_followsNode 21 = .ok (.getfield 40, 3) := by decide +kernel
theorem dX2_followsNode_24 : decode cX2_followsNode 24 = .ok (.iaload, 1) := by decide +kernel
theorem dX2_followsNode_25 : decode cX2_followsNode 25 = .ok (.iconst 4, 1) := by decide +kernel
theorem dX2_followsNode_26 : decode cX2_followsNode 26 = .ok (.if_icmp .ge 10, 3) := by decide +kernel
theorem dX2_followsNode_29 : decode cX2_followsNode 29 = .ok (.aload_n 0, 1) := by decide +kernel
theorem dX2_followsNode_30 : decode cX2_followsNode 30 = .ok (.iconst 0, 1) := by decide +kernel
theorem dX2_followsNode_31 : decode cX2_followsNode 31 = .ok (.putfield 37, 3) := by decide +kernel
theorem dX2_followsNode_34 : decode cX2_followsNode 34 = .ok (.iconst 1, 1) := by decide +kernel
theorem dX2_followsNode_35 : decode cX2_followsNode 35 = .ok (.ireturn, 1) := by decide +kernel
theorem dX2_followsNode_36 : decode cX2_followsNode 36 = .ok (.iload_n 1, 1) := by decide +kernel
theorem dX2_followsNode_37 : decode cX2_followsNode 37 = .ok (.bipush 41, 2) := by decide +kernel
theorem dX2_followsNode_39 : decode cX2_followsNode 39 = .ok (.if_icmp .ne 18, 3) := by decide +kernel
theorem dX2_followsNode_42 : decode cX2_followsNode 42 = .ok (.aload_n 0, 1) := by decide +kernel
theorem dX2_followsNode_43 : decode cX2_followsNode 43 = .ok (.aload_n 0, 1) := by decide +kernel
theorem dX2_followsNode_44 : decode cX2_followsNode 44 = .ok (.getfield 15, 3) := by decide +kernel
theorem dX2_followsNode_47 : decode cX2_followsNode 47 = .ok (.aload_n 0, 1) := by decide +kernel
theorem dX2_followsNode_48 : decode cX2_followsNode 48 = .ok (.getfield 40, 3) := by decide +kernel
theorem dX2_followsNode_51 : decode cX2_followsNode 51 = .ok (.iaload, 1) := by decide +kernel
theorem dX2_followsNode_52 : decode cX2_followsNode 52 = .ok (.putfield 40, 3) := by decide +kernel
theorem dX2_followsNode_55 : decode cX2_followsNode 55 = .ok (.iconst 1, 1) := by decide +kernel
theorem dX2_followsNode_56 : decode cX2_followsNode 56 = .ok (.ireturn, 1) := by decide +kernel
theorem dX2_followsNode_57 : decode cX2_followsNode 57 = .ok (.iconst 0, 1) := by decide +kernel
theorem dX2_followsNode_58 : decode cX2_followsNode 58 = .ok (.ireturn, 1) := by decide +kernel
theorem dX2_isFigure_0 : decode cX2_isFigure 0 = .ok (.iload_n 0, 1) := by decide +kernel
theorem dX2_isFigure_1 : decode cX2_isFigure 1 = .ok (.bipush 48, 2) := by decide +kernel
theorem dX2_isFigure_3 : decode cX2_isFigure 3 = .ok (.if_icmp .lt 13, 3) := by decide +kernel
theorem dX2_isFigure_6 : decode cX2_isFigure 6 = .ok (.iload_n 0, 1) := by decide +kernel
theorem dX2_isFigure_7 : decode cX2_isFigure 7 = .ok (.bipush 57, 2) := by decide +kernel
theorem dX2_isFigure_9 : decode cX2_isFigure 9 = .ok (.if_icmp .gt 7, 3) := by decide +kernel
theorem dX2_isFigure_12 : decode cX2_isFigure 12 = .ok (.iconst 1, 1) := by decide +kernel
theorem dX2_isFigure_13 : decode cX2_isFigure 13 = .ok (.goto 4, 3) := by decide +kernel
theorem dX2_isFigure_16 : decode cX2_isFigure 16 = .ok (.iconst 0, 1) := by decide +kernel
theorem dX2_isFigure_17 : decode cX2_isFigure 17 = .ok (.ireturn, 1) := by decide +kernel
theorem dX2_playerOf_0 : decode cX2_playerOf 0 = .ok (.iload_n 0, 1) := by decide +kernel
theorem dX2_playerOf_1 : decode cX2_playerOf 1 = .ok (.lookupswitch 41 #[(97, 37), (103, 35), (116, 39)], 35) := by decide +kernel
theorem dX2_playerOf_36 : decode cX2_playerOf 36 = .ok (.iconst 0, 1) := by decide +kernel
theorem dX2_playerOf_37 : decode cX2_playerOf 37 = .ok (.ireturn, 1) := by decide +kernel
theorem dX2_playerOf_38 : decode cX2_playerOf 38 = .ok (.iconst 1, 1) := by decide +kernel
theorem dX2_playerOf_39 : decode cX2_playerOf 39 = .ok (.ireturn, 1) := by decide +kernel
theorem dX2_playerOf_40 : decode cX2_playerOf 40 = .ok (.iconst 2, 1) := by decide +kernel
theorem dX2_playerOf_41 : decode cX2_playerOf 41 = .ok (.ireturn, 1) := by decide +kernel
theorem dX2_playerOf_42 : decode cX2_playerOf 42 = .ok (.iconst (-1), 1) := by decide +kernel
theorem dX2_playerOf_43 : decode cX2_playerOf 43 = .ok (.ireturn, 1) := by decide +kernel
theorem dX2_solve_0 : decode cX2_solve 0 = .ok (.aload_n 0, 1) := by decide +kernel
theorem dX2_solve_1 : decode cX2_solve 1 = .ok (.getfield 27, 3) := by decide +kernel
theorem dX2_solve_4 : decode cX2_solve 4 = .ok (.iconst (-1), 1) := by decide +kernel
theorem dX2_solve_5 : decode cX2_solve 5 = .ok (.invokestatic 80, 3) := by decide +kernel
theorem dX2_solve_8 : decode cX2_solve 8 = .ok (.aload_n 0, 1) := by decide +kernel
theorem dX2_solve_9 : decode cX2_solve 9 = .ok (.getfield 50, 3) := by decide +kernel
theorem dX2_solve_12 : decode cX2_solve 12 = .ok (.iconst 1, 1) := by decide +kernel
theorem dX2_solve_13 : decode cX2_solve 13 = .ok (.isub, 1) := by decide +kernel
theorem dX2_solve_14 : decode cX2_solve 14 = .ok (.istore_n 2, 1) := by decide +kernel
theorem dX2_solve_15 : decode cX2_solve 15 = .ok (.iload_n 2, 1) := by decide +kernel
theorem dX2_solve_16 : decode cX2_solve 16 = .ok (.ifCond .lt 101, 3) := by decide +kernel
theorem dX2_solve_19 : decode cX2_solve 19 = .ok (.aload_n 0, 1) := by decide +kernel
theorem dX2_solve_20 : decode cX2_solve 20 = .ok (.getfield 30, 3) := by decide +kernel
theorem dX2_solve_23 : decode cX2_solve 23 = .ok (.iload_n 2, 1) := by decide +kernel
theorem dX2_solve_24 : decode cX2_solve 24 = .ok (.aload_n 0, 1) := by decide +kernel
theorem dX2_solve_25 : decode cX2_solve 25 = .ok (.getfield 27, 3) := by decide +kernel
theorem dX2_solve_28 : decode cX2_solve 28 = .ok (.iload_n 2, 1) := by decide +kernel
theorem dX2_solve_29 : decode cX2_solve 29 = .ok (.iaload, 1) := by decide +kernel
theorem dX2_solve_30 : decode cX2_solve 30 = .ok (.iconst (-1), 1) := by decide +kernel
theorem dX2_solve_31 : decode cX2_solve 31 = .ok (.if_icmp .ne 7, 3) := by decide +kernel
theorem dX2_solve_34 : decode cX2_solve 34 = .ok (.iload_n 2, 1) := by decide +kernel
theorem dX2_solve_35 : decode cX2_solve 35 = .ok (.goto 14, 3) := by decide +kernel
theorem dX2_solve_38 : decode cX2_solve 38 = .ok (.aload_n 0, 1) := by decide +kernel
theorem dX2_solve_39 : decode cX2_solve 39 = .ok (.getfield 30, 3) := by decide +kernel
theorem dX2_solve_42 : decode cX2_solve 42 = .ok (.aload_n 0, 1) := by decide +kernel
theorem dX2_solve_43 : decode cX2_solve 43 = .ok (.getfield 27, 3) := by decide +kernel
theorem dX2_solve_46 : decode cX2_solve 46 = .ok (.iload_n 2, 1) := by decide +kernel
theorem dX2_solve_47 : decode cX2_solve 47 = .ok (.iaload, 1) := by decide +kernel
theorem dX2_solve_48 : decode cX2_solve 48 = .ok (.iaload, 1) := by decide +kernel
theorem dX2_solve_49 : decode cX2_solve 49 = .ok (.iastore, 1) := by decide +kernel
theorem dX2_solve_50 : decode cX2_solve 50 = .ok (.aload_n 0, 1) := by decide +kernel
theorem dX2_solve_51 : decode cX2_solve 51 = .ok (.getfield 15, 3) := by decide +kernel
theorem dX2_solve_54 : decode cX2_solve 54 = .ok (.iload_n 2, 1) := by decide +kernel
theorem dX2_solve_55 : decode cX2_solve 55 = .ok (.iaload, 1) := by decide +kernel
theorem dX2_solve_56 : decode cX2_solve 56 = .ok (.istore_n 3, 1) := by decide +kernel
theorem dX2_solve_57 : decode cX2_solve 57 = .ok (.iload_n 3, 1) := by decide +kernel
theorem dX2_solve_58 : decode cX2_solve 58 = .ok (.iconst (-1), 1) := by decide +kernel
theorem dX2_solve_59 : decode cX2_solve 59 = .ok (.if_icmp .eq 52, 3) := by decide +kernel
theorem dX2_solve_62 : decode cX2_solve 62 = .ok (.aload_n 0, 1) := by decide +kernel
theorem dX2_solve_63 : decode cX2_solve 63 = .ok (.getfield 27, 3) := by decide +kernel
theorem dX2_solve_66 : decode cX2_solve 66 = .ok (.iload_n 3, 1) := by decide +kernel
theorem dX2_solve_67 : decode cX2_solve 67 = .ok (.iaload, 1) := by decide +kernel
theorem dX2_solve_68 : decode cX2_solve 68 = .ok (.iconst (-1), 1) := by decide +kernel
theorem dX2_solve_69 : decode cX2_solve 69 = .ok (.if_icmp .eq 35, 3) := by decide +kernel
theorem dX2_solve_72 : decode cX2_solve 72 = .ok (.aload_n 0, 1) := by decide +kernel
theorem dX2_solve_73 : decode cX2_solve 73 = .ok (.iload_n 2, 1) := by decide +kernel
theorem dX2_solve_74 : decode cX2_solve 74 = .ok (.aload_n 0, 1) := by decide +kernel
theorem dX2_solve_75 : decode cX2_solve 75 = .ok (.getfield 11, 3) := by decide +kernel
theorem dX2_solve_78 : decode cX2_solve 78 = .ok (.iload_n 3, 1) := by decide +kernel
theorem dX2_solve_79 : decode cX2_solve 79 = .ok (.iaload, 1) := by decide +kernel
theorem dX2_solve_80 : decode cX2_solve 80 = .ok (.iload_n 1, 1) := by decide +kernel
theorem dX2_solve_81 : decode cX2_solve 81 = .ok (.invokevirtual 86, 3) := by decide +kernel
theorem dX2_solve_84 : decode cX2_solve 84 = .ok (.aload_n 0, 1) := by decide +kernel
theorem dX2_solve_85 : decode cX2_solve 85 = .ok (.aload_n 0, 1) := by decide +kernel
theorem dX2_solve_86 : decode cX2_solve 86 = .ok (.getfield 27, 3) := by decide +kernel
theorem dX2_solve_89 : decode cX2_solve 89 = .ok (.iload_n 3, 1) := by decide +kernel
theorem dX2_solve_90 : decode cX2_solve 90 = .ok (.iaload, 1) := by decide +kernel
theorem dX2_solve_91 : decode cX2_solve 91 = .ok (.aload_n 0, 1) := by decide +kernel
theorem dX2_solve_92 : decode cX2_solve 92 = .ok (.getfield 11, 3) := by decide +kernel
theorem dX2_solve_95 : decode cX2_solve 95 = .ok (.iload_n 3, 1) := by decide +kernel
theorem dX2_solve_96 : decode cX2_solve 96 = .ok (.iaload, 1) := by decide +kernel
theorem dX2_solve_97 : decode cX2_solve 97 = .ok (.iload_n 1, 1) := by decide +kernel
theorem dX2_solve_98 : decode cX2_solve 98 = .ok (.invokevirtual 86, 3) := by decide +kernel
theorem dX2_solve_101 : decode cX2_solve 101 = .ok (.if_icmp .lt 10, 3) := by decide +kernel
theorem dX2_solve_104 : decode cX2_solve 104 = .ok (.aload_n 0, 1) := by decide +kernel
theorem dX2_solve_105 : decode cX2_solve 105 = .ok (.getfield 27, 3) := by decide +kernel
theorem dX2_solve_108 : decode cX2_solve 108 = .ok (.iload_n 3, 1) := by decide +kernel
theorem dX2_solve_109 : decode cX2_solve 109 = .ok (.iload_n 2, 1) := by decide +kernel
theorem dX2_solve_110 : decode cX2_solve 110 = .ok (.iastore, 1) := by decide +kernel
theorem dX2_solve_111 : decode cX2_solve 111 = .ok (.iinc 2 (-1), 3) := by decide +kernel
theorem dX2_solve_114 : decode cX2_solve 114 = .ok (.goto (-99), 3) := by decide +kernel
theorem dX2_solve_117 : decode cX2_solve 117 = .ok (.return_, 1) := by decide +kernel
theorem dX2_worth_0 : decode cX2_worth 0 = .ok (.aload_n 0, 1) := by decide +kernel
theorem dX2_worth_1 : decode cX2_worth 1 = .ok (.getfield 30, 3) := by decide +kernel
theorem dX2_worth_4 : decode cX2_worth 4 = .ok (.iload_n 1, 1) := by decide +kernel
theorem dX2_worth_5 : decode cX2_worth 5 = .ok (.iaload, 1) := by decide +kernel
theorem dX2_worth_6 : decode cX2_worth 6 = .ok (.iconst 3, 1) := by decide +kernel
theorem dX2_worth_7 : decode cX2_worth 7 = .ok (.imul, 1) := by decide +kernel
theorem dX2_worth_8 : decode cX2_worth 8 = .ok (.istore 4, 2) := by decide +kernel
theorem dX2_worth_10 : decode cX2_worth 10 = .ok (.aload_n 0, 1) := by decide +kernel
theorem dX2_worth_11 : decode cX2_worth 11 = .ok (.getfield 24, 3) := by decide +kernel
theorem dX2_worth_14 : decode cX2_worth 14 = .ok (.iload 4, 2) := by decide +kernel
theorem dX2_worth_16 : decode cX2_worth 16 = .ok (.iload_n 2, 1) := by decide +kernel
theorem dX2_worth_17 : decode cX2_worth 17 = .ok (.iadd, 1) := by decide +kernel
theorem dX2_worth_18 : decode cX2_worth 18 = .ok (.iaload, 1) := by decide +kernel
theorem dX2_worth_19 : decode cX2_worth 19 = .ok (.istore 5, 2) := by decide +kernel
theorem dX2_worth_21 : decode cX2_worth 21 = .ok (.iload 5, 2) := by decide +kernel
theorem dX2_worth_23 : decode cX2_worth 23 = .ok (.istore 6, 2) := by decide +kernel
theorem dX2_worth_25 : decode cX2_worth 25 = .ok (.iconst 0, 1) := by decide +kernel
theorem dX2_worth_26 : decode cX2_worth 26 = .ok (.istore 7, 2) := by decide +kernel
theorem dX2_worth_28 : decode cX2_worth 28 = .ok (.iload 7, 2) := by decide +kernel
theorem dX2_worth_30 : decode cX2_worth 30 = .ok (.iconst 3, 1) := by decide +kernel
theorem dX2_worth_31 : decode cX2_worth 31 = .ok (.if_icmp .ge 26, 3) := by decide +kernel
theorem dX2_worth_34 : decode cX2_worth 34 = .ok (.iload 6, 2) := by decide +kernel
theorem dX2_worth_36 : decode cX2_worth 36 = .ok (.aload_n 0, 1) := by decide +kernel
theorem dX2_worth_37 : decode cX2_worth 37 = .ok (.getfield 24, 3) := by decide +kernel
theorem dX2_worth_40 : decode cX2_worth 40 = .ok (.iload 4, 2) := by decide +kernel
theorem dX2_worth_42 : decode cX2_worth 42 = .ok (.iload 7, 2) := by decide +kernel
theorem dX2_worth_44 : decode cX2_worth 44 = .ok (.iadd, 1) := by decide +kernel
theorem dX2_worth_45 : decode cX2_worth 45 = .ok (.iaload, 1) := by decide +kernel
theorem dX2_worth_46 : decode cX2_worth 46 = .ok (.invokestatic 90, 3) := by decide +kernel
theorem dX2_worth_49 : decode cX2_worth 49 = .ok (.istore 6, 2) := by decide +kernel
theorem dX2_worth_51 : decode cX2_worth 51 = .ok (.iinc 7 1, 3) := by decide +kernel
theorem dX2_worth_54 : decode cX2_worth 54 = .ok (.goto (-26), 3) := by decide +kernel
theorem dX2_worth_57 : decode cX2_worth 57 = .ok (.iconst 4, 1) := by decide +kernel
theorem dX2_worth_58 : decode cX2_worth 58 = .ok (.iload 5, 2) := by decide +kernel
theorem dX2_worth_60 : decode cX2_worth 60 = .ok (.imul, 1) := by decide +kernel
theorem dX2_worth_61 : decode cX2_worth 61 = .ok (.iload_n 3, 1) := by decide +kernel
theorem dX2_worth_62 : decode cX2_worth 62 = .ok (.iload 6, 2) := by decide +kernel
theorem dX2_worth_64 : decode cX2_worth 64 = .ok (.iload 5, 2) := by decide +kernel
theorem dX2_worth_66 : decode cX2_worth 66 = .ok (.isub, 1) := by decide +kernel
theorem dX2_worth_67 : decode cX2_worth 67 = .ok (.imul, 1) := by decide +kernel
theorem dX2_worth_68 : decode cX2_worth 68 = .ok (.isub, 1) := by decide +kernel
theorem dX2_worth_69 : decode cX2_worth 69 = .ok (.ireturn, 1) := by decide +kernel
theorem dX2_gets_0 : decode cX2_gets 0 = .ok (.aload_n 0, 1) := by decide +kernel
theorem dX2_gets_1 : decode cX2_gets 1 = .ok (.getfield 24, 3) := by decide +kernel
theorem dX2_gets_4 : decode cX2_gets 4 = .ok (.aload_n 0, 1) := by decide +kernel
theorem dX2_gets_5 : decode cX2_gets 5 = .ok (.getfield 30, 3) := by decide +kernel
theorem dX2_gets_8 : decode cX2_gets 8 = .ok (.iconst 0, 1) := by decide +kernel
theorem dX2_gets_9 : decode cX2_gets 9 = .ok (.iaload, 1) := by decide +kernel
theorem dX2_gets_10 : decode cX2_gets 10 = .ok (.iconst 3, 1) := by decide +kernel
theorem dX2_gets_11 : decode cX2_gets 11 = .ok (.imul, 1) := by decide +kernel
theorem dX2_gets_12 : decode cX2_gets 12 = .ok (.iload_n 1, 1) := by decide +kernel
theorem dX2_gets_13 : decode cX2_gets 13 = .ok (.iadd, 1) := by decide +kernel
theorem dX2_gets_14 : decode cX2_gets 14 = .ok (.iaload, 1) := by decide +kernel
theorem dX2_gets_15 : decode cX2_gets 15 = .ok (.ireturn, 1) := by decide +kernel
theorem dX2_wayLength_0 : decode cX2_wayLength 0 = .ok (.iconst 0, 1) := by decide +kernel
theorem dX2_wayLength_1 : decode cX2_wayLength 1 = .ok (.istore_n 1, 1) := by decide +kernel
theorem dX2_wayLength_2 : decode cX2_wayLength 2 = .ok (.iconst 0, 1) := by decide +kernel
theorem dX2_wayLength_3 : decode cX2_wayLength 3 = .ok (.istore_n 2, 1) := by decide +kernel
theorem dX2_wayLength_4 : decode cX2_wayLength 4 = .ok (.iconst 0, 1) := by decide +kernel
theorem dX2_wayLength_5 : decode cX2_wayLength 5 = .ok (.istore_n 3, 1) := by decide +kernel
theorem dX2_wayLength_6 : decode cX2_wayLength 6 = .ok (.iload_n 3, 1) := by decide +kernel
theorem dX2_wayLength_7 : decode cX2_wayLength 7 = .ok (.aload_n 0, 1) := by decide +kernel
theorem dX2_wayLength_8 : decode cX2_wayLength 8 = .ok (.getfield 50, 3) := by decide +kernel
theorem dX2_wayLength_11 : decode cX2_wayLength 11 = .ok (.if_icmp .ge 29, 3) := by decide +kernel
theorem dX2_wayLength_14 : decode cX2_wayLength 14 = .ok (.aload_n 0, 1) := by decide +kernel
theorem dX2_wayLength_15 : decode cX2_wayLength 15 = .ok (.getfield 27, 3) := by decide +kernel
theorem dX2_wayLength_18 : decode cX2_wayLength 18 = .ok (.iload_n 2, 1) := by decide +kernel
theorem dX2_wayLength_19 : decode cX2_wayLength 19 = .ok (.iaload, 1) := by decide +kernel
theorem dX2_wayLength_20 : decode cX2_wayLength 20 = .ok (.iconst (-1), 1) := by decide +kernel
theorem dX2_wayLength_21 : decode cX2_wayLength 21 = .ok (.if_icmp .eq 19, 3) := by decide +kernel
theorem dX2_wayLength_24 : decode cX2_wayLength 24 = .ok (.iinc 1 1, 3) := by decide +kernel
theorem dX2_wayLength_27 : decode cX2_wayLength 27 = .ok (.aload_n 0, 1) := by decide +kernel
theorem dX2_wayLength_28 : decode cX2_wayLength 28 = .ok (.getfield 27, 3) := by decide +kernel
theorem dX2_wayLength_31 : decode cX2_wayLength 31 = .ok (.iload_n 2, 1) := by decide +kernel
theorem dX2_wayLength_32 : decode cX2_wayLength 32 = .ok (.iaload, 1) := by decide +kernel
theorem dX2_wayLength_33 : decode cX2_wayLength 33 = .ok (.istore_n 2, 1) := by decide +kernel
theorem dX2_wayLength_34 : decode cX2_wayLength 34 = .ok (.iinc 3 1, 3) := by decide +kernel
theorem dX2_wayLength_37 : decode cX2_wayLength 37 = .ok (.goto (-31), 3) := by decide +kernel
theorem dX2_wayLength_40 : decode cX2_wayLength 40 = .ok (.iload_n 1, 1) := by decide +kernel
theorem dX2_wayLength_41 : decode cX2_wayLength 41 = .ok (.ireturn, 1) := by decide +kernel
theorem dX2_choiceAt_0 : decode cX2_choiceAt 0 = .ok (.iconst 0, 1) := by decide +kernel
theorem dX2_choiceAt_1 : decode cX2_choiceAt 1 = .ok (.istore_n 2, 1) := by decide +kernel
theorem dX2_choiceAt_2 : decode cX2_choiceAt 2 = .ok (.iconst 0, 1) := by decide +kernel
theorem dX2_choiceAt_3 : decode cX2_choiceAt 3 = .ok (.istore_n 3, 1) := by decide +kernel
theorem dX2_choiceAt_4 : decode cX2_choiceAt 4 = .ok (.iload_n 3, 1) := by decide +kernel
theorem dX2_choiceAt_5 : decode cX2_choiceAt 5 = .ok (.aload_n 0, 1) := by decide +kernel
theorem dX2_choiceAt_6 : decode cX2_choiceAt 6 = .ok (.getfield 50, 3) := by decide +kernel
theorem dX2_choiceAt_9 : decode cX2_choiceAt 9 = .ok (.if_icmp .ge 38, 3) := by decide +kernel
theorem dX2_choiceAt_12 : decode cX2_choiceAt 12 = .ok (.aload_n 0, 1) := by decide +kernel
theorem dX2_choiceAt_13 : decode cX2_choiceAt 13 = .ok (.getfield 27, 3) := by decide +kernel
theorem dX2_choiceAt_16 : decode cX2_choiceAt 16 = .ok (.iload_n 2, 1) := by decide +kernel
theorem dX2_choiceAt_17 : decode cX2_choiceAt 17 = .ok (.iaload, 1) := by decide +kernel
theorem dX2_choiceAt_18 : decode cX2_choiceAt 18 = .ok (.iconst (-1), 1) := by decide +kernel
theorem dX2_choiceAt_19 : decode cX2_choiceAt 19 = .ok (.if_icmp .eq 28, 3) := by decide +kernel
theorem dX2_choiceAt_22 : decode cX2_choiceAt 22 = .ok (.aload_n 0, 1) := by decide +kernel
theorem dX2_choiceAt_23 : decode cX2_choiceAt 23 = .ok (.getfield 27, 3) := by decide +kernel
theorem dX2_choiceAt_26 : decode cX2_choiceAt 26 = .ok (.iload_n 2, 1) := by decide +kernel
theorem dX2_choiceAt_27 : decode cX2_choiceAt 27 = .ok (.iaload, 1) := by decide +kernel
theorem dX2_choiceAt_28 : decode cX2_choiceAt 28 = .ok (.istore_n 2, 1) := by decide +kernel
theorem dX2_choiceAt_29 : decode cX2_choiceAt 29 = .ok (.iload_n 3, 1) := by decide +kernel
theorem dX2_choiceAt_30 : decode cX2_choiceAt 30 = .ok (.iload_n 1, 1) := by decide +kernel
theorem dX2_choiceAt_31 : decode cX2_choiceAt 31 = .ok (.if_icmp .ne 10, 3) := by decide +kernel
theorem dX2_choiceAt_34 : decode cX2_choiceAt 34 = .ok (.aload_n 0, 1) := by decide +kernel
theorem dX2_choiceAt_35 : decode cX2_choiceAt 35 = .ok (.getfield 18, 3) := by decide +kernel
theorem dX2_choiceAt_38 : decode cX2_choiceAt 38 = .ok (.iload_n 2, 1) := by decide +kernel
theorem dX2_choiceAt_39 : decode cX2_choiceAt 39 = .ok (.iaload, 1) := by decide +kernel
theorem dX2_choiceAt_40 : decode cX2_choiceAt 40 = .ok (.ireturn, 1) := by decide +kernel
theorem dX2_choiceAt_41 : decode cX2_choiceAt 41 = .ok (.iinc 3 1, 3) := by decide +kernel
theorem dX2_choiceAt_44 : decode cX2_choiceAt 44 = .ok (.goto (-40), 3) := by decide +kernel
theorem dX2_choiceAt_47 : decode cX2_choiceAt 47 = .ok (.iconst (-1), 1) := by decide +kernel
theorem dX2_choiceAt_48 : decode cX2_choiceAt 48 = .ok (.ireturn, 1) := by decide +kernel
theorem dX2_leastAngerThatMatters_0 : decode cX2_leastAngerThatMatters 0 = .ok (.aload_n 0, 1) := by decide +kernel
theorem dX2_leastAngerThatMatters_1 : decode cX2_leastAngerThatMatters 1 = .ok (.iconst 0, 1) := by decide +kernel
theorem dX2_leastAngerThatMatters_2 : decode cX2_leastAngerThatMatters 2 = .ok (.invokevirtual 96, 3) := by decide +kernel
theorem dX2_leastAngerThatMatters_5 : decode cX2_leastAngerThatMatters 5 = .ok (.aload_n 0, 1) := by decide +kernel
theorem dX2_leastAngerThatMatters_6 : decode cX2_leastAngerThatMatters 6 = .ok (.getfield 30, 3) := by decide +kernel
theorem dX2_leastAngerThatMatters_9 : decode cX2_leastAngerThatMatters 9 = .ok (.iconst 0, 1) := by decide +kernel
theorem dX2_leastAngerThatMatters_10 : decode cX2_leastAngerThatMatters 10 = .ok (.iaload, 1) := by decide +kernel
theorem dX2_leastAngerThatMatters_11 : decode cX2_leastAngerThatMatters 11 = .ok (.istore_n 1, 1) := by decide +kernel
theorem dX2_leastAngerThatMatters_12 : decode cX2_leastAngerThatMatters 12 = .ok (.iconst 1, 1) := by decide +kernel
theorem dX2_leastAngerThatMatters_13 : decode cX2_leastAngerThatMatters 13 = .ok (.istore_n 2, 1) := by decide +kernel
theorem dX2_leastAngerThatMatters_14 : decode cX2_leastAngerThatMatters 14 = .ok (.iload_n 2, 1) := by decide +kernel
theorem dX2_leastAngerThatMatters_15 : decode cX2_leastAngerThatMatters 15 = .ok (.bipush 40, 2) := by decide +kernel
theorem dX2_leastAngerThatMatters_17 : decode cX2_leastAngerThatMatters 17 = .ok (.if_icmp .gt 26, 3) := by decide +kernel
theorem dX2_leastAngerThatMatters_20 : decode cX2_leastAngerThatMatters 20 = .ok (.aload_n 0, 1) := by decide +kernel
theorem dX2_leastAngerThatMatters_21 : decode cX2_leastAngerThatMatters 21 = .ok (.iload_n 2, 1) := by decide +kernel
theorem dX2_leastAngerThatMatters_22 : decode cX2_leastAngerThatMatters 22 = .ok (.invokevirtual 96, 3) := by decide +kernel
theorem dX2_leastAngerThatMatters_25 : decode cX2_leastAngerThatMatters 25 = .ok (.aload_n 0, 1) := by decide +kernel
theorem dX2_leastAngerThatMatters_26 : decode cX2_leastAngerThatMatters 26 = .ok (.getfield 30, 3) := by decide +kernel
theorem dX2_leastAngerThatMatters_29 : decode cX2_leastAngerThatMatters 29 = .ok (.iconst 0, 1) := by decide +kernel
theorem dX2_leastAngerThatMatters_30 : decode cX2_leastAngerThatMatters 30 = .ok (.iaload, 1) := by decide +kernel
theorem dX2_leastAngerThatMatters_31 : decode cX2_leastAngerThatMatters 31 = .ok (.iload_n 1, 1) := by decide +kernel
theorem dX2_leastAngerThatMatters_32 : decode cX2_leastAngerThatMatters 32 = .ok (.if_icmp .eq 5, 3) := by decide +kernel
theorem dX2_leastAngerThatMatters_35 : decode cX2_leastAngerThatMatters 35 = .ok (.iload_n 2, 1) := by decide +kernel
theorem dX2_leastAngerThatMatters_36 : decode cX2_leastAngerThatMatters 36 = .ok (.ireturn, 1) := by decide +kernel
theorem dX2_leastAngerThatMatters_37 : decode cX2_leastAngerThatMatters 37 = .ok (.iinc 2 1, 3) := by decide +kernel
theorem dX2_leastAngerThatMatters_40 : decode cX2_leastAngerThatMatters 40 = .ok (.goto (-26), 3) := by decide +kernel
theorem dX2_leastAngerThatMatters_43 : decode cX2_leastAngerThatMatters 43 = .ok (.iconst (-1), 1) := by decide +kernel
theorem dX2_leastAngerThatMatters_44 : decode cX2_leastAngerThatMatters 44 = .ok (.ireturn, 1) := by decide +kernel
theorem dX3_init_0 : decode cX3_init 0 = .ok (.aload_n 0, 1) := by decide +kernel
theorem dX3_init_1 : decode cX3_init 1 = .ok (.invokespecial 3, 3) := by decide +kernel
theorem dX3_init_4 : decode cX3_init 4 = .ok (.aload_n 0, 1) := by decide +kernel
theorem dX3_init_5 : decode cX3_init 5 = .ok (.iconst 4, 1) := by decide +kernel
theorem dX3_init_6 : decode cX3_init 6 = .ok (.newarray .int, 2) := by decide +kernel
theorem dX3_init_8 : decode cX3_init 8 = .ok (.putfield 9, 3) := by decide +kernel
theorem dX3_init_11 : decode cX3_init 11 = .ok (.aload_n 0, 1) := by decide +kernel
theorem dX3_init_12 : decode cX3_init 12 = .ok (.iconst 4, 1) := by decide +kernel
theorem dX3_init_13 : decode cX3_init 13 = .ok (.newarray .int, 2) := by decide +kernel
theorem dX3_init_15 : decode cX3_init 15 = .ok (.putfield 15, 3) := by decide +kernel
theorem dX3_init_18 : decode cX3_init 18 = .ok (.aload_n 0, 1) := by decide +kernel
theorem dX3_init_19 : decode cX3_init 19 = .ok (.iconst 4, 1) := by decide +kernel
theorem dX3_init_20 : decode cX3_init 20 = .ok (.newarray .int, 2) := by decide +kernel
theorem dX3_init_22 : decode cX3_init 22 = .ok (.putfield 18, 3) := by decide +kernel
theorem dX3_init_25 : decode cX3_init 25 = .ok (.return_, 1) := by decide +kernel
theorem dX3_clear_0 : decode cX3_clear 0 = .ok (.aload_n 0, 1) := by decide +kernel
theorem dX3_clear_1 : decode cX3_clear 1 = .ok (.iconst 0, 1) := by decide +kernel
theorem dX3_clear_2 : decode cX3_clear 2 = .ok (.putfield 21, 3) := by decide +kernel
theorem dX3_clear_5 : decode cX3_clear 5 = .ok (.return_, 1) := by decide +kernel
theorem dX3_learn_0 : decode cX3_learn 0 = .ok (.aload_n 0, 1) := by decide +kernel
theorem dX3_learn_1 : decode cX3_learn 1 = .ok (.getfield 9, 3) := by decide +kernel
theorem dX3_learn_4 : decode cX3_learn 4 = .ok (.iload_n 1, 1) := by decide +kernel
theorem dX3_learn_5 : decode cX3_learn 5 = .ok (.aload_n 2, 1) := by decide +kernel
theorem dX3_learn_6 : decode cX3_learn 6 = .ok (.getfield 25, 3) := by decide +kernel
theorem dX3_learn_9 : decode cX3_learn 9 = .ok (.iastore, 1) := by decide +kernel
theorem dX3_learn_10 : decode cX3_learn 10 = .ok (.aload_n 0, 1) := by decide +kernel
theorem dX3_learn_11 : decode cX3_learn 11 = .ok (.getfield 15, 3) := by decide +kernel
theorem dX3_learn_14 : decode cX3_learn 14 = .ok (.iload_n 1, 1) := by decide +kernel
theorem dX3_learn_15 : decode cX3_learn 15 = .ok (.aload_n 2, 1) := by decide +kernel
theorem dX3_learn_16 : decode cX3_learn 16 = .ok (.getfield 29, 3) := by decide +kernel
theorem dX3_learn_19 : decode cX3_learn 19 = .ok (.iastore, 1) := by decide +kernel
theorem dX3_learn_20 : decode cX3_learn 20 = .ok (.aload_n 0, 1) := by decide +kernel
theorem dX3_learn_21 : decode cX3_learn 21 = .ok (.getfield 18, 3) := by decide +kernel
theorem dX3_learn_24 : decode cX3_learn 24 = .ok (.iload_n 1, 1) := by decide +kernel
theorem dX3_learn_25 : decode cX3_learn 25 = .ok (.iload_n 1, 1) := by decide +kernel
theorem dX3_learn_26 : decode cX3_learn 26 = .ok (.iastore, 1) := by decide +kernel
theorem dX3_learn_27 : decode cX3_learn 27 = .ok (.aload_n 0, 1) := by decide +kernel
theorem dX3_learn_28 : decode cX3_learn 28 = .ok (.dup, 1) := by decide +kernel
theorem dX3_learn_29 : decode cX3_learn 29 = .ok (.getfield 21, 3) := by decide +kernel
theorem dX3_learn_32 : decode cX3_learn 32 = .ok (.aload_n 2, 1) := by decide +kernel
theorem dX3_learn_33 : decode cX3_learn 33 = .ok (.getfield 29, 3) := by decide +kernel
theorem dX3_learn_36 : decode cX3_learn 36 = .ok (.ifCond .le 7, 3) := by decide +kernel
theorem dX3_learn_39 : decode cX3_learn 39 = .ok (.iconst 1, 1) := by decide +kernel
theorem dX3_learn_40 : decode cX3_learn 40 = .ok (.goto 4, 3) := by decide +kernel
theorem dX3_learn_43 : decode cX3_learn 43 = .ok (.iconst 0, 1) := by decide +kernel
theorem dX3_learn_44 : decode cX3_learn 44 = .ok (.iadd, 1) := by decide +kernel
theorem dX3_learn_45 : decode cX3_learn 45 = .ok (.putfield 21, 3) := by decide +kernel
theorem dX3_learn_48 : decode cX3_learn 48 = .ok (.return_, 1) := by decide +kernel
theorem dX3_isKnown_0 : decode cX3_isKnown 0 = .ok (.aload_n 0, 1) := by decide +kernel
theorem dX3_isKnown_1 : decode cX3_isKnown 1 = .ok (.getfield 15, 3) := by decide +kernel
theorem dX3_isKnown_4 : decode cX3_isKnown 4 = .ok (.iload_n 1, 1) := by decide +kernel
theorem dX3_isKnown_5 : decode cX3_isKnown 5 = .ok (.iaload, 1) := by decide +kernel
theorem dX3_isKnown_6 : decode cX3_isKnown 6 = .ok (.ifCond .le 7, 3) := by decide +kernel
theorem dX3_isKnown_9 : decode cX3_isKnown 9 = .ok (.iconst 1, 1) := by decide +kernel
theorem dX3_isKnown_10 : decode cX3_isKnown 10 = .ok (.goto 4, 3) := by decide +kernel
theorem dX3_isKnown_13 : decode cX3_isKnown 13 = .ok (.iconst 0, 1) := by decide +kernel
theorem dX3_isKnown_14 : decode cX3_isKnown 14 = .ok (.ireturn, 1) := by decide +kernel
theorem dX3_reorder_0 : decode cX3_reorder 0 = .ok (.iconst 0, 1) := by decide +kernel
theorem dX3_reorder_1 : decode cX3_reorder 1 = .ok (.istore_n 2, 1) := by decide +kernel
theorem dX3_reorder_2 : decode cX3_reorder 2 = .ok (.iconst 0, 1) := by decide +kernel
theorem dX3_reorder_3 : decode cX3_reorder 3 = .ok (.istore_n 3, 1) := by decide +kernel
theorem dX3_reorder_4 : decode cX3_reorder 4 = .ok (.iload_n 3, 1) := by decide +kernel
theorem dX3_reorder_5 : decode cX3_reorder 5 = .ok (.iconst 4, 1) := by decide +kernel
theorem dX3_reorder_6 : decode cX3_reorder 6 = .ok (.if_icmp .ge 59, 3) := by decide +kernel
theorem dX3_reorder_9 : decode cX3_reorder 9 = .ok (.iload_n 1, 1) := by decide +kernel
theorem dX3_reorder_10 : decode cX3_reorder 10 = .ok (.iconst 2, 1) := by decide +kernel
theorem dX3_reorder_11 : decode cX3_reorder 11 = .ok (.iload_n 3, 1) := by decide +kernel
theorem dX3_reorder_12 : decode cX3_reorder 12 = .ok (.imul, 1) := by decide +kernel
theorem dX3_reorder_13 : decode cX3_reorder 13 = .ok (.ishr, 1) := by decide +kernel
theorem dX3_reorder_14 : decode cX3_reorder 14 = .ok (.iconst 3, 1) := by decide +kernel
theorem dX3_reorder_15 : decode cX3_reorder 15 = .ok (.iand, 1) := by decide +kernel
theorem dX3_reorder_16 : decode cX3_reorder 16 = .ok (.istore 4, 2) := by decide +kernel
theorem dX3_reorder_18 : decode cX3_reorder 18 = .ok (.iload_n 2, 1) := by decide +kernel
theorem dX3_reorder_19 : decode cX3_reorder 19 = .ok (.iload 4, 2) := by decide +kernel
theorem dX3_reorder_21 : decode cX3_reorder 21 = .ok (.ishr, 1) := by decide +kernel
theorem dX3_reorder_22 : decode cX3_reorder 22 = .ok (.iconst 1, 1) := by decide +kernel
theorem dX3_reorder_23 : decode cX3_reorder 23 = .ok (.iand, 1) := by decide +kernel
theorem dX3_reorder_24 : decode cX3_reorder 24 = .ok (.iconst 1, 1) := by decide +kernel
theorem dX3_reorder_25 : decode cX3_reorder 25 = .ok (.if_icmp .eq 17, 3) := by decide +kernel
theorem dX3_reorder_28 : decode cX3_reorder 28 = .ok (.aload_n 0, 1) := by decide +kernel
theorem dX3_reorder_29 : decode cX3_reorder 29 = .ok (.iload_n 3, 1) := by decide +kernel
theorem dX3_reorder_30 : decode cX3_reorder 30 = .ok (.invokevirtual 31, 3) := by decide +kernel
theorem dX3_reorder_33 : decode cX3_reorder 33 = .ok (.ifCond .ne 11, 3) := by decide +kernel
theorem dX3_reorder_36 : decode cX3_reorder 36 = .ok (.iload 4, 2) := by decide +kernel
theorem dX3_reorder_38 : decode cX3_reorder 38 = .ok (.iload_n 3, 1) := by decide +kernel
theorem dX3_reorder_39 : decode cX3_reorder 39 = .ok (.if_icmp .eq 5, 3) := by decide +kernel
theorem dX3_reorder_42 : decode cX3_reorder 42 = .ok (.iconst 0, 1) := by decide +kernel
theorem dX3_reorder_43 : decode cX3_reorder 43 = .ok (.ireturn, 1) := by decide +kernel
theorem dX3_reorder_44 : decode cX3_reorder 44 = .ok (.iload_n 2, 1) := by decide +kernel
theorem dX3_reorder_45 : decode cX3_reorder 45 = .ok (.iconst 1, 1) := by decide +kernel
theorem dX3_reorder_46 : decode cX3_reorder 46 = .ok (.iload 4, 2) := by decide +kernel
theorem dX3_reorder_48 : decode cX3_reorder 48 = .ok (.ishl, 1) := by decide +kernel
theorem dX3_reorder_49 : decode cX3_reorder 49 = .ok (.ior, 1) := by decide +kernel
theorem dX3_reorder_50 : decode cX3_reorder 50 = .ok (.istore_n 2, 1) := by decide +kernel
theorem dX3_reorder_51 : decode cX3_reorder 51 = .ok (.aload_n 0, 1) := by decide +kernel
theorem dX3_reorder_52 : decode cX3_reorder 52 = .ok (.getfield 18, 3) := by decide +kernel
theorem dX3_reorder_55 : decode cX3_reorder 55 = .ok (.iload_n 3, 1) := by decide +kernel
theorem dX3_reorder_56 : decode cX3_reorder 56 = .ok (.iload 4, 2) := by decide +kernel
theorem dX3_reorder_58 : decode cX3_reorder 58 = .ok (.iastore, 1) := by decide +kernel
theorem dX3_reorder_59 : decode cX3_reorder 59 = .ok (.iinc 3 1, 3) := by decide +kernel
theorem dX3_reorder_62 : decode cX3_reorder 62 = .ok (.goto (-58), 3) := by decide +kernel
theorem dX3_reorder_65 : decode cX3_reorder 65 = .ok (.iconst 1, 1) := by decide +kernel
theorem dX3_reorder_66 : decode cX3_reorder 66 = .ok (.ireturn, 1) := by decide +kernel
theorem dX3_order_0 : decode cX3_order 0 = .ok (.aload_n 0, 1) := by decide +kernel
theorem dX3_order_1 : decode cX3_order 1 = .ok (.getfield 18, 3) := by decide +kernel
theorem dX3_order_4 : decode cX3_order 4 = .ok (.iload_n 1, 1) := by decide +kernel
theorem dX3_order_5 : decode cX3_order 5 = .ok (.iaload, 1) := by decide +kernel
theorem dX3_order_6 : decode cX3_order 6 = .ok (.istore_n 3, 1) := by decide +kernel
theorem dX3_order_7 : decode cX3_order 7 = .ok (.aload_n 0, 1) := by decide +kernel
theorem dX3_order_8 : decode cX3_order 8 = .ok (.getfield 18, 3) := by decide +kernel
theorem dX3_order_11 : decode cX3_order 11 = .ok (.iload_n 2, 1) := by decide +kernel
theorem dX3_order_12 : decode cX3_order 12 = .ok (.iaload, 1) := by decide +kernel
theorem dX3_order_13 : decode cX3_order 13 = .ok (.istore 4, 2) := by decide +kernel
theorem dX3_order_15 : decode cX3_order 15 = .ok (.aload_n 0, 1) := by decide +kernel
theorem dX3_order_16 : decode cX3_order 16 = .ok (.getfield 9, 3) := by decide +kernel
theorem dX3_order_19 : decode cX3_order 19 = .ok (.iload_n 3, 1) := by decide +kernel
theorem dX3_order_20 : decode cX3_order 20 = .ok (.iaload, 1) := by decide +kernel
theorem dX3_order_21 : decode cX3_order 21 = .ok (.aload_n 0, 1) := by decide +kernel
theorem dX3_order_22 : decode cX3_order 22 = .ok (.getfield 15, 3) := by decide +kernel
theorem dX3_order_25 : decode cX3_order 25 = .ok (.iload 4, 2) := by decide +kernel
theorem dX3_order_27 : decode cX3_order 27 = .ok (.iaload, 1) := by decide +kernel
theorem dX3_order_28 : decode cX3_order 28 = .ok (.imul, 1) := by decide +kernel
theorem dX3_order_29 : decode cX3_order 29 = .ok (.aload_n 0, 1) := by decide +kernel
theorem dX3_order_30 : decode cX3_order 30 = .ok (.getfield 9, 3) := by decide +kernel
theorem dX3_order_33 : decode cX3_order 33 = .ok (.iload 4, 2) := by decide +kernel
theorem dX3_order_35 : decode cX3_order 35 = .ok (.iaload, 1) := by decide +kernel
theorem dX3_order_36 : decode cX3_order 36 = .ok (.aload_n 0, 1) := by decide +kernel
theorem dX3_order_37 : decode cX3_order 37 = .ok (.getfield 15, 3) := by decide +kernel
theorem dX3_order_40 : decode cX3_order 40 = .ok (.iload_n 3, 1) := by decide +kernel
theorem dX3_order_41 : decode cX3_order 41 = .ok (.iaload, 1) := by decide +kernel
theorem dX3_order_42 : decode cX3_order 42 = .ok (.imul, 1) := by decide +kernel
theorem dX3_order_43 : decode cX3_order 43 = .ok (.invokestatic 35, 3) := by decide +kernel
theorem dX3_order_46 : decode cX3_order 46 = .ok (.ireturn, 1) := by decide +kernel
theorem dX4_init_0 : decode cX4_init 0 = .ok (.aload_n 0, 1) := by decide +kernel
theorem dX4_init_1 : decode cX4_init 1 = .ok (.invokespecial 3, 3) := by decide +kernel
theorem dX4_init_4 : decode cX4_init 4 = .ok (.aload_n 0, 1) := by decide +kernel
theorem dX4_init_5 : decode cX4_init 5 = .ok (.bipush 60, 2) := by decide +kernel
theorem dX4_init_7 : decode cX4_init 7 = .ok (.newarray .int, 2) := by decide +kernel
theorem dX4_init_9 : decode cX4_init 9 = .ok (.putfield 11, 3) := by decide +kernel
theorem dX4_init_12 : decode cX4_init 12 = .ok (.aload_n 0, 1) := by decide +kernel
theorem dX4_init_13 : decode cX4_init 13 = .ok (.bipush 60, 2) := by decide +kernel
theorem dX4_init_15 : decode cX4_init 15 = .ok (.newarray .int, 2) := by decide +kernel
theorem dX4_init_17 : decode cX4_init 17 = .ok (.putfield 15, 3) := by decide +kernel
theorem dX4_init_20 : decode cX4_init 20 = .ok (.aload_n 0, 1) := by decide +kernel
theorem dX4_init_21 : decode cX4_init 21 = .ok (.bipush 60, 2) := by decide +kernel
theorem dX4_init_23 : decode cX4_init 23 = .ok (.newarray .int, 2) := by decide +kernel
theorem dX4_init_25 : decode cX4_init 25 = .ok (.putfield 18, 3) := by decide +kernel
theorem dX4_init_28 : decode cX4_init 28 = .ok (.aload_n 0, 1) := by decide +kernel
theorem dX4_init_29 : decode cX4_init 29 = .ok (.bipush 60, 2) := by decide +kernel
theorem dX4_init_31 : decode cX4_init 31 = .ok (.newarray .int, 2) := by decide +kernel
theorem dX4_init_33 : decode cX4_init 33 = .ok (.putfield 21, 3) := by decide +kernel
theorem dX4_init_36 : decode cX4_init 36 = .ok (.aload_n 0, 1) := by decide +kernel
theorem dX4_init_37 : decode cX4_init 37 = .ok (.bipush 60, 2) := by decide +kernel
theorem dX4_init_39 : decode cX4_init 39 = .ok (.newarray .int, 2) := by decide +kernel
theorem dX4_init_41 : decode cX4_init 41 = .ok (.putfield 24, 3) := by decide +kernel
theorem dX4_init_44 : decode cX4_init 44 = .ok (.aload_n 0, 1) := by decide +kernel
theorem dX4_init_45 : decode cX4_init 45 = .ok (.bipush 60, 2) := by decide +kernel
theorem dX4_init_47 : decode cX4_init 47 = .ok (.newarray .int, 2) := by decide +kernel
theorem dX4_init_49 : decode cX4_init 49 = .ok (.putfield 27, 3) := by decide +kernel
theorem dX4_init_52 : decode cX4_init 52 = .ok (.aload_n 0, 1) := by decide +kernel
theorem dX4_init_53 : decode cX4_init 53 = .ok (.sipush 999, 3) := by decide +kernel
theorem dX4_init_56 : decode cX4_init 56 = .ok (.putfield 30, 3) := by decide +kernel
theorem dX4_init_59 : decode cX4_init 59 = .ok (.return_, 1) := by decide +kernel
theorem dX4_mayBeTold_0 : decode cX4_mayBeTold 0 = .ok (.iload_n 1, 1) := by decide +kernel
theorem dX4_mayBeTold_1 : decode cX4_mayBeTold 1 = .ok (.invokestatic 34, 3) := by decide +kernel
theorem dX4_mayBeTold_4 : decode cX4_mayBeTold 4 = .ok (.ifCond .eq 15, 3) := by decide +kernel
theorem dX4_mayBeTold_7 : decode cX4_mayBeTold 7 = .ok (.iload_n 1, 1) := by decide +kernel
theorem dX4_mayBeTold_8 : decode cX4_mayBeTold 8 = .ok (.aload_n 0, 1) := by decide +kernel
theorem dX4_mayBeTold_9 : decode cX4_mayBeTold 9 = .ok (.getfield 38, 3) := by decide +kernel
theorem dX4_mayBeTold_12 : decode cX4_mayBeTold 12 = .ok (.if_icmp .lt 7, 3) := by decide +kernel
theorem dX4_mayBeTold_15 : decode cX4_mayBeTold 15 = .ok (.iconst 1, 1) := by decide +kernel
theorem dX4_mayBeTold_16 : decode cX4_mayBeTold 16 = .ok (.goto 4, 3) := by decide +kernel
theorem dX4_mayBeTold_19 : decode cX4_mayBeTold 19 = .ok (.iconst 0, 1) := by decide +kernel
theorem dX4_mayBeTold_20 : decode cX4_mayBeTold 20 = .ok (.ireturn, 1) := by decide +kernel
theorem dX4_has_0 : decode cX4_has 0 = .ok (.iload_n 1, 1) := by decide +kernel
theorem dX4_has_1 : decode cX4_has 1 = .ok (.ifCond .lt 15, 3) := by decide +kernel
theorem dX4_has_4 : decode cX4_has 4 = .ok (.iload_n 1, 1) := by decide +kernel
theorem dX4_has_5 : decode cX4_has 5 = .ok (.aload_n 0, 1) := by decide +kernel
theorem dX4_has_6 : decode cX4_has 6 = .ok (.getfield 41, 3) := by decide +kernel
theorem dX4_has_9 : decode cX4_has 9 = .ok (.if_icmp .ge 7, 3) := by decide +kernel
theorem dX4_has_12 : decode cX4_has 12 = .ok (.iconst 1, 1) := by decide +kernel
theorem dX4_has_13 : decode cX4_has 13 = .ok (.goto 4, 3) := by decide +kernel
theorem dX4_has_16 : decode cX4_has 16 = .ok (.iconst 0, 1) := by decide +kernel
theorem dX4_has_17 : decode cX4_has 17 = .ok (.ireturn, 1) := by decide +kernel
theorem dX4_add_0 : decode cX4_add 0 = .ok (.aload_n 0, 1) := by decide +kernel
theorem dX4_add_1 : decode cX4_add 1 = .ok (.getfield 41, 3) := by decide +kernel
theorem dX4_add_4 : decode cX4_add 4 = .ok (.bipush 60, 2) := by decide +kernel
theorem dX4_add_6 : decode cX4_add 6 = .ok (.if_icmp .lt 6, 3) := by decide +kernel
theorem dX4_add_9 : decode cX4_add 9 = .ok (.bipush (-4), 2) := by decide +kernel
theorem dX4_add_11 : decode cX4_add 11 = .ok (.ireturn, 1) := by decide +kernel
theorem dX4_add_12 : decode cX4_add 12 = .ok (.aload_n 0, 1) := by decide +kernel
theorem dX4_add_13 : decode cX4_add 13 = .ok (.getfield 11, 3) := by decide +kernel
theorem dX4_add_16 : decode cX4_add 16 = .ok (.aload_n 0, 1) := by decide +kernel
theorem dX4_add_17 : decode cX4_add 17 = .ok (.getfield 41, 3) := by decide +kernel
theorem dX4_add_20 : decode cX4_add 20 = .ok (.iload_n 1, 1) := by decide +kernel
theorem dX4_add_21 : decode cX4_add 21 = .ok (.iastore, 1) := by decide +kernel
theorem dX4_add_22 : decode cX4_add 22 = .ok (.aload_n 0, 1) := by decide +kernel
theorem dX4_add_23 : decode cX4_add 23 = .ok (.getfield 15, 3) := by decide +kernel
theorem dX4_add_26 : decode cX4_add 26 = .ok (.aload_n 0, 1) := by decide +kernel
theorem dX4_add_27 : decode cX4_add 27 = .ok (.getfield 41, 3) := by decide +kernel
theorem dX4_add_30 : decode cX4_add 30 = .ok (.iload_n 2, 1) := by decide +kernel
theorem dX4_add_31 : decode cX4_add 31 = .ok (.iastore, 1) := by decide +kernel
theorem dX4_add_32 : decode cX4_add 32 = .ok (.aload_n 0, 1) := by decide +kernel
theorem dX4_add_33 : decode cX4_add 33 = .ok (.getfield 18, 3) := by decide +kernel
theorem dX4_add_36 : decode cX4_add 36 = .ok (.aload_n 0, 1) := by decide +kernel
theorem dX4_add_37 : decode cX4_add 37 = .ok (.getfield 41, 3) := by decide +kernel
theorem dX4_add_40 : decode cX4_add 40 = .ok (.iload_n 3, 1) := by decide +kernel
theorem dX4_add_41 : decode cX4_add 41 = .ok (.iastore, 1) := by decide +kernel
theorem dX4_add_42 : decode cX4_add 42 = .ok (.aload_n 0, 1) := by decide +kernel
theorem dX4_add_43 : decode cX4_add 43 = .ok (.getfield 21, 3) := by decide +kernel
theorem dX4_add_46 : decode cX4_add 46 = .ok (.aload_n 0, 1) := by decide +kernel
theorem dX4_add_47 : decode cX4_add 47 = .ok (.getfield 41, 3) := by decide +kernel
theorem dX4_add_50 : decode cX4_add 50 = .ok (.iload 4, 2) := by decide +kernel
theorem dX4_add_52 : decode cX4_add 52 = .ok (.iastore, 1) := by decide +kernel
theorem dX4_add_53 : decode cX4_add 53 = .ok (.aload_n 0, 1) := by decide +kernel
theorem dX4_add_54 : decode cX4_add 54 = .ok (.getfield 24, 3) := by decide +kernel
theorem dX4_add_57 : decode cX4_add 57 = .ok (.aload_n 0, 1) := by decide +kernel
theorem dX4_add_58 : decode cX4_add 58 = .ok (.getfield 41, 3) := by decide +kernel
theorem dX4_add_61 : decode cX4_add 61 = .ok (.iload 5, 2) := by decide +kernel
theorem dX4_add_63 : decode cX4_add 63 = .ok (.iastore, 1) := by decide +kernel
theorem dX4_add_64 : decode cX4_add 64 = .ok (.aload_n 0, 1) := by decide +kernel
theorem dX4_add_65 : decode cX4_add 65 = .ok (.getfield 27, 3) := by decide +kernel
theorem dX4_add_68 : decode cX4_add 68 = .ok (.aload_n 0, 1) := by decide +kernel
theorem dX4_add_69 : decode cX4_add 69 = .ok (.getfield 41, 3) := by decide +kernel
theorem dX4_add_72 : decode cX4_add 72 = .ok (.sipush 1000, 3) := by decide +kernel
theorem dX4_add_75 : decode cX4_add 75 = .ok (.iastore, 1) := by decide +kernel
theorem dX4_add_76 : decode cX4_add 76 = .ok (.aload_n 0, 1) := by decide +kernel
theorem dX4_add_77 : decode cX4_add 77 = .ok (.iload 5, 2) := by decide +kernel
theorem dX4_add_79 : decode cX4_add 79 = .ok (.putfield 38, 3) := by decide +kernel
theorem dX4_add_82 : decode cX4_add 82 = .ok (.aload_n 0, 1) := by decide +kernel
theorem dX4_add_83 : decode cX4_add 83 = .ok (.dup, 1) := by decide +kernel
theorem dX4_add_84 : decode cX4_add 84 = .ok (.getfield 41, 3) := by decide +kernel
theorem dX4_add_87 : decode cX4_add 87 = .ok (.iconst 1, 1) := by decide +kernel
theorem dX4_add_88 : decode cX4_add 88 = .ok (.iadd, 1) := by decide +kernel
theorem dX4_add_89 : decode cX4_add 89 = .ok (.putfield 41, 3) := by decide +kernel
theorem dX4_add_92 : decode cX4_add 92 = .ok (.aload_n 0, 1) := by decide +kernel
theorem dX4_add_93 : decode cX4_add 93 = .ok (.getfield 41, 3) := by decide +kernel
theorem dX4_add_96 : decode cX4_add 96 = .ok (.iconst 1, 1) := by decide +kernel
theorem dX4_add_97 : decode cX4_add 97 = .ok (.isub, 1) := by decide +kernel
theorem dX4_add_98 : decode cX4_add 98 = .ok (.ireturn, 1) := by decide +kernel
theorem dX4_withdraw_0 : decode cX4_withdraw 0 = .ok (.aload_n 0, 1) := by decide +kernel
theorem dX4_withdraw_1 : decode cX4_withdraw 1 = .ok (.getfield 27, 3) := by decide +kernel
theorem dX4_withdraw_4 : decode cX4_withdraw 4 = .ok (.iload_n 1, 1) := by decide +kernel
theorem dX4_withdraw_5 : decode cX4_withdraw 5 = .ok (.iaload, 1) := by decide +kernel
theorem dX4_withdraw_6 : decode cX4_withdraw 6 = .ok (.sipush 1000, 3) := by decide +kernel
theorem dX4_withdraw_9 : decode cX4_withdraw 9 = .ok (.if_icmp .eq 6, 3) := by decide +kernel
theorem dX4_withdraw_12 : decode cX4_withdraw 12 = .ok (.bipush (-3), 2) := by decide +kernel
theorem dX4_withdraw_14 : decode cX4_withdraw 14 = .ok (.ireturn, 1) := by decide +kernel
theorem dX4_withdraw_15 : decode cX4_withdraw 15 = .ok (.aload_n 0, 1) := by decide +kernel
theorem dX4_withdraw_16 : decode cX4_withdraw 16 = .ok (.getfield 27, 3) := by decide +kernel
theorem dX4_withdraw_19 : decode cX4_withdraw 19 = .ok (.iload_n 1, 1) := by decide +kernel
theorem dX4_withdraw_20 : decode cX4_withdraw 20 = .ok (.iload_n 2, 1) := by decide +kernel
theorem dX4_withdraw_21 : decode cX4_withdraw 21 = .ok (.iastore, 1) := by decide +kernel
theorem dX4_withdraw_22 : decode cX4_withdraw 22 = .ok (.aload_n 0, 1) := by decide +kernel
theorem dX4_withdraw_23 : decode cX4_withdraw 23 = .ok (.iload_n 2, 1) := by decide +kernel
theorem dX4_withdraw_24 : decode cX4_withdraw 24 = .ok (.putfield 38, 3) := by decide +kernel
theorem dX4_withdraw_27 : decode cX4_withdraw 27 = .ok (.iconst 1, 1) := by decide +kernel
theorem dX4_withdraw_28 : decode cX4_withdraw 28 = .ok (.ireturn, 1) := by decide +kernel
theorem dX4_counts_0 : decode cX4_counts 0 = .ok (.aload_n 0, 1) := by decide +kernel
theorem dX4_counts_1 : decode cX4_counts 1 = .ok (.getfield 24, 3) := by decide +kernel
theorem dX4_counts_4 : decode cX4_counts 4 = .ok (.iload_n 1, 1) := by decide +kernel
theorem dX4_counts_5 : decode cX4_counts 5 = .ok (.iaload, 1) := by decide +kernel
theorem dX4_counts_6 : decode cX4_counts 6 = .ok (.aload_n 0, 1) := by decide +kernel
theorem dX4_counts_7 : decode cX4_counts 7 = .ok (.getfield 30, 3) := by decide +kernel
theorem dX4_counts_10 : decode cX4_counts 10 = .ok (.if_icmp .gt 20, 3) := by decide +kernel
theorem dX4_counts_13 : decode cX4_counts 13 = .ok (.aload_n 0, 1) := by decide +kernel
theorem dX4_counts_14 : decode cX4_counts 14 = .ok (.getfield 27, 3) := by decide +kernel
theorem dX4_counts_17 : decode cX4_counts 17 = .ok (.iload_n 1, 1) := by decide +kernel
theorem dX4_counts_18 : decode cX4_counts 18 = .ok (.iaload, 1) := by decide +kernel
theorem dX4_counts_19 : decode cX4_counts 19 = .ok (.aload_n 0, 1) := by decide +kernel
theorem dX4_counts_20 : decode cX4_counts 20 = .ok (.getfield 30, 3) := by decide +kernel
theorem dX4_counts_23 : decode cX4_counts 23 = .ok (.if_icmp .le 7, 3) := by decide +kernel
theorem dX4_counts_26 : decode cX4_counts 26 = .ok (.iconst 1, 1) := by decide +kernel
theorem dX4_counts_27 : decode cX4_counts 27 = .ok (.goto 4, 3) := by decide +kernel
theorem dX4_counts_30 : decode cX4_counts 30 = .ok (.iconst 0, 1) := by decide +kernel
theorem dX4_counts_31 : decode cX4_counts 31 = .ok (.ireturn, 1) := by decide +kernel
theorem dX4_isOf_0 : decode cX4_isOf 0 = .ok (.aload_n 0, 1) := by decide +kernel
theorem dX4_isOf_1 : decode cX4_isOf 1 = .ok (.getfield 15, 3) := by decide +kernel
theorem dX4_isOf_4 : decode cX4_isOf 4 = .ok (.iload_n 1, 1) := by decide +kernel
theorem dX4_isOf_5 : decode cX4_isOf 5 = .ok (.iaload, 1) := by decide +kernel
theorem dX4_isOf_6 : decode cX4_isOf 6 = .ok (.iload_n 3, 1) := by decide +kernel
theorem dX4_isOf_7 : decode cX4_isOf 7 = .ok (.if_icmp .ne 22, 3) := by decide +kernel
theorem dX4_isOf_10 : decode cX4_isOf 10 = .ok (.iload_n 2, 1) := by decide +kernel
theorem dX4_isOf_11 : decode cX4_isOf 11 = .ok (.iconst (-1), 1) := by decide +kernel
theorem dX4_isOf_12 : decode cX4_isOf 12 = .ok (.if_icmp .eq 13, 3) := by decide +kernel
theorem dX4_isOf_15 : decode cX4_isOf 15 = .ok (.aload_n 0, 1) := by decide +kernel
theorem dX4_isOf_16 : decode cX4_isOf 16 = .ok (.getfield 11, 3) := by decide +kernel
theorem dX4_isOf_19 : decode cX4_isOf 19 = .ok (.iload_n 1, 1) := by decide +kernel
theorem dX4_isOf_20 : decode cX4_isOf 20 = .ok (.iaload, 1) := by decide +kernel
theorem dX4_isOf_21 : decode cX4_isOf 21 = .ok (.iload_n 2, 1) := by decide +kernel
theorem dX4_isOf_22 : decode cX4_isOf 22 = .ok (.if_icmp .ne 7, 3) := by decide +kernel
theorem dX4_isOf_25 : decode cX4_isOf 25 = .ok (.iconst 1, 1) := by decide +kernel
theorem dX4_isOf_26 : decode cX4_isOf 26 = .ok (.goto 4, 3) := by decide +kernel
theorem dX4_isOf_29 : decode cX4_isOf 29 = .ok (.iconst 0, 1) := by decide +kernel
theorem dX4_isOf_30 : decode cX4_isOf 30 = .ok (.ireturn, 1) := by decide +kernel
theorem dX4_howManyCount_0 : decode cX4_howManyCount 0 = .ok (.iconst 0, 1) := by decide +kernel
theorem dX4_howManyCount_1 : decode cX4_howManyCount 1 = .ok (.istore_n 1, 1) := by decide +kernel
theorem dX4_howManyCount_2 : decode cX4_howManyCount 2 = .ok (.iconst 0, 1) := by decide +kernel
theorem dX4_howManyCount_3 : decode cX4_howManyCount 3 = .ok (.istore_n 2, 1) := by decide +kernel
theorem dX4_howManyCount_4 : decode cX4_howManyCount 4 = .ok (.iload_n 2, 1) := by decide +kernel
theorem dX4_howManyCount_5 : decode cX4_howManyCount 5 = .ok (.aload_n 0, 1) := by decide +kernel
theorem dX4_howManyCount_6 : decode cX4_howManyCount 6 = .ok (.getfield 41, 3) := by decide +kernel
theorem dX4_howManyCount_9 : decode cX4_howManyCount 9 = .ok (.if_icmp .ge 25, 3) := by decide +kernel
theorem dX4_howManyCount_12 : decode cX4_howManyCount 12 = .ok (.iload_n 1, 1) := by decide +kernel
theorem dX4_howManyCount_13 : decode cX4_howManyCount 13 = .ok (.aload_n 0, 1) := by decide +kernel
theorem dX4_howManyCount_14 : decode cX4_howManyCount 14 = .ok (.iload_n 2, 1) := by decide +kernel
theorem dX4_howManyCount_15 : decode cX4_howManyCount 15 = .ok (.invokevirtual 44, 3) := by decide +kernel
theorem dX4_howManyCount_18 : decode cX4_howManyCount 18 = .ok (.ifCond .eq 7, 3) := by decide +kernel
theorem dX4_howManyCount_21 : decode cX4_howManyCount 21 = .ok (.iconst 1, 1) := by decide +kernel
theorem dX4_howManyCount_22 : decode cX4_howManyCount 22 = .ok (.goto 4, 3) := by decide +kernel
theorem dX4_howManyCount_25 : decode cX4_howManyCount 25 = .ok (.iconst 0, 1) := by decide +kernel
theorem dX4_howManyCount_26 : decode cX4_howManyCount 26 = .ok (.iadd, 1) := by decide +kernel
theorem dX4_howManyCount_27 : decode cX4_howManyCount 27 = .ok (.istore_n 1, 1) := by decide +kernel
theorem dX4_howManyCount_28 : decode cX4_howManyCount 28 = .ok (.iinc 2 1, 3) := by decide +kernel
theorem dX4_howManyCount_31 : decode cX4_howManyCount 31 = .ok (.goto (-27), 3) := by decide +kernel
theorem dX4_howManyCount_34 : decode cX4_howManyCount 34 = .ok (.iload_n 1, 1) := by decide +kernel
theorem dX4_howManyCount_35 : decode cX4_howManyCount 35 = .ok (.ireturn, 1) := by decide +kernel
theorem dX4_tally_0 : decode cX4_tally 0 = .ok (.aload_n 3, 1) := by decide +kernel
theorem dX4_tally_1 : decode cX4_tally 1 = .ok (.invokevirtual 47, 3) := by decide +kernel
theorem dX4_tally_4 : decode cX4_tally 4 = .ok (.iconst 0, 1) := by decide +kernel
theorem dX4_tally_5 : decode cX4_tally 5 = .ok (.istore 4, 2) := by decide +kernel
theorem dX4_tally_7 : decode cX4_tally 7 = .ok (.iload 4, 2) := by decide +kernel
theorem dX4_tally_9 : decode cX4_tally 9 = .ok (.aload_n 0, 1) := by decide +kernel
theorem dX4_tally_10 : decode cX4_tally 10 = .ok (.getfield 41, 3) := by decide +kernel
theorem dX4_tally_13 : decode cX4_tally 13 = .ok (.if_icmp .ge 47, 3) := by decide +kernel
theorem dX4_tally_16 : decode cX4_tally 16 = .ok (.aload_n 0, 1) := by decide +kernel
theorem dX4_tally_17 : decode cX4_tally 17 = .ok (.iload 4, 2) := by decide +kernel
theorem dX4_tally_19 : decode cX4_tally 19 = .ok (.iload_n 1, 1) := by decide +kernel
theorem dX4_tally_20 : decode cX4_tally 20 = .ok (.iload_n 2, 1) := by decide +kernel
theorem dX4_tally_21 : decode cX4_tally 21 = .ok (.invokevirtual 52, 3) := by decide +kernel
theorem dX4_tally_24 : decode cX4_tally 24 = .ok (.ifCond .eq 30, 3) := by decide +kernel
theorem dX4_tally_27 : decode cX4_tally 27 = .ok (.aload_n 0, 1) := by decide +kernel
theorem dX4_tally_28 : decode cX4_tally 28 = .ok (.iload 4, 2) := by decide +kernel
theorem dX4_tally_30 : decode cX4_tally 30 = .ok (.invokevirtual 44, 3) := by decide +kernel
theorem dX4_tally_33 : decode cX4_tally 33 = .ok (.ifCond .eq 21, 3) := by decide +kernel
theorem dX4_tally_36 : decode cX4_tally 36 = .ok (.aload_n 3, 1) := by decide +kernel
theorem dX4_tally_37 : decode cX4_tally 37 = .ok (.aload_n 0, 1) := by decide +kernel
theorem dX4_tally_38 : decode cX4_tally 38 = .ok (.getfield 18, 3) := by decide +kernel
theorem dX4_tally_41 : decode cX4_tally 41 = .ok (.iload 4, 2) := by decide +kernel
theorem dX4_tally_43 : decode cX4_tally 43 = .ok (.iaload, 1) := by decide +kernel
theorem dX4_tally_44 : decode cX4_tally 44 = .ok (.aload_n 0, 1) := by decide +kernel
theorem dX4_tally_45 : decode cX4_tally 45 = .ok (.getfield 21, 3) := by decide +kernel
theorem dX4_tally_48 : decode cX4_tally 48 = .ok (.iload 4, 2) := by decide +kernel
theorem dX4_tally_50 : decode cX4_tally 50 = .ok (.iaload, 1) := by decide +kernel
theorem dX4_tally_51 : decode cX4_tally 51 = .ok (.invokevirtual 56, 3) := by decide +kernel
theorem dX4_tally_54 : decode cX4_tally 54 = .ok (.iinc 4 1, 3) := by decide +kernel
theorem dX4_tally_57 : decode cX4_tally 57 = .ok (.goto (-50), 3) := by decide +kernel
theorem dX4_tally_60 : decode cX4_tally 60 = .ok (.return_, 1) := by decide +kernel
theorem dX5_init_0 : decode cX5_init 0 = .ok (.aload_n 0, 1) := by decide +kernel
theorem dX5_init_1 : decode cX5_init 1 = .ok (.invokespecial 3, 3) := by decide +kernel
theorem dX5_init_4 : decode cX5_init 4 = .ok (.aload_n 0, 1) := by decide +kernel
theorem dX5_init_5 : decode cX5_init 5 = .ok (.bipush 24, 2) := by decide +kernel
theorem dX5_init_7 : decode cX5_init 7 = .ok (.newarray .int, 2) := by decide +kernel
theorem dX5_init_9 : decode cX5_init 9 = .ok (.putfield 11, 3) := by decide +kernel
theorem dX5_init_12 : decode cX5_init 12 = .ok (.aload_n 0, 1) := by decide +kernel
theorem dX5_init_13 : decode cX5_init 13 = .ok (.bipush 24, 2) := by decide +kernel
theorem dX5_init_15 : decode cX5_init 15 = .ok (.newarray .int, 2) := by decide +kernel
theorem dX5_init_17 : decode cX5_init 17 = .ok (.putfield 15, 3) := by decide +kernel
theorem dX5_init_20 : decode cX5_init 20 = .ok (.return_, 1) := by decide +kernel
theorem dX5_add_0 : decode cX5_add 0 = .ok (.aload_n 0, 1) := by decide +kernel
theorem dX5_add_1 : decode cX5_add 1 = .ok (.getfield 18, 3) := by decide +kernel
theorem dX5_add_4 : decode cX5_add 4 = .ok (.bipush 24, 2) := by decide +kernel
theorem dX5_add_6 : decode cX5_add 6 = .ok (.if_icmp .lt 6, 3) := by decide +kernel
theorem dX5_add_9 : decode cX5_add 9 = .ok (.bipush (-4), 2) := by decide +kernel
theorem dX5_add_11 : decode cX5_add 11 = .ok (.ireturn, 1) := by decide +kernel
theorem dX5_add_12 : decode cX5_add 12 = .ok (.aload_n 0, 1) := by decide +kernel
theorem dX5_add_13 : decode cX5_add 13 = .ok (.getfield 11, 3) := by decide +kernel
theorem dX5_add_16 : decode cX5_add 16 = .ok (.aload_n 0, 1) := by decide +kernel
theorem dX5_add_17 : decode cX5_add 17 = .ok (.getfield 18, 3) := by decide +kernel
theorem dX5_add_20 : decode cX5_add 20 = .ok (.iload_n 1, 1) := by decide +kernel
theorem dX5_add_21 : decode cX5_add 21 = .ok (.iastore, 1) := by decide +kernel
theorem dX5_add_22 : decode cX5_add 22 = .ok (.aload_n 0, 1) := by decide +kernel
theorem dX5_add_23 : decode cX5_add 23 = .ok (.getfield 15, 3) := by decide +kernel
theorem dX5_add_26 : decode cX5_add 26 = .ok (.aload_n 0, 1) := by decide +kernel
theorem dX5_add_27 : decode cX5_add 27 = .ok (.getfield 18, 3) := by decide +kernel
theorem dX5_add_30 : decode cX5_add 30 = .ok (.iload_n 2, 1) := by decide +kernel
theorem dX5_add_31 : decode cX5_add 31 = .ok (.iastore, 1) := by decide +kernel
theorem dX5_add_32 : decode cX5_add 32 = .ok (.aload_n 0, 1) := by decide +kernel
theorem dX5_add_33 : decode cX5_add 33 = .ok (.dup, 1) := by decide +kernel
theorem dX5_add_34 : decode cX5_add 34 = .ok (.getfield 18, 3) := by decide +kernel
theorem dX5_add_37 : decode cX5_add 37 = .ok (.iconst 1, 1) := by decide +kernel
theorem dX5_add_38 : decode cX5_add 38 = .ok (.iadd, 1) := by decide +kernel
theorem dX5_add_39 : decode cX5_add 39 = .ok (.putfield 18, 3) := by decide +kernel
theorem dX5_add_42 : decode cX5_add 42 = .ok (.aload_n 0, 1) := by decide +kernel
theorem dX5_add_43 : decode cX5_add 43 = .ok (.getfield 18, 3) := by decide +kernel
theorem dX5_add_46 : decode cX5_add 46 = .ok (.ireturn, 1) := by decide +kernel
theorem dX5_missesOf_0 : decode cX5_missesOf 0 = .ok (.iconst 0, 1) := by decide +kernel
theorem dX5_missesOf_1 : decode cX5_missesOf 1 = .ok (.istore_n 3, 1) := by decide +kernel
theorem dX5_missesOf_2 : decode cX5_missesOf 2 = .ok (.iconst 1, 1) := by decide +kernel
theorem dX5_missesOf_3 : decode cX5_missesOf 3 = .ok (.istore 4, 2) := by decide +kernel
theorem dX5_missesOf_5 : decode cX5_missesOf 5 = .ok (.iload 4, 2) := by decide +kernel
theorem dX5_missesOf_7 : decode cX5_missesOf 7 = .ok (.aload_n 0, 1) := by decide +kernel
theorem dX5_missesOf_8 : decode cX5_missesOf 8 = .ok (.getfield 18, 3) := by decide +kernel
theorem dX5_missesOf_11 : decode cX5_missesOf 11 = .ok (.if_icmp .ge 69, 3) := by decide +kernel
theorem dX5_missesOf_14 : decode cX5_missesOf 14 = .ok (.aload_n 0, 1) := by decide +kernel
theorem dX5_missesOf_15 : decode cX5_missesOf 15 = .ok (.getfield 15, 3) := by decide +kernel
theorem dX5_missesOf_18 : decode cX5_missesOf 18 = .ok (.iload 4, 2) := by decide +kernel
theorem dX5_missesOf_20 : decode cX5_missesOf 20 = .ok (.iconst 1, 1) := by decide +kernel
theorem dX5_missesOf_21 : decode cX5_missesOf 21 = .ok (.isub, 1) := by decide +kernel
theorem dX5_missesOf_22 : decode cX5_missesOf 22 = .ok (.iaload, 1) := by decide +kernel
theorem dX5_missesOf_23 : decode cX5_missesOf 23 = .ok (.iconst 1, 1) := by decide +kernel
theorem dX5_missesOf_24 : decode cX5_missesOf 24 = .ok (.if_icmp .ne 8, 3) := by decide +kernel
theorem dX5_missesOf_27 : decode cX5_missesOf 27 = .ok (.iload_n 2, 1) := by decide +kernel
theorem dX5_missesOf_28 : decode cX5_missesOf 28 = .ok (.ineg, 1) := by decide +kernel
theorem dX5_missesOf_29 : decode cX5_missesOf 29 = .ok (.goto 4, 3) := by decide +kernel
theorem dX5_missesOf_32 : decode cX5_missesOf 32 = .ok (.iload_n 1, 1) := by decide +kernel
theorem dX5_missesOf_33 : decode cX5_missesOf 33 = .ok (.istore 5, 2) := by decide +kernel
theorem dX5_missesOf_35 : decode cX5_missesOf 35 = .ok (.iconst 0, 1) := by decide +kernel
theorem dX5_missesOf_36 : decode cX5_missesOf 36 = .ok (.bipush 10, 2) := by decide +kernel
theorem dX5_missesOf_38 : decode cX5_missesOf 38 = .ok (.aload_n 0, 1) := by decide +kernel
theorem dX5_missesOf_39 : decode cX5_missesOf 39 = .ok (.getfield 11, 3) := by decide +kernel
theorem dX5_missesOf_42 : decode cX5_missesOf 42 = .ok (.iload 4, 2) := by decide +kernel
theorem dX5_missesOf_44 : decode cX5_missesOf 44 = .ok (.iconst 1, 1) := by decide +kernel
theorem dX5_missesOf_45 : decode cX5_missesOf 45 = .ok (.isub, 1) := by decide +kernel
theorem dX5_missesOf_46 : decode cX5_missesOf 46 = .ok (.iaload, 1) := by decide +kernel
theorem dX5_missesOf_47 : decode cX5_missesOf 47 = .ok (.iload 5, 2) := by decide +kernel
theorem dX5_missesOf_49 : decode cX5_missesOf 49 = .ok (.iadd, 1) := by decide +kernel
theorem dX5_missesOf_50 : decode cX5_missesOf 50 = .ok (.invokestatic 22, 3) := by decide +kernel
theorem dX5_missesOf_53 : decode cX5_missesOf 53 = .ok (.invokestatic 28, 3) := by decide +kernel
theorem dX5_missesOf_56 : decode cX5_missesOf 56 = .ok (.istore 6, 2) := by decide +kernel
theorem dX5_missesOf_58 : decode cX5_missesOf 58 = .ok (.iload_n 3, 1) := by decide +kernel
theorem dX5_missesOf_59 : decode cX5_missesOf 59 = .ok (.aload_n 0, 1) := by decide +kernel
theorem dX5_missesOf_60 : decode cX5_missesOf 60 = .ok (.getfield 11, 3) := by decide +kernel
theorem dX5_missesOf_63 : decode cX5_missesOf 63 = .ok (.iload 4, 2) := by decide +kernel
theorem dX5_missesOf_65 : decode cX5_missesOf 65 = .ok (.iaload, 1) := by decide +kernel
theorem dX5_missesOf_66 : decode cX5_missesOf 66 = .ok (.iload 6, 2) := by decide +kernel
theorem dX5_missesOf_68 : decode cX5_missesOf 68 = .ok (.isub, 1) := by decide +kernel
theorem dX5_missesOf_69 : decode cX5_missesOf 69 = .ok (.invokestatic 31, 3) := by decide +kernel
theorem dX5_missesOf_72 : decode cX5_missesOf 72 = .ok (.iadd, 1) := by decide +kernel
theorem dX5_missesOf_73 : decode cX5_missesOf 73 = .ok (.istore_n 3, 1) := by decide +kernel
theorem dX5_missesOf_74 : decode cX5_missesOf 74 = .ok (.iinc 4 1, 3) := by decide +kernel
theorem dX5_missesOf_77 : decode cX5_missesOf 77 = .ok (.goto (-72), 3) := by decide +kernel
theorem dX5_missesOf_80 : decode cX5_missesOf 80 = .ok (.iload_n 3, 1) := by decide +kernel
theorem dX5_missesOf_81 : decode cX5_missesOf 81 = .ok (.ireturn, 1) := by decide +kernel
theorem dX5_learn_0 : decode cX5_learn 0 = .ok (.aload_n 0, 1) := by decide +kernel
theorem dX5_learn_1 : decode cX5_learn 1 = .ok (.iconst 0, 1) := by decide +kernel
theorem dX5_learn_2 : decode cX5_learn 2 = .ok (.putfield 35, 3) := by decide +kernel
theorem dX5_learn_5 : decode cX5_learn 5 = .ok (.aload_n 0, 1) := by decide +kernel
theorem dX5_learn_6 : decode cX5_learn 6 = .ok (.iconst 0, 1) := by decide +kernel
theorem dX5_learn_7 : decode cX5_learn 7 = .ok (.putfield 38, 3) := by decide +kernel
theorem dX5_learn_10 : decode cX5_learn 10 = .ok (.aload_n 0, 1) := by decide +kernel
theorem dX5_learn_11 : decode cX5_learn 11 = .ok (.aload_n 0, 1) := by decide +kernel
theorem dX5_learn_12 : decode cX5_learn 12 = .ok (.iconst 0, 1) := by decide +kernel
theorem dX5_learn_13 : decode cX5_learn 13 = .ok (.iconst 0, 1) := by decide +kernel
theorem dX5_learn_14 : decode cX5_learn 14 = .ok (.invokevirtual 41, 3) := by decide +kernel
theorem dX5_learn_17 : decode cX5_learn 17 = .ok (.putfield 44, 3) := by decide +kernel
theorem dX5_learn_20 : decode cX5_learn 20 = .ok (.iconst 0, 1) := by decide +kernel
theorem dX5_learn_21 : decode cX5_learn 21 = .ok (.istore_n 1, 1) := by decide +kernel
theorem dX5_learn_22 : decode cX5_learn 22 = .ok (.iload_n 1, 1) := by decide +kernel
theorem dX5_learn_23 : decode cX5_learn 23 = .ok (.iconst 4, 1) := by decide +kernel
theorem dX5_learn_24 : decode cX5_learn 24 = .ok (.if_icmp .gt 52, 3) := by decide +kernel
theorem dX5_learn_27 : decode cX5_learn 27 = .ok (.iconst 0, 1) := by decide +kernel
theorem dX5_learn_28 : decode cX5_learn 28 = .ok (.istore_n 2, 1) := by decide +kernel
theorem dX5_learn_29 : decode cX5_learn 29 = .ok (.iload_n 2, 1) := by decide +kernel
theorem dX5_learn_30 : decode cX5_learn 30 = .ok (.iconst 4, 1) := by decide +kernel
theorem dX5_learn_31 : decode cX5_learn 31 = .ok (.if_icmp .gt 39, 3) := by decide +kernel
theorem dX5_learn_34 : decode cX5_learn 34 = .ok (.aload_n 0, 1) := by decide +kernel
theorem dX5_learn_35 : decode cX5_learn 35 = .ok (.iload_n 1, 1) := by decide +kernel
theorem dX5_learn_36 : decode cX5_learn 36 = .ok (.iload_n 2, 1) := by decide +kernel
theorem dX5_learn_37 : decode cX5_learn 37 = .ok (.invokevirtual 41, 3) := by decide +kernel
theorem dX5_learn_40 : decode cX5_learn 40 = .ok (.istore_n 3, 1) := by decide +kernel
theorem dX5_learn_41 : decode cX5_learn 41 = .ok (.iload_n 3, 1) := by decide +kernel
theorem dX5_learn_42 : decode cX5_learn 42 = .ok (.aload_n 0, 1) := by decide +kernel
theorem dX5_learn_43 : decode cX5_learn 43 = .ok (.getfield 44, 3) := by decide +kernel
theorem dX5_learn_46 : decode cX5_learn 46 = .ok (.if_icmp .ge 18, 3) := by decide +kernel
theorem dX5_learn_49 : decode cX5_learn 49 = .ok (.aload_n 0, 1) := by decide +kernel
theorem dX5_learn_50 : decode cX5_learn 50 = .ok (.iload_n 3, 1) := by decide +kernel
theorem dX5_learn_51 : decode cX5_learn 51 = .ok (.putfield 44, 3) := by decide +kernel
theorem dX5_learn_54 : decode cX5_learn 54 = .ok (.aload_n 0, 1) := by decide +kernel
theorem dX5_learn_55 : decode cX5_learn 55 = .ok (.iload_n 1, 1) := by decide +kernel
theorem dX5_learn_56 : decode cX5_learn 56 = .ok (.putfield 35, 3) := by decide +kernel
theorem dX5_learn_59 : decode cX5_learn 59 = .ok (.aload_n 0, 1) := by decide +kernel
theorem dX5_learn_60 : decode cX5_learn 60 = .ok (.iload_n 2, 1) := by decide +kernel
theorem dX5_learn_61 : decode cX5_learn 61 = .ok (.putfield 38, 3) := by decide +kernel
theorem dX5_learn_64 : decode cX5_learn 64 = .ok (.iinc 2 1, 3) := by decide +kernel
theorem dX5_learn_67 : decode cX5_learn 67 = .ok (.goto (-38), 3) := by decide +kernel
theorem dX5_learn_70 : decode cX5_learn 70 = .ok (.iinc 1 1, 3) := by decide +kernel
theorem dX5_learn_73 : decode cX5_learn 73 = .ok (.goto (-51), 3) := by decide +kernel
theorem dX5_learn_76 : decode cX5_learn 76 = .ok (.return_, 1) := by decide +kernel
theorem dX5_got_0 : decode cX5_got 0 = .ok (.iconst 0, 1) := by decide +kernel
theorem dX5_got_1 : decode cX5_got 1 = .ok (.istore_n 1, 1) := by decide +kernel
theorem dX5_got_2 : decode cX5_got 2 = .ok (.iconst 0, 1) := by decide +kernel
theorem dX5_got_3 : decode cX5_got 3 = .ok (.istore_n 2, 1) := by decide +kernel
theorem dX5_got_4 : decode cX5_got 4 = .ok (.iload_n 2, 1) := by decide +kernel
theorem dX5_got_5 : decode cX5_got 5 = .ok (.aload_n 0, 1) := by decide +kernel
theorem dX5_got_6 : decode cX5_got 6 = .ok (.getfield 18, 3) := by decide +kernel
theorem dX5_got_9 : decode cX5_got 9 = .ok (.if_icmp .ge 28, 3) := by decide +kernel
theorem dX5_got_12 : decode cX5_got 12 = .ok (.iload_n 1, 1) := by decide +kernel
theorem dX5_got_13 : decode cX5_got 13 = .ok (.aload_n 0, 1) := by decide +kernel
theorem dX5_got_14 : decode cX5_got 14 = .ok (.getfield 15, 3) := by decide +kernel
theorem dX5_got_17 : decode cX5_got 17 = .ok (.iload_n 2, 1) := by decide +kernel
theorem dX5_got_18 : decode cX5_got 18 = .ok (.iaload, 1) := by decide +kernel
theorem dX5_got_19 : decode cX5_got 19 = .ok (.bipush 10, 2) := by decide +kernel
theorem dX5_got_21 : decode cX5_got 21 = .ok (.aload_n 0, 1) := by decide +kernel
theorem dX5_got_22 : decode cX5_got 22 = .ok (.getfield 11, 3) := by decide +kernel
theorem dX5_got_25 : decode cX5_got 25 = .ok (.iload_n 2, 1) := by decide +kernel
theorem dX5_got_26 : decode cX5_got 26 = .ok (.iaload, 1) := by decide +kernel
theorem dX5_got_27 : decode cX5_got 27 = .ok (.isub, 1) := by decide +kernel
theorem dX5_got_28 : decode cX5_got 28 = .ok (.imul, 1) := by decide +kernel
theorem dX5_got_29 : decode cX5_got 29 = .ok (.iadd, 1) := by decide +kernel
theorem dX5_got_30 : decode cX5_got 30 = .ok (.istore_n 1, 1) := by decide +kernel
theorem dX5_got_31 : decode cX5_got 31 = .ok (.iinc 2 1, 3) := by decide +kernel
theorem dX5_got_34 : decode cX5_got 34 = .ok (.goto (-30), 3) := by decide +kernel
theorem dX5_got_37 : decode cX5_got 37 = .ok (.iload_n 1, 1) := by decide +kernel
theorem dX5_got_38 : decode cX5_got 38 = .ok (.ireturn, 1) := by decide +kernel
theorem dX5_could_0 : decode cX5_could 0 = .ok (.iconst 0, 1) := by decide +kernel
theorem dX5_could_1 : decode cX5_could 1 = .ok (.istore_n 1, 1) := by decide +kernel
theorem dX5_could_2 : decode cX5_could 2 = .ok (.iconst 0, 1) := by decide +kernel
theorem dX5_could_3 : decode cX5_could 3 = .ok (.istore_n 2, 1) := by decide +kernel
theorem dX5_could_4 : decode cX5_could 4 = .ok (.iload_n 2, 1) := by decide +kernel
theorem dX5_could_5 : decode cX5_could 5 = .ok (.bipush 11, 2) := by decide +kernel
theorem dX5_could_7 : decode cX5_could 7 = .ok (.if_icmp .ge 24, 3) := by decide +kernel
theorem dX5_could_10 : decode cX5_could 10 = .ok (.iload_n 1, 1) := by decide +kernel
theorem dX5_could_11 : decode cX5_could 11 = .ok (.bipush 10, 2) := by decide +kernel
theorem dX5_could_13 : decode cX5_could 13 = .ok (.iload_n 2, 1) := by decide +kernel
theorem dX5_could_14 : decode cX5_could 14 = .ok (.isub, 1) := by decide +kernel
theorem dX5_could_15 : decode cX5_could 15 = .ok (.aload_n 0, 1) := by decide +kernel
theorem dX5_could_16 : decode cX5_could 16 = .ok (.iload_n 2, 1) := by decide +kernel
theorem dX5_could_17 : decode cX5_could 17 = .ok (.invokevirtual 47, 3) := by decide +kernel
theorem dX5_could_20 : decode cX5_could 20 = .ok (.imul, 1) := by decide +kernel
theorem dX5_could_21 : decode cX5_could 21 = .ok (.invokestatic 28, 3) := by decide +kernel
theorem dX5_could_24 : decode cX5_could 24 = .ok (.istore_n 1, 1) := by decide +kernel
theorem dX5_could_25 : decode cX5_could 25 = .ok (.iinc 2 1, 3) := by decide +kernel
theorem dX5_could_28 : decode cX5_could 28 = .ok (.goto (-24), 3) := by decide +kernel
theorem dX5_could_31 : decode cX5_could 31 = .ok (.iload_n 1, 1) := by decide +kernel
theorem dX5_could_32 : decode cX5_could 32 = .ok (.ireturn, 1) := by decide +kernel
theorem dX5_takenUpTo_0 : decode cX5_takenUpTo 0 = .ok (.iconst 0, 1) := by decide +kernel
theorem dX5_takenUpTo_1 : decode cX5_takenUpTo 1 = .ok (.istore_n 2, 1) := by decide +kernel
theorem dX5_takenUpTo_2 : decode cX5_takenUpTo 2 = .ok (.iconst 0, 1) := by decide +kernel
theorem dX5_takenUpTo_3 : decode cX5_takenUpTo 3 = .ok (.istore_n 3, 1) := by decide +kernel
theorem dX5_takenUpTo_4 : decode cX5_takenUpTo 4 = .ok (.iload_n 3, 1) := by decide +kernel
theorem dX5_takenUpTo_5 : decode cX5_takenUpTo 5 = .ok (.aload_n 0, 1) := by decide +kernel
theorem dX5_takenUpTo_6 : decode cX5_takenUpTo 6 = .ok (.getfield 18, 3) := by decide +kernel
theorem dX5_takenUpTo_9 : decode cX5_takenUpTo 9 = .ok (.if_icmp .ge 32, 3) := by decide +kernel
theorem dX5_takenUpTo_12 : decode cX5_takenUpTo 12 = .ok (.iload_n 2, 1) := by decide +kernel
theorem dX5_takenUpTo_13 : decode cX5_takenUpTo 13 = .ok (.aload_n 0, 1) := by decide +kernel
theorem dX5_takenUpTo_14 : decode cX5_takenUpTo 14 = .ok (.getfield 11, 3) := by decide +kernel
theorem dX5_takenUpTo_17 : decode cX5_takenUpTo 17 = .ok (.iload_n 3, 1) := by decide +kernel
theorem dX5_takenUpTo_18 : decode cX5_takenUpTo 18 = .ok (.iaload, 1) := by decide +kernel
theorem dX5_takenUpTo_19 : decode cX5_takenUpTo 19 = .ok (.iload_n 1, 1) := by decide +kernel
theorem dX5_takenUpTo_20 : decode cX5_takenUpTo 20 = .ok (.if_icmp .gt 12, 3) := by decide +kernel
theorem dX5_takenUpTo_23 : decode cX5_takenUpTo 23 = .ok (.aload_n 0, 1) := by decide +kernel
theorem dX5_takenUpTo_24 : decode cX5_takenUpTo 24 = .ok (.getfield 15, 3) := by decide +kernel
theorem dX5_takenUpTo_27 : decode cX5_takenUpTo 27 = .ok (.iload_n 3, 1) := by decide +kernel
theorem dX5_takenUpTo_28 : decode cX5_takenUpTo 28 = .ok (.iaload, 1) := by decide +kernel
theorem dX5_takenUpTo_29 : decode cX5_takenUpTo 29 = .ok (.goto 4, 3) := by decide +kernel
theorem dX5_takenUpTo_32 : decode cX5_takenUpTo 32 = .ok (.iconst 0, 1) := by decide +kernel
theorem dX5_takenUpTo_33 : decode cX5_takenUpTo 33 = .ok (.iadd, 1) := by decide +kernel
theorem dX5_takenUpTo_34 : decode cX5_takenUpTo 34 = .ok (.istore_n 2, 1) := by decide +kernel
theorem dX5_takenUpTo_35 : decode cX5_takenUpTo 35 = .ok (.iinc 3 1, 3) := by decide +kernel
theorem dX5_takenUpTo_38 : decode cX5_takenUpTo 38 = .ok (.goto (-34), 3) := by decide +kernel
theorem dX5_takenUpTo_41 : decode cX5_takenUpTo 41 = .ok (.iload_n 2, 1) := by decide +kernel
theorem dX5_takenUpTo_42 : decode cX5_takenUpTo 42 = .ok (.ireturn, 1) := by decide +kernel
theorem dX6_init_0 : decode cX6_init 0 = .ok (.aload_n 0, 1) := by decide +kernel
theorem dX6_init_1 : decode cX6_init 1 = .ok (.invokespecial 3, 3) := by decide +kernel
theorem dX6_init_4 : decode cX6_init 4 = .ok (.aload_n 0, 1) := by decide +kernel
theorem dX6_init_5 : decode cX6_init 5 = .ok (.bipush 12, 2) := by decide +kernel
theorem dX6_init_7 : decode cX6_init 7 = .ok (.newarray .int, 2) := by decide +kernel
theorem dX6_init_9 : decode cX6_init 9 = .ok (.putfield 11, 3) := by decide +kernel
theorem dX6_init_12 : decode cX6_init 12 = .ok (.aload_n 0, 1) := by decide +kernel
theorem dX6_init_13 : decode cX6_init 13 = .ok (.bipush 12, 2) := by decide +kernel
theorem dX6_init_15 : decode cX6_init 15 = .ok (.newarray .int, 2) := by decide +kernel
theorem dX6_init_17 : decode cX6_init 17 = .ok (.putfield 15, 3) := by decide +kernel
theorem dX6_init_20 : decode cX6_init 20 = .ok (.aload_n 0, 1) := by decide +kernel
theorem dX6_init_21 : decode cX6_init 21 = .ok (.bipush 11, 2) := by decide +kernel
theorem dX6_init_23 : decode cX6_init 23 = .ok (.newarray .int, 2) := by decide +kernel
theorem dX6_init_25 : decode cX6_init 25 = .ok (.putfield 18, 3) := by decide +kernel
theorem dX6_init_28 : decode cX6_init 28 = .ok (.return_, 1) := by decide +kernel
theorem dX6_has_0 : decode cX6_has 0 = .ok (.iload_n 1, 1) := by decide +kernel
theorem dX6_has_1 : decode cX6_has 1 = .ok (.ifCond .lt 15, 3) := by decide +kernel
theorem dX6_has_4 : decode cX6_has 4 = .ok (.iload_n 1, 1) := by decide +kernel
theorem dX6_has_5 : decode cX6_has 5 = .ok (.aload_n 0, 1) := by decide +kernel
theorem dX6_has_6 : decode cX6_has 6 = .ok (.getfield 21, 3) := by decide +kernel
theorem dX6_has_9 : decode cX6_has 9 = .ok (.if_icmp .ge 7, 3) := by decide +kernel
theorem dX6_has_12 : decode cX6_has 12 = .ok (.iconst 1, 1) := by decide +kernel
theorem dX6_has_13 : decode cX6_has 13 = .ok (.goto 4, 3) := by decide +kernel
theorem dX6_has_16 : decode cX6_has 16 = .ok (.iconst 0, 1) := by decide +kernel
theorem dX6_has_17 : decode cX6_has 17 = .ok (.ireturn, 1) := by decide +kernel
theorem dX6_add_0 : decode cX6_add 0 = .ok (.aload_n 0, 1) := by decide +kernel
theorem dX6_add_1 : decode cX6_add 1 = .ok (.getfield 21, 3) := by decide +kernel
theorem dX6_add_4 : decode cX6_add 4 = .ok (.bipush 12, 2) := by decide +kernel
theorem dX6_add_6 : decode cX6_add 6 = .ok (.if_icmp .lt 6, 3) := by decide +kernel
theorem dX6_add_9 : decode cX6_add 9 = .ok (.bipush (-4), 2) := by decide +kernel
theorem dX6_add_11 : decode cX6_add 11 = .ok (.ireturn, 1) := by decide +kernel
theorem dX6_add_12 : decode cX6_add 12 = .ok (.aload_n 0, 1) := by decide +kernel
theorem dX6_add_13 : decode cX6_add 13 = .ok (.getfield 11, 3) := by decide +kernel
theorem dX6_add_16 : decode cX6_add 16 = .ok (.aload_n 0, 1) := by decide +kernel
theorem dX6_add_17 : decode cX6_add 17 = .ok (.getfield 21, 3) := by decide +kernel
theorem dX6_add_20 : decode cX6_add 20 = .ok (.iload_n 1, 1) := by decide +kernel
theorem dX6_add_21 : decode cX6_add 21 = .ok (.iastore, 1) := by decide +kernel
theorem dX6_add_22 : decode cX6_add 22 = .ok (.aload_n 0, 1) := by decide +kernel
theorem dX6_add_23 : decode cX6_add 23 = .ok (.getfield 15, 3) := by decide +kernel
theorem dX6_add_26 : decode cX6_add 26 = .ok (.aload_n 0, 1) := by decide +kernel
theorem dX6_add_27 : decode cX6_add 27 = .ok (.getfield 21, 3) := by decide +kernel
theorem dX6_add_30 : decode cX6_add 30 = .ok (.iload_n 2, 1) := by decide +kernel
theorem dX6_add_31 : decode cX6_add 31 = .ok (.iastore, 1) := by decide +kernel
theorem dX6_add_32 : decode cX6_add 32 = .ok (.aload_n 0, 1) := by decide +kernel
theorem dX6_add_33 : decode cX6_add 33 = .ok (.dup, 1) := by decide +kernel
theorem dX6_add_34 : decode cX6_add 34 = .ok (.getfield 21, 3) := by decide +kernel
theorem dX6_add_37 : decode cX6_add 37 = .ok (.iconst 1, 1) := by decide +kernel
theorem dX6_add_38 : decode cX6_add 38 = .ok (.iadd, 1) := by decide +kernel
theorem dX6_add_39 : decode cX6_add 39 = .ok (.putfield 21, 3) := by decide +kernel
theorem dX6_add_42 : decode cX6_add 42 = .ok (.aload_n 0, 1) := by decide +kernel
theorem dX6_add_43 : decode cX6_add 43 = .ok (.getfield 21, 3) := by decide +kernel
theorem dX6_add_46 : decode cX6_add 46 = .ok (.iconst 1, 1) := by decide +kernel
theorem dX6_add_47 : decode cX6_add 47 = .ok (.isub, 1) := by decide +kernel
theorem dX6_add_48 : decode cX6_add 48 = .ok (.ireturn, 1) := by decide +kernel
theorem dX6_mend_0 : decode cX6_mend 0 = .ok (.aload_n 0, 1) := by decide +kernel
theorem dX6_mend_1 : decode cX6_mend 1 = .ok (.bipush 12, 2) := by decide +kernel
theorem dX6_mend_3 : decode cX6_mend 3 = .ok (.putfield 25, 3) := by decide +kernel
theorem dX6_mend_6 : decode cX6_mend 6 = .ok (.iconst 0, 1) := by decide +kernel
theorem dX6_mend_7 : decode cX6_mend 7 = .ok (.istore_n 2, 1) := by decide +kernel
theorem dX6_mend_8 : decode cX6_mend 8 = .ok (.iload_n 2, 1) := by decide +kernel
theorem dX6_mend_9 : decode cX6_mend 9 = .ok (.bipush 11, 2) := by decide +kernel
theorem dX6_mend_11 : decode cX6_mend 11 = .ok (.if_icmp .ge 75, 3) := by decide +kernel
theorem dX6_mend_14 : decode cX6_mend 14 = .ok (.bipush 10, 2) := by decide +kernel
theorem dX6_mend_16 : decode cX6_mend 16 = .ok (.istore_n 3, 1) := by decide +kernel
theorem dX6_mend_17 : decode cX6_mend 17 = .ok (.iload_n 3, 1) := by decide +kernel
theorem dX6_mend_18 : decode cX6_mend 18 = .ok (.iload_n 2, 1) := by decide +kernel
theorem dX6_mend_19 : decode cX6_mend 19 = .ok (.if_icmp .lt 61, 3) := by decide +kernel
theorem dX6_mend_22 : decode cX6_mend 22 = .ok (.iconst 1, 1) := by decide +kernel
theorem dX6_mend_23 : decode cX6_mend 23 = .ok (.iload_n 3, 1) := by decide +kernel
theorem dX6_mend_24 : decode cX6_mend 24 = .ok (.iload_n 2, 1) := by decide +kernel
theorem dX6_mend_25 : decode cX6_mend 25 = .ok (.isub, 1) := by decide +kernel
theorem dX6_mend_26 : decode cX6_mend 26 = .ok (.iconst 1, 1) := by decide +kernel
theorem dX6_mend_27 : decode cX6_mend 27 = .ok (.iadd, 1) := by decide +kernel
theorem dX6_mend_28 : decode cX6_mend 28 = .ok (.ishl, 1) := by decide +kernel
theorem dX6_mend_29 : decode cX6_mend 29 = .ok (.iconst 1, 1) := by decide +kernel
theorem dX6_mend_30 : decode cX6_mend 30 = .ok (.isub, 1) := by decide +kernel
theorem dX6_mend_31 : decode cX6_mend 31 = .ok (.iload_n 2, 1) := by decide +kernel
theorem dX6_mend_32 : decode cX6_mend 32 = .ok (.ishl, 1) := by decide +kernel
theorem dX6_mend_33 : decode cX6_mend 33 = .ok (.istore 4, 2) := by decide +kernel
theorem dX6_mend_35 : decode cX6_mend 35 = .ok (.aload_n 0, 1) := by decide +kernel
theorem dX6_mend_36 : decode cX6_mend 36 = .ok (.getfield 15, 3) := by decide +kernel
theorem dX6_mend_39 : decode cX6_mend 39 = .ok (.iload_n 1, 1) := by decide +kernel
theorem dX6_mend_40 : decode cX6_mend 40 = .ok (.iaload, 1) := by decide +kernel
theorem dX6_mend_41 : decode cX6_mend 41 = .ok (.iload 4, 2) := by decide +kernel
theorem dX6_mend_43 : decode cX6_mend 43 = .ok (.ixor, 1) := by decide +kernel
theorem dX6_mend_44 : decode cX6_mend 44 = .ok (.invokestatic 28, 3) := by decide +kernel
theorem dX6_mend_47 : decode cX6_mend 47 = .ok (.istore 5, 2) := by decide +kernel
theorem dX6_mend_49 : decode cX6_mend 49 = .ok (.iload 5, 2) := by decide +kernel
theorem dX6_mend_51 : decode cX6_mend 51 = .ok (.aload_n 0, 1) := by decide +kernel
theorem dX6_mend_52 : decode cX6_mend 52 = .ok (.getfield 25, 3) := by decide +kernel
theorem dX6_mend_55 : decode cX6_mend 55 = .ok (.if_icmp .ge 19, 3) := by decide +kernel
theorem dX6_mend_58 : decode cX6_mend 58 = .ok (.aload_n 0, 1) := by decide +kernel
theorem dX6_mend_59 : decode cX6_mend 59 = .ok (.iload 5, 2) := by decide +kernel
theorem dX6_mend_61 : decode cX6_mend 61 = .ok (.putfield 25, 3) := by decide +kernel
theorem dX6_mend_64 : decode cX6_mend 64 = .ok (.aload_n 0, 1) := by decide +kernel
theorem dX6_mend_65 : decode cX6_mend 65 = .ok (.iload_n 2, 1) := by decide +kernel
theorem dX6_mend_66 : decode cX6_mend 66 = .ok (.putfield 34, 3) := by decide +kernel
theorem dX6_mend_69 : decode cX6_mend 69 = .ok (.aload_n 0, 1) := by decide +kernel
theorem dX6_mend_70 : decode cX6_mend 70 = .ok (.iload_n 3, 1) := by decide +kernel
theorem dX6_mend_71 : decode cX6_mend 71 = .ok (.putfield 37, 3) := by decide +kernel
theorem dX6_mend_74 : decode cX6_mend 74 = .ok (.iinc 3 (-1), 3) := by decide +kernel
theorem dX6_mend_77 : decode cX6_mend 77 = .ok (.goto (-60), 3) := by decide +kernel
theorem dX6_mend_80 : decode cX6_mend 80 = .ok (.iinc 2 1, 3) := by decide +kernel
theorem dX6_mend_83 : decode cX6_mend 83 = .ok (.goto (-75), 3) := by decide +kernel
theorem dX6_mend_86 : decode cX6_mend 86 = .ok (.return_, 1) := by decide +kernel
theorem dX6_isOf_0 : decode cX6_isOf 0 = .ok (.iload_n 2, 1) := by decide +kernel
theorem dX6_isOf_1 : decode cX6_isOf 1 = .ok (.iconst (-1), 1) := by decide +kernel
theorem dX6_isOf_2 : decode cX6_isOf 2 = .ok (.if_icmp .eq 13, 3) := by decide +kernel
theorem dX6_isOf_5 : decode cX6_isOf 5 = .ok (.aload_n 0, 1) := by decide +kernel
theorem dX6_isOf_6 : decode cX6_isOf 6 = .ok (.getfield 11, 3) := by decide +kernel
theorem dX6_isOf_9 : decode cX6_isOf 9 = .ok (.iload_n 1, 1) := by decide +kernel
theorem dX6_isOf_10 : decode cX6_isOf 10 = .ok (.iaload, 1) := by decide +kernel
theorem dX6_isOf_11 : decode cX6_isOf 11 = .ok (.iload_n 2, 1) := by decide +kernel
theorem dX6_isOf_12 : decode cX6_isOf 12 = .ok (.if_icmp .ne 7, 3) := by decide +kernel
theorem dX6_isOf_15 : decode cX6_isOf 15 = .ok (.iconst 1, 1) := by decide +kernel
theorem dX6_isOf_16 : decode cX6_isOf 16 = .ok (.goto 4, 3) := by decide +kernel
theorem dX6_isOf_19 : decode cX6_isOf 19 = .ok (.iconst 0, 1) := by decide +kernel
theorem dX6_isOf_20 : decode cX6_isOf 20 = .ok (.ireturn, 1) := by decide +kernel
theorem dX6_howMany_0 : decode cX6_howMany 0 = .ok (.iconst 0, 1) := by decide +kernel
theorem dX6_howMany_1 : decode cX6_howMany 1 = .ok (.istore_n 2, 1) := by decide +kernel
theorem dX6_howMany_2 : decode cX6_howMany 2 = .ok (.iconst 0, 1) := by decide +kernel
theorem dX6_howMany_3 : decode cX6_howMany 3 = .ok (.istore_n 3, 1) := by decide +kernel
theorem dX6_howMany_4 : decode cX6_howMany 4 = .ok (.iload_n 3, 1) := by decide +kernel
theorem dX6_howMany_5 : decode cX6_howMany 5 = .ok (.aload_n 0, 1) := by decide +kernel
theorem dX6_howMany_6 : decode cX6_howMany 6 = .ok (.getfield 21, 3) := by decide +kernel
theorem dX6_howMany_9 : decode cX6_howMany 9 = .ok (.if_icmp .ge 26, 3) := by decide +kernel
theorem dX6_howMany_12 : decode cX6_howMany 12 = .ok (.iload_n 2, 1) := by decide +kernel
theorem dX6_howMany_13 : decode cX6_howMany 13 = .ok (.aload_n 0, 1) := by decide +kernel
theorem dX6_howMany_14 : decode cX6_howMany 14 = .ok (.iload_n 3, 1) := by decide +kernel
theorem dX6_howMany_15 : decode cX6_howMany 15 = .ok (.iload_n 1, 1) := by decide +kernel
theorem dX6_howMany_16 : decode cX6_howMany 16 = .ok (.invokevirtual 40, 3) := by decide +kernel
theorem dX6_howMany_19 : decode cX6_howMany 19 = .ok (.ifCond .eq 7, 3) := by decide +kernel
theorem dX6_howMany_22 : decode cX6_howMany 22 = .ok (.iconst 1, 1) := by decide +kernel
theorem dX6_howMany_23 : decode cX6_howMany 23 = .ok (.goto 4, 3) := by decide +kernel
theorem dX6_howMany_26 : decode cX6_howMany 26 = .ok (.iconst 0, 1) := by decide +kernel
theorem dX6_howMany_27 : decode cX6_howMany 27 = .ok (.iadd, 1) := by decide +kernel
theorem dX6_howMany_28 : decode cX6_howMany 28 = .ok (.istore_n 2, 1) := by decide +kernel
theorem dX6_howMany_29 : decode cX6_howMany 29 = .ok (.iinc 3 1, 3) := by decide +kernel
theorem dX6_howMany_32 : decode cX6_howMany 32 = .ok (.goto (-28), 3) := by decide +kernel
theorem dX6_howMany_35 : decode cX6_howMany 35 = .ok (.iload_n 2, 1) := by decide +kernel
theorem dX6_howMany_36 : decode cX6_howMany 36 = .ok (.ireturn, 1) := by decide +kernel
theorem dX6_yeses_0 : decode cX6_yeses 0 = .ok (.iconst 0, 1) := by decide +kernel
theorem dX6_yeses_1 : decode cX6_yeses 1 = .ok (.istore_n 3, 1) := by decide +kernel
theorem dX6_yeses_2 : decode cX6_yeses 2 = .ok (.iconst 0, 1) := by decide +kernel
theorem dX6_yeses_3 : decode cX6_yeses 3 = .ok (.istore 4, 2) := by decide +kernel
theorem dX6_yeses_5 : decode cX6_yeses 5 = .ok (.iload 4, 2) := by decide +kernel
theorem dX6_yeses_7 : decode cX6_yeses 7 = .ok (.aload_n 0, 1) := by decide +kernel
theorem dX6_yeses_8 : decode cX6_yeses 8 = .ok (.getfield 21, 3) := by decide +kernel
theorem dX6_yeses_11 : decode cX6_yeses 11 = .ok (.if_icmp .ge 33, 3) := by decide +kernel
theorem dX6_yeses_14 : decode cX6_yeses 14 = .ok (.aload_n 0, 1) := by decide +kernel
theorem dX6_yeses_15 : decode cX6_yeses 15 = .ok (.iload 4, 2) := by decide +kernel
theorem dX6_yeses_17 : decode cX6_yeses 17 = .ok (.iload_n 1, 1) := by decide +kernel
theorem dX6_yeses_18 : decode cX6_yeses 18 = .ok (.invokevirtual 40, 3) := by decide +kernel
theorem dX6_yeses_21 : decode cX6_yeses 21 = .ok (.ifCond .eq 17, 3) := by decide +kernel
theorem dX6_yeses_24 : decode cX6_yeses 24 = .ok (.iload_n 3, 1) := by decide +kernel
theorem dX6_yeses_25 : decode cX6_yeses 25 = .ok (.aload_n 0, 1) := by decide +kernel
theorem dX6_yeses_26 : decode cX6_yeses 26 = .ok (.getfield 15, 3) := by decide +kernel
theorem dX6_yeses_29 : decode cX6_yeses 29 = .ok (.iload 4, 2) := by decide +kernel
theorem dX6_yeses_31 : decode cX6_yeses 31 = .ok (.iaload, 1) := by decide +kernel
theorem dX6_yeses_32 : decode cX6_yeses 32 = .ok (.iload_n 2, 1) := by decide +kernel
theorem dX6_yeses_33 : decode cX6_yeses 33 = .ok (.ishr, 1) := by decide +kernel
theorem dX6_yeses_34 : decode cX6_yeses 34 = .ok (.iconst 1, 1) := by decide +kernel
theorem dX6_yeses_35 : decode cX6_yeses 35 = .ok (.iand, 1) := by decide +kernel
theorem dX6_yeses_36 : decode cX6_yeses 36 = .ok (.iadd, 1) := by decide +kernel
theorem dX6_yeses_37 : decode cX6_yeses 37 = .ok (.istore_n 3, 1) := by decide +kernel
theorem dX6_yeses_38 : decode cX6_yeses 38 = .ok (.iinc 4 1, 3) := by decide +kernel
theorem dX6_yeses_41 : decode cX6_yeses 41 = .ok (.goto (-36), 3) := by decide +kernel
theorem dX6_yeses_44 : decode cX6_yeses 44 = .ok (.iload_n 3, 1) := by decide +kernel
theorem dX6_yeses_45 : decode cX6_yeses 45 = .ok (.ireturn, 1) := by decide +kernel
theorem dX6_bring_0 : decode cX6_bring 0 = .ok (.bipush 10, 2) := by decide +kernel
theorem dX6_bring_2 : decode cX6_bring 2 = .ok (.iload_n 2, 1) := by decide +kernel
theorem dX6_bring_3 : decode cX6_bring 3 = .ok (.isub, 1) := by decide +kernel
theorem dX6_bring_4 : decode cX6_bring 4 = .ok (.aload_n 0, 1) := by decide +kernel
theorem dX6_bring_5 : decode cX6_bring 5 = .ok (.iload_n 1, 1) := by decide +kernel
theorem dX6_bring_6 : decode cX6_bring 6 = .ok (.iload_n 2, 1) := by decide +kernel
theorem dX6_bring_7 : decode cX6_bring 7 = .ok (.invokevirtual 44, 3) := by decide +kernel
theorem dX6_bring_10 : decode cX6_bring 10 = .ok (.imul, 1) := by decide +kernel
theorem dX6_bring_11 : decode cX6_bring 11 = .ok (.ireturn, 1) := by decide +kernel
theorem dX6_bestOffer_0 : decode cX6_bestOffer 0 = .ok (.iconst 0, 1) := by decide +kernel
theorem dX6_bestOffer_1 : decode cX6_bestOffer 1 = .ok (.istore_n 2, 1) := by decide +kernel
theorem dX6_bestOffer_2 : decode cX6_bestOffer 2 = .ok (.iload_n 2, 1) := by decide +kernel
theorem dX6_bestOffer_3 : decode cX6_bestOffer 3 = .ok (.bipush 11, 2) := by decide +kernel
theorem dX6_bestOffer_5 : decode cX6_bestOffer 5 = .ok (.if_icmp .ge 21, 3) := by decide +kernel
theorem dX6_bestOffer_8 : decode cX6_bestOffer 8 = .ok (.aload_n 0, 1) := by decide +kernel
theorem dX6_bestOffer_9 : decode cX6_bestOffer 9 = .ok (.getfield 18, 3) := by decide +kernel
theorem dX6_bestOffer_12 : decode cX6_bestOffer 12 = .ok (.iload_n 2, 1) := by decide +kernel
theorem dX6_bestOffer_13 : decode cX6_bestOffer 13 = .ok (.aload_n 0, 1) := by decide +kernel
theorem dX6_bestOffer_14 : decode cX6_bestOffer 14 = .ok (.iload_n 1, 1) := by decide +kernel
theorem dX6_bestOffer_15 : decode cX6_bestOffer 15 = .ok (.iload_n 2, 1) := by decide +kernel
theorem dX6_bestOffer_16 : decode cX6_bestOffer 16 = .ok (.invokevirtual 48, 3) := by decide +kernel
theorem dX6_bestOffer_19 : decode cX6_bestOffer 19 = .ok (.iastore, 1) := by decide +kernel
theorem dX6_bestOffer_20 : decode cX6_bestOffer 20 = .ok (.iinc 2 1, 3) := by decide +kernel
theorem dX6_bestOffer_23 : decode cX6_bestOffer 23 = .ok (.goto (-21), 3) := by decide +kernel
theorem dX6_bestOffer_26 : decode cX6_bestOffer 26 = .ok (.aload_n 0, 1) := by decide +kernel
theorem dX6_bestOffer_27 : decode cX6_bestOffer 27 = .ok (.getfield 18, 3) := by decide +kernel
theorem dX6_bestOffer_30 : decode cX6_bestOffer 30 = .ok (.invokestatic 51, 3) := by decide +kernel
theorem dX6_bestOffer_33 : decode cX6_bestOffer 33 = .ok (.ireturn, 1) := by decide +kernel
theorem dX7_init_0 : decode cX7_init 0 = .ok (.aload_n 0, 1) := by decide +kernel
theorem dX7_init_1 : decode cX7_init 1 = .ok (.invokespecial 3, 3) := by decide +kernel
theorem dX7_init_4 : decode cX7_init 4 = .ok (.aload_n 0, 1) := by decide +kernel
theorem dX7_init_5 : decode cX7_init 5 = .ok (.iconst 4, 1) := by decide +kernel
theorem dX7_init_6 : decode cX7_init 6 = .ok (.newarray .int, 2) := by decide +kernel
theorem dX7_init_8 : decode cX7_init 8 = .ok (.dup, 1) := by decide +kernel
theorem dX7_init_9 : decode cX7_init 9 = .ok (.iconst 0, 1) := by decide +kernel
theorem dX7_init_10 : decode cX7_init 10 = .ok (.iconst (-1), 1) := by decide +kernel
theorem dX7_init_11 : decode cX7_init 11 = .ok (.iastore, 1) := by decide +kernel
theorem dX7_init_12 : decode cX7_init 12 = .ok (.dup, 1) := by decide +kernel
theorem dX7_init_13 : decode cX7_init 13 = .ok (.iconst 1, 1) := by decide +kernel
theorem dX7_init_14 : decode cX7_init 14 = .ok (.iconst (-1), 1) := by decide +kernel
theorem dX7_init_15 : decode cX7_init 15 = .ok (.iastore, 1) := by decide +kernel
theorem dX7_init_16 : decode cX7_init 16 = .ok (.dup, 1) := by decide +kernel
theorem dX7_init_17 : decode cX7_init 17 = .ok (.iconst 2, 1) := by decide +kernel
theorem dX7_init_18 : decode cX7_init 18 = .ok (.iconst (-1), 1) := by decide +kernel
theorem dX7_init_19 : decode cX7_init 19 = .ok (.iastore, 1) := by decide +kernel
theorem dX7_init_20 : decode cX7_init 20 = .ok (.dup, 1) := by decide +kernel
theorem dX7_init_21 : decode cX7_init 21 = .ok (.iconst 3, 1) := by decide +kernel
theorem dX7_init_22 : decode cX7_init 22 = .ok (.iconst (-1), 1) := by decide +kernel
theorem dX7_init_23 : decode cX7_init 23 = .ok (.iastore, 1) := by decide +kernel
theorem dX7_init_24 : decode cX7_init 24 = .ok (.putfield 9, 3) := by decide +kernel
theorem dX7_init_27 : decode cX7_init 27 = .ok (.aload_n 0, 1) := by decide +kernel
theorem dX7_init_28 : decode cX7_init 28 = .ok (.iconst 4, 1) := by decide +kernel
theorem dX7_init_29 : decode cX7_init 29 = .ok (.newarray .int, 2) := by decide +kernel
theorem dX7_init_31 : decode cX7_init 31 = .ok (.putfield 15, 3) := by decide +kernel
theorem dX7_init_34 : decode cX7_init 34 = .ok (.aload_n 0, 1) := by decide +kernel
theorem dX7_init_35 : decode cX7_init 35 = .ok (.sipush 192, 3) := by decide +kernel
theorem dX7_init_38 : decode cX7_init 38 = .ok (.newarray .int, 2) := by decide +kernel
theorem dX7_init_40 : decode cX7_init 40 = .ok (.putfield 18, 3) := by decide +kernel
theorem dX7_init_43 : decode cX7_init 43 = .ok (.return_, 1) := by decide +kernel
theorem dX7_found_0 : decode cX7_found 0 = .ok (.aload_n 0, 1) := by decide +kernel
theorem dX7_found_1 : decode cX7_found 1 = .ok (.iload_n 1, 1) := by decide +kernel
theorem dX7_found_2 : decode cX7_found 2 = .ok (.putfield 21, 3) := by decide +kernel
theorem dX7_found_5 : decode cX7_found 5 = .ok (.bipush (-10), 2) := by decide +kernel
theorem dX7_found_7 : decode cX7_found 7 = .ok (.iload_n 1, 1) := by decide +kernel
theorem dX7_found_8 : decode cX7_found 8 = .ok (.isub, 1) := by decide +kernel
theorem dX7_found_9 : decode cX7_found 9 = .ok (.ireturn, 1) := by decide +kernel
theorem dX7_isLost_0 : decode cX7_isLost 0 = .ok (.aload_n 0, 1) := by decide +kernel
theorem dX7_isLost_1 : decode cX7_isLost 1 = .ok (.getfield 9, 3) := by decide +kernel
theorem dX7_isLost_4 : decode cX7_isLost 4 = .ok (.iload_n 1, 1) := by decide +kernel
theorem dX7_isLost_5 : decode cX7_isLost 5 = .ok (.iaload, 1) := by decide +kernel
theorem dX7_isLost_6 : decode cX7_isLost 6 = .ok (.iconst (-1), 1) := by decide +kernel
theorem dX7_isLost_7 : decode cX7_isLost 7 = .ok (.if_icmp .ne 7, 3) := by decide +kernel
theorem dX7_isLost_10 : decode cX7_isLost 10 = .ok (.iconst 1, 1) := by decide +kernel
theorem dX7_isLost_11 : decode cX7_isLost 11 = .ok (.goto 4, 3) := by decide +kernel
theorem dX7_isLost_14 : decode cX7_isLost 14 = .ok (.iconst 0, 1) := by decide +kernel
theorem dX7_isLost_15 : decode cX7_isLost 15 = .ok (.ireturn, 1) := by decide +kernel
theorem dX7_formOf_0 : decode cX7_formOf 0 = .ok (.aload_n 0, 1) := by decide +kernel
theorem dX7_formOf_1 : decode cX7_formOf 1 = .ok (.getfield 9, 3) := by decide +kernel
theorem dX7_formOf_4 : decode cX7_formOf 4 = .ok (.iload_n 1, 1) := by decide +kernel
theorem dX7_formOf_5 : decode cX7_formOf 5 = .ok (.iaload, 1) := by decide +kernel
theorem dX7_formOf_6 : decode cX7_formOf 6 = .ok (.ireturn, 1) := by decide +kernel
theorem dX7_sizeOf_0 : decode cX7_sizeOf 0 = .ok (.aload_n 0, 1) := by decide +kernel
theorem dX7_sizeOf_1 : decode cX7_sizeOf 1 = .ok (.getfield 15, 3) := by decide +kernel
theorem dX7_sizeOf_4 : decode cX7_sizeOf 4 = .ok (.iload_n 1, 1) := by decide +kernel
theorem dX7_sizeOf_5 : decode cX7_sizeOf 5 = .ok (.iaload, 1) := by decide +kernel
theorem dX7_sizeOf_6 : decode cX7_sizeOf 6 = .ok (.ireturn, 1) := by decide +kernel
theorem dX7_renew_0 : decode cX7_renew 0 = .ok (.aload_n 0, 1) := by decide +kernel
theorem dX7_renew_1 : decode cX7_renew 1 = .ok (.getfield 9, 3) := by decide +kernel
theorem dX7_renew_4 : decode cX7_renew 4 = .ok (.iload_n 1, 1) := by decide +kernel
theorem dX7_renew_5 : decode cX7_renew 5 = .ok (.iload_n 2, 1) := by decide +kernel
theorem dX7_renew_6 : decode cX7_renew 6 = .ok (.iastore, 1) := by decide +kernel
theorem dX7_renew_7 : decode cX7_renew 7 = .ok (.aload_n 0, 1) := by decide +kernel
theorem dX7_renew_8 : decode cX7_renew 8 = .ok (.getfield 15, 3) := by decide +kernel
theorem dX7_renew_11 : decode cX7_renew 11 = .ok (.iload_n 1, 1) := by decide +kernel
theorem dX7_renew_12 : decode cX7_renew 12 = .ok (.iload_n 3, 1) := by decide +kernel
theorem dX7_renew_13 : decode cX7_renew 13 = .ok (.iastore, 1) := by decide +kernel
theorem dX7_renew_14 : decode cX7_renew 14 = .ok (.aload_n 0, 1) := by decide +kernel
theorem dX7_renew_15 : decode cX7_renew 15 = .ok (.getfield 18, 3) := by decide +kernel
theorem dX7_renew_18 : decode cX7_renew 18 = .ok (.iload_n 1, 1) := by decide +kernel
theorem dX7_renew_19 : decode cX7_renew 19 = .ok (.bipush 48, 2) := by decide +kernel
theorem dX7_renew_21 : decode cX7_renew 21 = .ok (.imul, 1) := by decide +kernel
theorem dX7_renew_22 : decode cX7_renew 22 = .ok (.iload_n 1, 1) := by decide +kernel
theorem dX7_renew_23 : decode cX7_renew 23 = .ok (.iconst 1, 1) := by decide +kernel
theorem dX7_renew_24 : decode cX7_renew 24 = .ok (.iadd, 1) := by decide +kernel
theorem dX7_renew_25 : decode cX7_renew 25 = .ok (.bipush 48, 2) := by decide +kernel
theorem dX7_renew_27 : decode cX7_renew 27 = .ok (.imul, 1) := by decide +kernel
theorem dX7_renew_28 : decode cX7_renew 28 = .ok (.iconst 0, 1) := by decide +kernel
theorem dX7_renew_29 : decode cX7_renew 29 = .ok (.invokestatic 25, 3) := by decide +kernel
theorem dX7_renew_32 : decode cX7_renew 32 = .ok (.return_, 1) := by decide +kernel
theorem dX7_drop_0 : decode cX7_drop 0 = .ok (.aload_n 0, 1) := by decide +kernel
theorem dX7_drop_1 : decode cX7_drop 1 = .ok (.getfield 9, 3) := by decide +kernel
theorem dX7_drop_4 : decode cX7_drop 4 = .ok (.iload_n 1, 1) := by decide +kernel
theorem dX7_drop_5 : decode cX7_drop 5 = .ok (.iconst (-1), 1) := by decide +kernel
theorem dX7_drop_6 : decode cX7_drop 6 = .ok (.iastore, 1) := by decide +kernel
theorem dX7_drop_7 : decode cX7_drop 7 = .ok (.aload_n 0, 1) := by decide +kernel
theorem dX7_drop_8 : decode cX7_drop 8 = .ok (.getfield 15, 3) := by decide +kernel
theorem dX7_drop_11 : decode cX7_drop 11 = .ok (.iload_n 1, 1) := by decide +kernel
theorem dX7_drop_12 : decode cX7_drop 12 = .ok (.iaload, 1) := by decide +kernel
theorem dX7_drop_13 : decode cX7_drop 13 = .ok (.ireturn, 1) := by decide +kernel
theorem dX7_findingAt_0 : decode cX7_findingAt 0 = .ok (.aload_n 0, 1) := by decide +kernel
theorem dX7_findingAt_1 : decode cX7_findingAt 1 = .ok (.iload_n 1, 1) := by decide +kernel
theorem dX7_findingAt_2 : decode cX7_findingAt 2 = .ok (.invokevirtual 31, 3) := by decide +kernel
theorem dX7_findingAt_5 : decode cX7_findingAt 5 = .ok (.ifCond .eq 5, 3) := by decide +kernel
theorem dX7_findingAt_8 : decode cX7_findingAt 8 = .ok (.iconst 1, 1) := by decide +kernel
theorem dX7_findingAt_9 : decode cX7_findingAt 9 = .ok (.ireturn, 1) := by decide +kernel
theorem dX7_findingAt_10 : decode cX7_findingAt 10 = .ok (.aload_n 0, 1) := by decide +kernel
theorem dX7_findingAt_11 : decode cX7_findingAt 11 = .ok (.getfield 9, 3) := by decide +kernel
theorem dX7_findingAt_14 : decode cX7_findingAt 14 = .ok (.iload_n 1, 1) := by decide +kernel
theorem dX7_findingAt_15 : decode cX7_findingAt 15 = .ok (.iaload, 1) := by decide +kernel
theorem dX7_findingAt_16 : decode cX7_findingAt 16 = .ok (.iload_n 2, 1) := by decide +kernel
theorem dX7_findingAt_17 : decode cX7_findingAt 17 = .ok (.if_icmp .eq 5, 3) := by decide +kernel
theorem dX7_findingAt_20 : decode cX7_findingAt 20 = .ok (.iconst 3, 1) := by decide +kernel
theorem dX7_findingAt_21 : decode cX7_findingAt 21 = .ok (.ireturn, 1) := by decide +kernel
theorem dX7_findingAt_22 : decode cX7_findingAt 22 = .ok (.iload_n 3, 1) := by decide +kernel
theorem dX7_findingAt_23 : decode cX7_findingAt 23 = .ok (.ifCond .lt 13, 3) := by decide +kernel
theorem dX7_findingAt_26 : decode cX7_findingAt 26 = .ok (.iload_n 3, 1) := by decide +kernel
theorem dX7_findingAt_27 : decode cX7_findingAt 27 = .ok (.aload_n 0, 1) := by decide +kernel
theorem dX7_findingAt_28 : decode cX7_findingAt 28 = .ok (.getfield 15, 3) := by decide +kernel
theorem dX7_findingAt_31 : decode cX7_findingAt 31 = .ok (.iload_n 1, 1) := by decide +kernel
theorem dX7_findingAt_32 : decode cX7_findingAt 32 = .ok (.iaload, 1) := by decide +kernel
theorem dX7_findingAt_33 : decode cX7_findingAt 33 = .ok (.if_icmp .lt 7, 3) := by decide +kernel
theorem dX7_findingAt_36 : decode cX7_findingAt 36 = .ok (.iconst 2, 1) := by decide +kernel
theorem dX7_findingAt_37 : decode cX7_findingAt 37 = .ok (.goto 4, 3) := by decide +kernel
theorem dX7_findingAt_40 : decode cX7_findingAt 40 = .ok (.iconst 0, 1) := by decide +kernel
theorem dX7_findingAt_41 : decode cX7_findingAt 41 = .ok (.ireturn, 1) := by decide +kernel
theorem dX7_item_0 : decode cX7_item 0 = .ok (.aload_n 0, 1) := by decide +kernel
theorem dX7_item_1 : decode cX7_item 1 = .ok (.getfield 18, 3) := by decide +kernel
theorem dX7_item_4 : decode cX7_item 4 = .ok (.iload_n 1, 1) := by decide +kernel
theorem dX7_item_5 : decode cX7_item 5 = .ok (.bipush 48, 2) := by decide +kernel
theorem dX7_item_7 : decode cX7_item 7 = .ok (.imul, 1) := by decide +kernel
theorem dX7_item_8 : decode cX7_item 8 = .ok (.iload_n 2, 1) := by decide +kernel
theorem dX7_item_9 : decode cX7_item 9 = .ok (.iadd, 1) := by decide +kernel
theorem dX7_item_10 : decode cX7_item 10 = .ok (.iaload, 1) := by decide +kernel
theorem dX7_item_11 : decode cX7_item 11 = .ok (.ireturn, 1) := by decide +kernel
theorem dX7_keep_0 : decode cX7_keep 0 = .ok (.aload_n 0, 1) := by decide +kernel
theorem dX7_keep_1 : decode cX7_keep 1 = .ok (.getfield 18, 3) := by decide +kernel
theorem dX7_keep_4 : decode cX7_keep 4 = .ok (.iload_n 1, 1) := by decide +kernel
theorem dX7_keep_5 : decode cX7_keep 5 = .ok (.bipush 48, 2) := by decide +kernel
theorem dX7_keep_7 : decode cX7_keep 7 = .ok (.imul, 1) := by decide +kernel
theorem dX7_keep_8 : decode cX7_keep 8 = .ok (.iload_n 2, 1) := by decide +kernel
theorem dX7_keep_9 : decode cX7_keep 9 = .ok (.iadd, 1) := by decide +kernel
theorem dX7_keep_10 : decode cX7_keep 10 = .ok (.aload_n 0, 1) := by decide +kernel
theorem dX7_keep_11 : decode cX7_keep 11 = .ok (.getfield 9, 3) := by decide +kernel
theorem dX7_keep_14 : decode cX7_keep 14 = .ok (.iload_n 1, 1) := by decide +kernel
theorem dX7_keep_15 : decode cX7_keep 15 = .ok (.iaload, 1) := by decide +kernel
theorem dX7_keep_16 : decode cX7_keep 16 = .ok (.iload_n 3, 1) := by decide +kernel
theorem dX7_keep_17 : decode cX7_keep 17 = .ok (.invokestatic 35, 3) := by decide +kernel
theorem dX7_keep_20 : decode cX7_keep 20 = .ok (.iastore, 1) := by decide +kernel
theorem dX7_keep_21 : decode cX7_keep 21 = .ok (.return_, 1) := by decide +kernel
theorem dX7_narrowed_0 : decode cX7_narrowed 0 = .ok (.iload_n 0, 1) := by decide +kernel
theorem dX7_narrowed_1 : decode cX7_narrowed 1 = .ok (.ifCond .ne 6, 3) := by decide +kernel
theorem dX7_narrowed_4 : decode cX7_narrowed 4 = .ok (.iload_n 1, 1) := by decide +kernel
theorem dX7_narrowed_5 : decode cX7_narrowed 5 = .ok (.i2b, 1) := by decide +kernel
theorem dX7_narrowed_6 : decode cX7_narrowed 6 = .ok (.ireturn, 1) := by decide +kernel
theorem dX7_narrowed_7 : decode cX7_narrowed 7 = .ok (.iload_n 0, 1) := by decide +kernel
theorem dX7_narrowed_8 : decode cX7_narrowed 8 = .ok (.iconst 1, 1) := by decide +kernel
theorem dX7_narrowed_9 : decode cX7_narrowed 9 = .ok (.if_icmp .ne 8, 3) := by decide +kernel
theorem dX7_narrowed_12 : decode cX7_narrowed 12 = .ok (.iload_n 1, 1) := by decide +kernel
theorem dX7_narrowed_13 : decode cX7_narrowed 13 = .ok (.i2s, 1) := by decide +kernel
theorem dX7_narrowed_14 : decode cX7_narrowed 14 = .ok (.goto 4, 3) := by decide +kernel
theorem dX7_narrowed_17 : decode cX7_narrowed 17 = .ok (.iload_n 1, 1) := by decide +kernel
theorem dX7_narrowed_18 : decode cX7_narrowed 18 = .ok (.ireturn, 1) := by decide +kernel
theorem dX7_hasSpan_0 : decode cX7_hasSpan 0 = .ok (.iload_n 2, 1) := by decide +kernel
theorem dX7_hasSpan_1 : decode cX7_hasSpan 1 = .ok (.ifCond .lt 33, 3) := by decide +kernel
theorem dX7_hasSpan_4 : decode cX7_hasSpan 4 = .ok (.iload_n 3, 1) := by decide +kernel
theorem dX7_hasSpan_5 : decode cX7_hasSpan 5 = .ok (.ifCond .lt 29, 3) := by decide +kernel
theorem dX7_hasSpan_8 : decode cX7_hasSpan 8 = .ok (.iload_n 3, 1) := by decide +kernel
theorem dX7_hasSpan_9 : decode cX7_hasSpan 9 = .ok (.aload_n 0, 1) := by decide +kernel
theorem dX7_hasSpan_10 : decode cX7_hasSpan 10 = .ok (.getfield 15, 3) := by decide +kernel
theorem dX7_hasSpan_13 : decode cX7_hasSpan 13 = .ok (.iload_n 1, 1) := by decide +kernel
theorem dX7_hasSpan_14 : decode cX7_hasSpan 14 = .ok (.iaload, 1) := by decide +kernel
theorem dX7_hasSpan_15 : decode cX7_hasSpan 15 = .ok (.if_icmp .gt 19, 3) := by decide +kernel
theorem dX7_hasSpan_18 : decode cX7_hasSpan 18 = .ok (.iload_n 2, 1) := by decide +kernel
theorem dX7_hasSpan_19 : decode cX7_hasSpan 19 = .ok (.aload_n 0, 1) := by decide +kernel
theorem dX7_hasSpan_20 : decode cX7_hasSpan 20 = .ok (.getfield 15, 3) := by decide +kernel
theorem dX7_hasSpan_23 : decode cX7_hasSpan 23 = .ok (.iload_n 1, 1) := by decide +kernel
theorem dX7_hasSpan_24 : decode cX7_hasSpan 24 = .ok (.iaload, 1) := by decide +kernel
theorem dX7_hasSpan_25 : decode cX7_hasSpan 25 = .ok (.iload_n 3, 1) := by decide +kernel
theorem dX7_hasSpan_26 : decode cX7_hasSpan 26 = .ok (.isub, 1) := by decide +kernel
theorem dX7_hasSpan_27 : decode cX7_hasSpan 27 = .ok (.if_icmp .gt 7, 3) := by decide +kernel
theorem dX7_hasSpan_30 : decode cX7_hasSpan 30 = .ok (.iconst 1, 1) := by decide +kernel
theorem dX7_hasSpan_31 : decode cX7_hasSpan 31 = .ok (.goto 4, 3) := by decide +kernel
theorem dX7_hasSpan_34 : decode cX7_hasSpan 34 = .ok (.iconst 0, 1) := by decide +kernel
theorem dX7_hasSpan_35 : decode cX7_hasSpan 35 = .ok (.ireturn, 1) := by decide +kernel
theorem dX7_move_0 : decode cX7_move 0 = .ok (.aload_n 0, 1) := by decide +kernel
theorem dX7_move_1 : decode cX7_move 1 = .ok (.getfield 18, 3) := by decide +kernel
theorem dX7_move_4 : decode cX7_move 4 = .ok (.iload_n 1, 1) := by decide +kernel
theorem dX7_move_5 : decode cX7_move 5 = .ok (.bipush 48, 2) := by decide +kernel
theorem dX7_move_7 : decode cX7_move 7 = .ok (.imul, 1) := by decide +kernel
theorem dX7_move_8 : decode cX7_move 8 = .ok (.iload_n 2, 1) := by decide +kernel
theorem dX7_move_9 : decode cX7_move 9 = .ok (.iadd, 1) := by decide +kernel
theorem dX7_move_10 : decode cX7_move 10 = .ok (.aload_n 0, 1) := by decide +kernel
theorem dX7_move_11 : decode cX7_move 11 = .ok (.getfield 18, 3) := by decide +kernel
theorem dX7_move_14 : decode cX7_move 14 = .ok (.iload_n 3, 1) := by decide +kernel
theorem dX7_move_15 : decode cX7_move 15 = .ok (.bipush 48, 2) := by decide +kernel
theorem dX7_move_17 : decode cX7_move 17 = .ok (.imul, 1) := by decide +kernel
theorem dX7_move_18 : decode cX7_move 18 = .ok (.iload 4, 2) := by decide +kernel
theorem dX7_move_20 : decode cX7_move 20 = .ok (.iadd, 1) := by decide +kernel
theorem dX7_move_21 : decode cX7_move 21 = .ok (.iload 5, 2) := by decide +kernel
theorem dX7_move_23 : decode cX7_move 23 = .ok (.invokestatic 39, 3) := by decide +kernel
theorem dX7_move_26 : decode cX7_move 26 = .ok (.return_, 1) := by decide +kernel
theorem dX8_init_0 : decode cX8_init 0 = .ok (.aload_n 0, 1) := by decide +kernel
theorem dX8_init_1 : decode cX8_init 1 = .ok (.invokespecial 3, 3) := by decide +kernel
theorem dX8_init_4 : decode cX8_init 4 = .ok (.aload_n 0, 1) := by decide +kernel
theorem dX8_init_5 : decode cX8_init 5 = .ok (.bipush 9, 2) := by decide +kernel
theorem dX8_init_7 : decode cX8_init 7 = .ok (.newarray .int, 2) := by decide +kernel
theorem dX8_init_9 : decode cX8_init 9 = .ok (.dup, 1) := by decide +kernel
theorem dX8_init_10 : decode cX8_init 10 = .ok (.iconst 0, 1) := by decide +kernel
theorem dX8_init_11 : decode cX8_init 11 = .ok (.bipush 8, 2) := by decide +kernel
theorem dX8_init_13 : decode cX8_init 13 = .ok (.iastore, 1) := by decide +kernel
theorem dX8_init_14 : decode cX8_init 14 = .ok (.dup, 1) := by decide +kernel
theorem dX8_init_15 : decode cX8_init 15 = .ok (.iconst 1, 1) := by decide +kernel
theorem dX8_init_16 : decode cX8_init 16 = .ok (.bipush 8, 2) := by decide +kernel
theorem dX8_init_18 : decode cX8_init 18 = .ok (.iastore, 1) := by decide +kernel
theorem dX8_init_19 : decode cX8_init 19 = .ok (.dup, 1) := by decide +kernel
theorem dX8_init_20 : decode cX8_init 20 = .ok (.iconst 2, 1) := by decide +kernel
theorem dX8_init_21 : decode cX8_init 21 = .ok (.bipush 8, 2) := by decide +kernel
theorem dX8_init_23 : decode cX8_init 23 = .ok (.iastore, 1) := by decide +kernel
theorem dX8_init_24 : decode cX8_init 24 = .ok (.dup, 1) := by decide +kernel
theorem dX8_init_25 : decode cX8_init 25 = .ok (.iconst 3, 1) := by decide +kernel
theorem dX8_init_26 : decode cX8_init 26 = .ok (.bipush 8, 2) := by decide +kernel
theorem dX8_init_28 : decode cX8_init 28 = .ok (.iastore, 1) := by decide +kernel
theorem dX8_init_29 : decode cX8_init 29 = .ok (.dup, 1) := by decide +kernel
theorem dX8_init_30 : decode cX8_init 30 = .ok (.iconst 4, 1) := by decide +kernel
theorem dX8_init_31 : decode cX8_init 31 = .ok (.bipush 8, 2) := by decide +kernel
theorem dX8_init_33 : decode cX8_init 33 = .ok (.iastore, 1) := by decide +kernel
theorem dX8_init_34 : decode cX8_init 34 = .ok (.dup, 1) := by decide +kernel
theorem dX8_init_35 : decode cX8_init 35 = .ok (.iconst 5, 1) := by decide +kernel
theorem dX8_init_36 : decode cX8_init 36 = .ok (.bipush 8, 2) := by decide +kernel
theorem dX8_init_38 : decode cX8_init 38 = .ok (.iastore, 1) := by decide +kernel
theorem dX8_init_39 : decode cX8_init 39 = .ok (.dup, 1) := by decide +kernel
theorem dX8_init_40 : decode cX8_init 40 = .ok (.bipush 6, 2) := by decide +kernel
theorem dX8_init_42 : decode cX8_init 42 = .ok (.bipush 8, 2) := by decide +kernel
theorem dX8_init_44 : decode cX8_init 44 = .ok (.iastore, 1) := by decide +kernel
theorem dX8_init_45 : decode cX8_init 45 = .ok (.dup, 1) := by decide +kernel
theorem dX8_init_46 : decode cX8_init 46 = .ok (.bipush 7, 2) := by decide +kernel
theorem dX8_init_48 : decode cX8_init 48 = .ok (.bipush 8, 2) := by decide +kernel
theorem dX8_init_50 : decode cX8_init 50 = .ok (.iastore, 1) := by decide +kernel
theorem dX8_init_51 : decode cX8_init 51 = .ok (.dup, 1) := by decide +kernel
theorem dX8_init_52 : decode cX8_init 52 = .ok (.bipush 8, 2) := by decide +kernel
theorem dX8_init_54 : decode cX8_init 54 = .ok (.bipush 8, 2) := by decide +kernel
theorem dX8_init_56 : decode cX8_init 56 = .ok (.iastore, 1) := by decide +kernel
theorem dX8_init_57 : decode cX8_init 57 = .ok (.putfield 9, 3) := by decide +kernel
theorem dX8_init_60 : decode cX8_init 60 = .ok (.return_, 1) := by decide +kernel
theorem dX8_change_0 : decode cX8_change 0 = .ok (.aload_n 0, 1) := by decide +kernel
theorem dX8_change_1 : decode cX8_change 1 = .ok (.getfield 9, 3) := by decide +kernel
theorem dX8_change_4 : decode cX8_change 4 = .ok (.iload_n 1, 1) := by decide +kernel
theorem dX8_change_5 : decode cX8_change 5 = .ok (.iconst 3, 1) := by decide +kernel
theorem dX8_change_6 : decode cX8_change 6 = .ok (.imul, 1) := by decide +kernel
theorem dX8_change_7 : decode cX8_change 7 = .ok (.iload_n 2, 1) := by decide +kernel
theorem dX8_change_8 : decode cX8_change 8 = .ok (.iadd, 1) := by decide +kernel
theorem dX8_change_9 : decode cX8_change 9 = .ok (.iaload, 1) := by decide +kernel
theorem dX8_change_10 : decode cX8_change 10 = .ok (.istore 4, 2) := by decide +kernel
theorem dX8_change_12 : decode cX8_change 12 = .ok (.aload_n 0, 1) := by decide +kernel
theorem dX8_change_13 : decode cX8_change 13 = .ok (.getfield 9, 3) := by decide +kernel
theorem dX8_change_16 : decode cX8_change 16 = .ok (.iload_n 1, 1) := by decide +kernel
theorem dX8_change_17 : decode cX8_change 17 = .ok (.iconst 3, 1) := by decide +kernel
theorem dX8_change_18 : decode cX8_change 18 = .ok (.imul, 1) := by decide +kernel
theorem dX8_change_19 : decode cX8_change 19 = .ok (.iload_n 2, 1) := by decide +kernel
theorem dX8_change_20 : decode cX8_change 20 = .ok (.iadd, 1) := by decide +kernel
theorem dX8_change_21 : decode cX8_change 21 = .ok (.iload_n 3, 1) := by decide +kernel
theorem dX8_change_22 : decode cX8_change 22 = .ok (.iastore, 1) := by decide +kernel
theorem dX8_change_23 : decode cX8_change 23 = .ok (.iload 4, 2) := by decide +kernel
theorem dX8_change_25 : decode cX8_change 25 = .ok (.ireturn, 1) := by decide +kernel
theorem dX8_spanOf_0 : decode cX8_spanOf 0 = .ok (.iload_n 0, 1) := by decide +kernel
theorem dX8_spanOf_1 : decode cX8_spanOf 1 = .ok (.iconst 3, 1) := by decide +kernel
theorem dX8_spanOf_2 : decode cX8_spanOf 2 = .ok (.if_icmp .gt 5, 3) := by decide +kernel
theorem dX8_spanOf_5 : decode cX8_spanOf 5 = .ok (.iconst 0, 1) := by decide +kernel
theorem dX8_spanOf_6 : decode cX8_spanOf 6 = .ok (.ireturn, 1) := by decide +kernel
theorem dX8_spanOf_7 : decode cX8_spanOf 7 = .ok (.iload_n 0, 1) := by decide +kernel
theorem dX8_spanOf_8 : decode cX8_spanOf 8 = .ok (.bipush 6, 2) := by decide +kernel
theorem dX8_spanOf_10 : decode cX8_spanOf 10 = .ok (.if_icmp .gt 7, 3) := by decide +kernel
theorem dX8_spanOf_13 : decode cX8_spanOf 13 = .ok (.iconst 1, 1) := by decide +kernel
theorem dX8_spanOf_14 : decode cX8_spanOf 14 = .ok (.goto 4, 3) := by decide +kernel
theorem dX8_spanOf_17 : decode cX8_spanOf 17 = .ok (.iconst 2, 1) := by decide +kernel
theorem dX8_spanOf_18 : decode cX8_spanOf 18 = .ok (.ireturn, 1) := by decide +kernel
theorem dX8_likely_0 : decode cX8_likely 0 = .ok (.lconst 1, 1) := by decide +kernel
theorem dX8_likely_1 : decode cX8_likely 1 = .ok (.lstore_n 3, 1) := by decide +kernel
theorem dX8_likely_2 : decode cX8_likely 2 = .ok (.iconst 0, 1) := by decide +kernel
theorem dX8_likely_3 : decode cX8_likely 3 = .ok (.istore 5, 2) := by decide +kernel
theorem dX8_likely_5 : decode cX8_likely 5 = .ok (.iload 5, 2) := by decide +kernel
theorem dX8_likely_7 : decode cX8_likely 7 = .ok (.bipush 11, 2) := by decide +kernel
theorem dX8_likely_9 : decode cX8_likely 9 = .ok (.if_icmp .ge 73, 3) := by decide +kernel
theorem dX8_likely_12 : decode cX8_likely 12 = .ok (.aload_n 0, 1) := by decide +kernel
theorem dX8_likely_13 : decode cX8_likely 13 = .ok (.getfield 9, 3) := by decide +kernel
theorem dX8_likely_16 : decode cX8_likely 16 = .ok (.iload_n 1, 1) := by decide +kernel
theorem dX8_likely_17 : decode cX8_likely 17 = .ok (.iconst 3, 1) := by decide +kernel
theorem dX8_likely_18 : decode cX8_likely 18 = .ok (.imul, 1) := by decide +kernel
theorem dX8_likely_19 : decode cX8_likely 19 = .ok (.iload 5, 2) := by decide +kernel
theorem dX8_likely_21 : decode cX8_likely 21 = .ok (.invokestatic 15, 3) := by decide +kernel
theorem dX8_likely_24 : decode cX8_likely 24 = .ok (.iadd, 1) := by decide +kernel
theorem dX8_likely_25 : decode cX8_likely 25 = .ok (.iaload, 1) := by decide +kernel
theorem dX8_likely_26 : decode cX8_likely 26 = .ok (.istore 6, 2) := by decide +kernel
theorem dX8_likely_28 : decode cX8_likely 28 = .ok (.iconst 0, 1) := by decide +kernel
theorem dX8_likely_29 : decode cX8_likely 29 = .ok (.istore 7, 2) := by decide +kernel
theorem dX8_likely_31 : decode cX8_likely 31 = .ok (.iload 7, 2) := by decide +kernel
theorem dX8_likely_33 : decode cX8_likely 33 = .ok (.aload_n 2, 1) := by decide +kernel
theorem dX8_likely_34 : decode cX8_likely 34 = .ok (.getfield 19, 3) := by decide +kernel
theorem dX8_likely_37 : decode cX8_likely 37 = .ok (.iload 5, 2) := by decide +kernel
theorem dX8_likely_39 : decode cX8_likely 39 = .ok (.iaload, 1) := by decide +kernel
theorem dX8_likely_40 : decode cX8_likely 40 = .ok (.if_icmp .ge 36, 3) := by decide +kernel
theorem dX8_likely_43 : decode cX8_likely 43 = .ok (.lload_n 3, 1) := by decide +kernel
theorem dX8_likely_44 : decode cX8_likely 44 = .ok (.iload 7, 2) := by decide +kernel
theorem dX8_likely_46 : decode cX8_likely 46 = .ok (.aload_n 2, 1) := by decide +kernel
theorem dX8_likely_47 : decode cX8_likely 47 = .ok (.getfield 24, 3) := by decide +kernel
theorem dX8_likely_50 : decode cX8_likely 50 = .ok (.iload 5, 2) := by decide +kernel
theorem dX8_likely_52 : decode cX8_likely 52 = .ok (.iaload, 1) := by decide +kernel
theorem dX8_likely_53 : decode cX8_likely 53 = .ok (.if_icmp .ge 9, 3) := by decide +kernel
theorem dX8_likely_56 : decode cX8_likely 56 = .ok (.iload 6, 2) := by decide +kernel
theorem dX8_likely_58 : decode cX8_likely 58 = .ok (.i2l, 1) := by decide +kernel
theorem dX8_likely_59 : decode cX8_likely 59 = .ok (.goto 9, 3) := by decide +kernel
theorem dX8_likely_62 : decode cX8_likely 62 = .ok (.bipush 16, 2) := by decide +kernel
theorem dX8_likely_64 : decode cX8_likely 64 = .ok (.iload 6, 2) := by decide +kernel
theorem dX8_likely_66 : decode cX8_likely 66 = .ok (.isub, 1) := by decide +kernel
theorem dX8_likely_67 : decode cX8_likely 67 = .ok (.i2l, 1) := by decide +kernel
theorem dX8_likely_68 : decode cX8_likely 68 = .ok (.lmul, 1) := by decide +kernel
theorem dX8_likely_69 : decode cX8_likely 69 = .ok (.lstore_n 3, 1) := by decide +kernel
theorem dX8_likely_70 : decode cX8_likely 70 = .ok (.iinc 7 1, 3) := by decide +kernel
theorem dX8_likely_73 : decode cX8_likely 73 = .ok (.goto (-42), 3) := by decide +kernel
theorem dX8_likely_76 : decode cX8_likely 76 = .ok (.iinc 5 1, 3) := by decide +kernel
theorem dX8_likely_79 : decode cX8_likely 79 = .ok (.goto (-74), 3) := by decide +kernel
theorem dX8_likely_82 : decode cX8_likely 82 = .ok (.lload_n 3, 1) := by decide +kernel
theorem dX8_likely_83 : decode cX8_likely 83 = .ok (.lreturn, 1) := by decide +kernel
theorem dX9_init_0 : decode cX9_init 0 = .ok (.aload_n 0, 1) := by decide +kernel
theorem dX9_init_1 : decode cX9_init 1 = .ok (.invokespecial 3, 3) := by decide +kernel
theorem dX9_init_4 : decode cX9_init 4 = .ok (.aload_n 0, 1) := by decide +kernel
theorem dX9_init_5 : decode cX9_init 5 = .ok (.bipush 11, 2) := by decide +kernel
theorem dX9_init_7 : decode cX9_init 7 = .ok (.newarray .int, 2) := by decide +kernel
theorem dX9_init_9 : decode cX9_init 9 = .ok (.putfield 9, 3) := by decide +kernel
theorem dX9_init_12 : decode cX9_init 12 = .ok (.aload_n 0, 1) := by decide +kernel
theorem dX9_init_13 : decode cX9_init 13 = .ok (.bipush 11, 2) := by decide +kernel
theorem dX9_init_15 : decode cX9_init 15 = .ok (.newarray .int, 2) := by decide +kernel
theorem dX9_init_17 : decode cX9_init 17 = .ok (.putfield 15, 3) := by decide +kernel
theorem dX9_init_20 : decode cX9_init 20 = .ok (.return_, 1) := by decide +kernel
theorem dX9_clear_0 : decode cX9_clear 0 = .ok (.aload_n 0, 1) := by decide +kernel
theorem dX9_clear_1 : decode cX9_clear 1 = .ok (.getfield 9, 3) := by decide +kernel
theorem dX9_clear_4 : decode cX9_clear 4 = .ok (.iconst 0, 1) := by decide +kernel
theorem dX9_clear_5 : decode cX9_clear 5 = .ok (.invokestatic 18, 3) := by decide +kernel
theorem dX9_clear_8 : decode cX9_clear 8 = .ok (.aload_n 0, 1) := by decide +kernel
theorem dX9_clear_9 : decode cX9_clear 9 = .ok (.getfield 15, 3) := by decide +kernel
theorem dX9_clear_12 : decode cX9_clear 12 = .ok (.iconst 0, 1) := by decide +kernel
theorem dX9_clear_13 : decode cX9_clear 13 = .ok (.invokestatic 18, 3) := by decide +kernel
theorem dX9_clear_16 : decode cX9_clear 16 = .ok (.aload_n 0, 1) := by decide +kernel
theorem dX9_clear_17 : decode cX9_clear 17 = .ok (.iconst 0, 1) := by decide +kernel
theorem dX9_clear_18 : decode cX9_clear 18 = .ok (.putfield 24, 3) := by decide +kernel
theorem dX9_clear_21 : decode cX9_clear 21 = .ok (.aload_n 0, 1) := by decide +kernel
theorem dX9_clear_22 : decode cX9_clear 22 = .ok (.iconst 0, 1) := by decide +kernel
theorem dX9_clear_23 : decode cX9_clear 23 = .ok (.putfield 28, 3) := by decide +kernel
theorem dX9_clear_26 : decode cX9_clear 26 = .ok (.aload_n 0, 1) := by decide +kernel
theorem dX9_clear_27 : decode cX9_clear 27 = .ok (.iconst 0, 1) := by decide +kernel
theorem dX9_clear_28 : decode cX9_clear 28 = .ok (.putfield 31, 3) := by decide +kernel
theorem dX9_clear_31 : decode cX9_clear 31 = .ok (.return_, 1) := by decide +kernel
theorem dX9_add_0 : decode cX9_add 0 = .ok (.iconst 1, 1) := by decide +kernel
theorem dX9_add_1 : decode cX9_add 1 = .ok (.iload_n 2, 1) := by decide +kernel
theorem dX9_add_2 : decode cX9_add 2 = .ok (.isub, 1) := by decide +kernel
theorem dX9_add_3 : decode cX9_add 3 = .ok (.istore_n 3, 1) := by decide +kernel
theorem dX9_add_4 : decode cX9_add 4 = .ok (.aload_n 0, 1) := by decide +kernel
theorem dX9_add_5 : decode cX9_add 5 = .ok (.getfield 9, 3) := by decide +kernel
theorem dX9_add_8 : decode cX9_add 8 = .ok (.iload_n 1, 1) := by decide +kernel
theorem dX9_add_9 : decode cX9_add 9 = .ok (.dup2, 1) := by decide +kernel
theorem dX9_add_10 : decode cX9_add 10 = .ok (.iaload, 1) := by decide +kernel
theorem dX9_add_11 : decode cX9_add 11 = .ok (.iconst 1, 1) := by decide +kernel
theorem dX9_add_12 : decode cX9_add 12 = .ok (.iadd, 1) := by decide +kernel
theorem dX9_add_13 : decode cX9_add 13 = .ok (.iastore, 1) := by decide +kernel
theorem dX9_add_14 : decode cX9_add 14 = .ok (.aload_n 0, 1) := by decide +kernel
theorem dX9_add_15 : decode cX9_add 15 = .ok (.getfield 15, 3) := by decide +kernel
theorem dX9_add_18 : decode cX9_add 18 = .ok (.iload_n 1, 1) := by decide +kernel
theorem dX9_add_19 : decode cX9_add 19 = .ok (.dup2, 1) := by decide +kernel
theorem dX9_add_20 : decode cX9_add 20 = .ok (.iaload, 1) := by decide +kernel
theorem dX9_add_21 : decode cX9_add 21 = .ok (.iload_n 3, 1) := by decide +kernel
theorem dX9_add_22 : decode cX9_add 22 = .ok (.iadd, 1) := by decide +kernel
theorem dX9_add_23 : decode cX9_add 23 = .ok (.iastore, 1) := by decide +kernel
theorem dX9_add_24 : decode cX9_add 24 = .ok (.aload_n 0, 1) := by decide +kernel
theorem dX9_add_25 : decode cX9_add 25 = .ok (.dup, 1) := by decide +kernel
theorem dX9_add_26 : decode cX9_add 26 = .ok (.getfield 24, 3) := by decide +kernel
theorem dX9_add_29 : decode cX9_add 29 = .ok (.iconst 1, 1) := by decide +kernel
theorem dX9_add_30 : decode cX9_add 30 = .ok (.iadd, 1) := by decide +kernel
theorem dX9_add_31 : decode cX9_add 31 = .ok (.putfield 24, 3) := by decide +kernel
theorem dX9_add_34 : decode cX9_add 34 = .ok (.aload_n 0, 1) := by decide +kernel
theorem dX9_add_35 : decode cX9_add 35 = .ok (.dup, 1) := by decide +kernel
theorem dX9_add_36 : decode cX9_add 36 = .ok (.getfield 28, 3) := by decide +kernel
theorem dX9_add_39 : decode cX9_add 39 = .ok (.iload_n 3, 1) := by decide +kernel
theorem dX9_add_40 : decode cX9_add 40 = .ok (.iadd, 1) := by decide +kernel
theorem dX9_add_41 : decode cX9_add 41 = .ok (.putfield 28, 3) := by decide +kernel
theorem dX9_add_44 : decode cX9_add 44 = .ok (.aload_n 0, 1) := by decide +kernel
theorem dX9_add_45 : decode cX9_add 45 = .ok (.dup, 1) := by decide +kernel
theorem dX9_add_46 : decode cX9_add 46 = .ok (.getfield 31, 3) := by decide +kernel
theorem dX9_add_49 : decode cX9_add 49 = .ok (.iload_n 1, 1) := by decide +kernel
theorem dX9_add_50 : decode cX9_add 50 = .ok (.iadd, 1) := by decide +kernel
theorem dX9_add_51 : decode cX9_add 51 = .ok (.putfield 31, 3) := by decide +kernel
theorem dX9_add_54 : decode cX9_add 54 = .ok (.return_, 1) := by decide +kernel
theorem dX9_middle_0 : decode cX9_middle 0 = .ok (.iconst 0, 1) := by decide +kernel
theorem dX9_middle_1 : decode cX9_middle 1 = .ok (.istore_n 1, 1) := by decide +kernel
theorem dX9_middle_2 : decode cX9_middle 2 = .ok (.iconst 0, 1) := by decide +kernel
theorem dX9_middle_3 : decode cX9_middle 3 = .ok (.istore_n 2, 1) := by decide +kernel
theorem dX9_middle_4 : decode cX9_middle 4 = .ok (.iload_n 2, 1) := by decide +kernel
theorem dX9_middle_5 : decode cX9_middle 5 = .ok (.bipush 11, 2) := by decide +kernel
theorem dX9_middle_7 : decode cX9_middle 7 = .ok (.if_icmp .ge 30, 3) := by decide +kernel
theorem dX9_middle_10 : decode cX9_middle 10 = .ok (.iload_n 1, 1) := by decide +kernel
theorem dX9_middle_11 : decode cX9_middle 11 = .ok (.aload_n 0, 1) := by decide +kernel
theorem dX9_middle_12 : decode cX9_middle 12 = .ok (.getfield 9, 3) := by decide +kernel
theorem dX9_middle_15 : decode cX9_middle 15 = .ok (.iload_n 2, 1) := by decide +kernel
theorem dX9_middle_16 : decode cX9_middle 16 = .ok (.iaload, 1) := by decide +kernel
theorem dX9_middle_17 : decode cX9_middle 17 = .ok (.iadd, 1) := by decide +kernel
theorem dX9_middle_18 : decode cX9_middle 18 = .ok (.istore_n 1, 1) := by decide +kernel
theorem dX9_middle_19 : decode cX9_middle 19 = .ok (.iconst 2, 1) := by decide +kernel
theorem dX9_middle_20 : decode cX9_middle 20 = .ok (.iload_n 1, 1) := by decide +kernel
theorem dX9_middle_21 : decode cX9_middle 21 = .ok (.imul, 1) := by decide +kernel
theorem dX9_middle_22 : decode cX9_middle 22 = .ok (.aload_n 0, 1) := by decide +kernel
theorem dX9_middle_23 : decode cX9_middle 23 = .ok (.getfield 24, 3) := by decide +kernel
theorem dX9_middle_26 : decode cX9_middle 26 = .ok (.if_icmp .lt 5, 3) := by decide +kernel
theorem dX9_middle_29 : decode cX9_middle 29 = .ok (.iload_n 2, 1) := by decide +kernel
theorem dX9_middle_30 : decode cX9_middle 30 = .ok (.ireturn, 1) := by decide +kernel
theorem dX9_middle_31 : decode cX9_middle 31 = .ok (.iinc 2 1, 3) := by decide +kernel
theorem dX9_middle_34 : decode cX9_middle 34 = .ok (.goto (-30), 3) := by decide +kernel
theorem dX9_middle_37 : decode cX9_middle 37 = .ok (.bipush 10, 2) := by decide +kernel
theorem dX9_middle_39 : decode cX9_middle 39 = .ok (.ireturn, 1) := by decide +kernel
theorem dX10_init_0 : decode cX10_init 0 = .ok (.aload_n 0, 1) := by decide +kernel
theorem dX10_init_1 : decode cX10_init 1 = .ok (.invokespecial 3, 3) := by decide +kernel
theorem dX10_init_4 : decode cX10_init 4 = .ok (.aload_n 0, 1) := by decide +kernel
theorem dX10_init_5 : decode cX10_init 5 = .ok (.bipush 24, 2) := by decide +kernel
theorem dX10_init_7 : decode cX10_init 7 = .ok (.newarray .int, 2) := by decide +kernel
theorem dX10_init_9 : decode cX10_init 9 = .ok (.putfield 11, 3) := by decide +kernel
theorem dX10_init_12 : decode cX10_init 12 = .ok (.return_, 1) := by decide +kernel
theorem dX10_has_0 : decode cX10_has 0 = .ok (.iload_n 1, 1) := by decide +kernel
theorem dX10_has_1 : decode cX10_has 1 = .ok (.ifCond .lt 15, 3) := by decide +kernel
theorem dX10_has_4 : decode cX10_has 4 = .ok (.iload_n 1, 1) := by decide +kernel
theorem dX10_has_5 : decode cX10_has 5 = .ok (.aload_n 0, 1) := by decide +kernel
theorem dX10_has_6 : decode cX10_has 6 = .ok (.getfield 15, 3) := by decide +kernel
theorem dX10_has_9 : decode cX10_has 9 = .ok (.if_icmp .ge 7, 3) := by decide +kernel
theorem dX10_has_12 : decode cX10_has 12 = .ok (.iconst 1, 1) := by decide +kernel
theorem dX10_has_13 : decode cX10_has 13 = .ok (.goto 4, 3) := by decide +kernel
theorem dX10_has_16 : decode cX10_has 16 = .ok (.iconst 0, 1) := by decide +kernel
theorem dX10_has_17 : decode cX10_has 17 = .ok (.ireturn, 1) := by decide +kernel
theorem dX10_add_0 : decode cX10_add 0 = .ok (.aload_n 0, 1) := by decide +kernel
theorem dX10_add_1 : decode cX10_add 1 = .ok (.getfield 15, 3) := by decide +kernel
theorem dX10_add_4 : decode cX10_add 4 = .ok (.bipush 6, 2) := by decide +kernel
theorem dX10_add_6 : decode cX10_add 6 = .ok (.if_icmp .lt 6, 3) := by decide +kernel
theorem dX10_add_9 : decode cX10_add 9 = .ok (.bipush (-4), 2) := by decide +kernel
theorem dX10_add_11 : decode cX10_add 11 = .ok (.ireturn, 1) := by decide +kernel
theorem dX10_add_12 : decode cX10_add 12 = .ok (.aload_n 0, 1) := by decide +kernel
theorem dX10_add_13 : decode cX10_add 13 = .ok (.getfield 15, 3) := by decide +kernel
theorem dX10_add_16 : decode cX10_add 16 = .ok (.iconst 4, 1) := by decide +kernel
theorem dX10_add_17 : decode cX10_add 17 = .ok (.imul, 1) := by decide +kernel
theorem dX10_add_18 : decode cX10_add 18 = .ok (.istore 5, 2) := by decide +kernel
theorem dX10_add_20 : decode cX10_add 20 = .ok (.aload_n 0, 1) := by decide +kernel
theorem dX10_add_21 : decode cX10_add 21 = .ok (.getfield 11, 3) := by decide +kernel
theorem dX10_add_24 : decode cX10_add 24 = .ok (.iload 5, 2) := by decide +kernel
theorem dX10_add_26 : decode cX10_add 26 = .ok (.iload_n 1, 1) := by decide +kernel
theorem dX10_add_27 : decode cX10_add 27 = .ok (.iastore, 1) := by decide +kernel
theorem dX10_add_28 : decode cX10_add 28 = .ok (.aload_n 0, 1) := by decide +kernel
theorem dX10_add_29 : decode cX10_add 29 = .ok (.getfield 11, 3) := by decide +kernel
theorem dX10_add_32 : decode cX10_add 32 = .ok (.iload 5, 2) := by decide +kernel
theorem dX10_add_34 : decode cX10_add 34 = .ok (.iconst 1, 1) := by decide +kernel
theorem dX10_add_35 : decode cX10_add 35 = .ok (.iadd, 1) := by decide +kernel
theorem dX10_add_36 : decode cX10_add 36 = .ok (.iload_n 2, 1) := by decide +kernel
theorem dX10_add_37 : decode cX10_add 37 = .ok (.iastore, 1) := by decide +kernel
theorem dX10_add_38 : decode cX10_add 38 = .ok (.aload_n 0, 1) := by decide +kernel
theorem dX10_add_39 : decode cX10_add 39 = .ok (.getfield 11, 3) := by decide +kernel
theorem dX10_add_42 : decode cX10_add 42 = .ok (.iload 5, 2) := by decide +kernel
theorem dX10_add_44 : decode cX10_add 44 = .ok (.iconst 2, 1) := by decide +kernel
theorem dX10_add_45 : decode cX10_add 45 = .ok (.iadd, 1) := by decide +kernel
theorem dX10_add_46 : decode cX10_add 46 = .ok (.iload_n 3, 1) := by decide +kernel
theorem dX10_add_47 : decode cX10_add 47 = .ok (.iastore, 1) := by decide +kernel
theorem dX10_add_48 : decode cX10_add 48 = .ok (.aload_n 0, 1) := by decide +kernel
theorem dX10_add_49 : decode cX10_add 49 = .ok (.getfield 11, 3) := by decide +kernel
theorem dX10_add_52 : decode cX10_add 52 = .ok (.iload 5, 2) := by decide +kernel
theorem dX10_add_54 : decode cX10_add 54 = .ok (.iconst 3, 1) := by decide +kernel
theorem dX10_add_55 : decode cX10_add 55 = .ok (.iadd, 1) := by decide +kernel
theorem dX10_add_56 : decode cX10_add 56 = .ok (.iload 4, 2) := by decide +kernel
theorem dX10_add_58 : decode cX10_add 58 = .ok (.iastore, 1) := by decide +kernel
theorem dX10_add_59 : decode cX10_add 59 = .ok (.aload_n 0, 1) := by decide +kernel
theorem dX10_add_60 : decode cX10_add 60 = .ok (.dup, 1) := by decide +kernel
theorem dX10_add_61 : decode cX10_add 61 = .ok (.getfield 15, 3) := by decide +kernel
theorem dX10_add_64 : decode cX10_add 64 = .ok (.iconst 1, 1) := by decide +kernel
theorem dX10_add_65 : decode cX10_add 65 = .ok (.iadd, 1) := by decide +kernel
theorem dX10_add_66 : decode cX10_add 66 = .ok (.putfield 15, 3) := by decide +kernel
theorem dX10_add_69 : decode cX10_add 69 = .ok (.aload_n 0, 1) := by decide +kernel
theorem dX10_add_70 : decode cX10_add 70 = .ok (.getfield 15, 3) := by decide +kernel
theorem dX10_add_73 : decode cX10_add 73 = .ok (.iconst 1, 1) := by decide +kernel
theorem dX10_add_74 : decode cX10_add 74 = .ok (.isub, 1) := by decide +kernel
theorem dX10_add_75 : decode cX10_add 75 = .ok (.ireturn, 1) := by decide +kernel
theorem dX10_together_0 : decode cX10_together 0 = .ok (.iload_n 1, 1) := by decide +kernel
theorem dX10_together_1 : decode cX10_together 1 = .ok (.iconst 4, 1) := by decide +kernel
theorem dX10_together_2 : decode cX10_together 2 = .ok (.imul, 1) := by decide +kernel
theorem dX10_together_3 : decode cX10_together 3 = .ok (.istore_n 3, 1) := by decide +kernel
theorem dX10_together_4 : decode cX10_together 4 = .ok (.iconst 0, 1) := by decide +kernel
theorem dX10_together_5 : decode cX10_together 5 = .ok (.istore 4, 2) := by decide +kernel
theorem dX10_together_7 : decode cX10_together 7 = .ok (.iconst 0, 1) := by decide +kernel
theorem dX10_together_8 : decode cX10_together 8 = .ok (.istore 5, 2) := by decide +kernel
theorem dX10_together_10 : decode cX10_together 10 = .ok (.iload 5, 2) := by decide +kernel
theorem dX10_together_12 : decode cX10_together 12 = .ok (.iconst 4, 1) := by decide +kernel
theorem dX10_together_13 : decode cX10_together 13 = .ok (.if_icmp .ge 82, 3) := by decide +kernel
theorem dX10_together_16 : decode cX10_together 16 = .ok (.iconst 0, 1) := by decide +kernel
theorem dX10_together_17 : decode cX10_together 17 = .ok (.istore 6, 2) := by decide +kernel
theorem dX10_together_19 : decode cX10_together 19 = .ok (.iload 6, 2) := by decide +kernel
theorem dX10_together_21 : decode cX10_together 21 = .ok (.iload 5, 2) := by decide +kernel
theorem dX10_together_23 : decode cX10_together 23 = .ok (.if_icmp .ge 66, 3) := by decide +kernel
theorem dX10_together_26 : decode cX10_together 26 = .ok (.aload_n 2, 1) := by decide +kernel
theorem dX10_together_27 : decode cX10_together 27 = .ok (.iload 5, 2) := by decide +kernel
theorem dX10_together_29 : decode cX10_together 29 = .ok (.invokevirtual 19, 3) := by decide +kernel
theorem dX10_together_32 : decode cX10_together 32 = .ok (.ifCond .eq 51, 3) := by decide +kernel
theorem dX10_together_35 : decode cX10_together 35 = .ok (.aload_n 2, 1) := by decide +kernel
theorem dX10_together_36 : decode cX10_together 36 = .ok (.iload 6, 2) := by decide +kernel
theorem dX10_together_38 : decode cX10_together 38 = .ok (.invokevirtual 19, 3) := by decide +kernel
theorem dX10_together_41 : decode cX10_together 41 = .ok (.ifCond .eq 42, 3) := by decide +kernel
theorem dX10_together_44 : decode cX10_together 44 = .ok (.aload_n 0, 1) := by decide +kernel
theorem dX10_together_45 : decode cX10_together 45 = .ok (.getfield 11, 3) := by decide +kernel
theorem dX10_together_48 : decode cX10_together 48 = .ok (.iload_n 3, 1) := by decide +kernel
theorem dX10_together_49 : decode cX10_together 49 = .ok (.iload 5, 2) := by decide +kernel
theorem dX10_together_51 : decode cX10_together 51 = .ok (.iadd, 1) := by decide +kernel
theorem dX10_together_52 : decode cX10_together 52 = .ok (.iaload, 1) := by decide +kernel
theorem dX10_together_53 : decode cX10_together 53 = .ok (.aload_n 0, 1) := by decide +kernel
theorem dX10_together_54 : decode cX10_together 54 = .ok (.getfield 11, 3) := by decide +kernel
theorem dX10_together_57 : decode cX10_together 57 = .ok (.iload_n 3, 1) := by decide +kernel
theorem dX10_together_58 : decode cX10_together 58 = .ok (.iload 6, 2) := by decide +kernel
theorem dX10_together_60 : decode cX10_together 60 = .ok (.iadd, 1) := by decide +kernel
theorem dX10_together_61 : decode cX10_together 61 = .ok (.iaload, 1) := by decide +kernel
theorem dX10_together_62 : decode cX10_together 62 = .ok (.invokestatic 25, 3) := by decide +kernel
theorem dX10_together_65 : decode cX10_together 65 = .ok (.istore 7, 2) := by decide +kernel
theorem dX10_together_67 : decode cX10_together 67 = .ok (.iload 4, 2) := by decide +kernel
theorem dX10_together_69 : decode cX10_together 69 = .ok (.iload 7, 2) := by decide +kernel
theorem dX10_together_71 : decode cX10_together 71 = .ok (.aload_n 2, 1) := by decide +kernel
theorem dX10_together_72 : decode cX10_together 72 = .ok (.iload 5, 2) := by decide +kernel
theorem dX10_together_74 : decode cX10_together 74 = .ok (.iload 6, 2) := by decide +kernel
theorem dX10_together_76 : decode cX10_together 76 = .ok (.invokevirtual 31, 3) := by decide +kernel
theorem dX10_together_79 : decode cX10_together 79 = .ok (.imul, 1) := by decide +kernel
theorem dX10_together_80 : decode cX10_together 80 = .ok (.iadd, 1) := by decide +kernel
theorem dX10_together_81 : decode cX10_together 81 = .ok (.istore 4, 2) := by decide +kernel
theorem dX10_together_83 : decode cX10_together 83 = .ok (.iinc 6 1, 3) := by decide +kernel
theorem dX10_together_86 : decode cX10_together 86 = .ok (.goto (-67), 3) := by decide +kernel
theorem dX10_together_89 : decode cX10_together 89 = .ok (.iinc 5 1, 3) := by decide +kernel
theorem dX10_together_92 : decode cX10_together 92 = .ok (.goto (-82), 3) := by decide +kernel
theorem dX10_together_95 : decode cX10_together 95 = .ok (.iload 4, 2) := by decide +kernel
theorem dX10_together_97 : decode cX10_together 97 = .ok (.ireturn, 1) := by decide +kernel
theorem dX10_greatest_0 : decode cX10_greatest 0 = .ok (.iconst 0, 1) := by decide +kernel
theorem dX10_greatest_1 : decode cX10_greatest 1 = .ok (.istore_n 2, 1) := by decide +kernel
theorem dX10_greatest_2 : decode cX10_greatest 2 = .ok (.iconst 0, 1) := by decide +kernel
theorem dX10_greatest_3 : decode cX10_greatest 3 = .ok (.istore_n 3, 1) := by decide +kernel
theorem dX10_greatest_4 : decode cX10_greatest 4 = .ok (.iload_n 3, 1) := by decide +kernel
theorem dX10_greatest_5 : decode cX10_greatest 5 = .ok (.aload_n 0, 1) := by decide +kernel
theorem dX10_greatest_6 : decode cX10_greatest 6 = .ok (.getfield 15, 3) := by decide +kernel
theorem dX10_greatest_9 : decode cX10_greatest 9 = .ok (.if_icmp .ge 23, 3) := by decide +kernel
theorem dX10_greatest_12 : decode cX10_greatest 12 = .ok (.iload_n 2, 1) := by decide +kernel
theorem dX10_greatest_13 : decode cX10_greatest 13 = .ok (.aload_n 0, 1) := by decide +kernel
theorem dX10_greatest_14 : decode cX10_greatest 14 = .ok (.iload_n 3, 1) := by decide +kernel
theorem dX10_greatest_15 : decode cX10_greatest 15 = .ok (.aload_n 1, 1) := by decide +kernel
theorem dX10_greatest_16 : decode cX10_greatest 16 = .ok (.invokevirtual 34, 3) := by decide +kernel
theorem dX10_greatest_19 : decode cX10_greatest 19 = .ok (.invokestatic 38, 3) := by decide +kernel
theorem dX10_greatest_22 : decode cX10_greatest 22 = .ok (.invokestatic 44, 3) := by decide +kernel
theorem dX10_greatest_25 : decode cX10_greatest 25 = .ok (.istore_n 2, 1) := by decide +kernel
theorem dX10_greatest_26 : decode cX10_greatest 26 = .ok (.iinc 3 1, 3) := by decide +kernel
theorem dX10_greatest_29 : decode cX10_greatest 29 = .ok (.goto (-25), 3) := by decide +kernel
theorem dX10_greatest_32 : decode cX10_greatest 32 = .ok (.iload_n 2, 1) := by decide +kernel
theorem dX10_greatest_33 : decode cX10_greatest 33 = .ok (.ireturn, 1) := by decide +kernel
theorem dJ6_compare_7cf53_0 : decode cJ6_compare_7cf53 0 = .ok (.iload_n 0, 1) := by decide +kernel
theorem dJ6_compare_7cf53_1 : decode cJ6_compare_7cf53 1 = .ok (.iload_n 1, 1) := by decide +kernel
theorem dJ6_compare_7cf53_2 : decode cJ6_compare_7cf53 2 = .ok (.if_icmp .ge 7, 3) := by decide +kernel
theorem dJ6_compare_7cf53_5 : decode cJ6_compare_7cf53 5 = .ok (.iconst (-1), 1) := by decide +kernel
theorem dJ6_compare_7cf53_6 : decode cJ6_compare_7cf53 6 = .ok (.goto 13, 3) := by decide +kernel
theorem dJ6_compare_7cf53_9 : decode cJ6_compare_7cf53 9 = .ok (.iload_n 0, 1) := by decide +kernel
theorem dJ6_compare_7cf53_10 : decode cJ6_compare_7cf53 10 = .ok (.iload_n 1, 1) := by decide +kernel
theorem dJ6_compare_7cf53_11 : decode cJ6_compare_7cf53 11 = .ok (.if_icmp .ne 7, 3) := by decide +kernel
theorem dJ6_compare_7cf53_14 : decode cJ6_compare_7cf53 14 = .ok (.iconst 0, 1) := by decide +kernel
theorem dJ6_compare_7cf53_15 : decode cJ6_compare_7cf53 15 = .ok (.goto 4, 3) := by decide +kernel
theorem dJ6_compare_7cf53_18 : decode cJ6_compare_7cf53 18 = .ok (.iconst 1, 1) := by decide +kernel
theorem dJ6_compare_7cf53_19 : decode cJ6_compare_7cf53 19 = .ok (.ireturn, 1) := by decide +kernel
theorem dJ6_bitCount_0f7a4_0 : decode cJ6_bitCount_0f7a4 0 = .ok (.iload_n 0, 1) := by decide +kernel
theorem dJ6_bitCount_0f7a4_1 : decode cJ6_bitCount_0f7a4 1 = .ok (.iload_n 0, 1) := by decide +kernel
theorem dJ6_bitCount_0f7a4_2 : decode cJ6_bitCount_0f7a4 2 = .ok (.iconst 1, 1) := by decide +kernel
theorem dJ6_bitCount_0f7a4_3 : decode cJ6_bitCount_0f7a4 3 = .ok (.iushr, 1) := by decide +kernel
theorem dJ6_bitCount_0f7a4_4 : decode cJ6_bitCount_0f7a4 4 = .ok (.ldc_w 265, 3) := by decide +kernel
theorem dJ6_bitCount_0f7a4_7 : decode cJ6_bitCount_0f7a4 7 = .ok (.iand, 1) := by decide +kernel
theorem dJ6_bitCount_0f7a4_8 : decode cJ6_bitCount_0f7a4 8 = .ok (.isub, 1) := by decide +kernel
theorem dJ6_bitCount_0f7a4_9 : decode cJ6_bitCount_0f7a4 9 = .ok (.istore_n 0, 1) := by decide +kernel
theorem dJ6_bitCount_0f7a4_10 : decode cJ6_bitCount_0f7a4 10 = .ok (.iload_n 0, 1) := by decide +kernel
theorem dJ6_bitCount_0f7a4_11 : decode cJ6_bitCount_0f7a4 11 = .ok (.ldc_w 266, 3) := by decide +kernel
theorem dJ6_bitCount_0f7a4_14 : decode cJ6_bitCount_0f7a4 14 = .ok (.iand, 1) := by decide +kernel
theorem dJ6_bitCount_0f7a4_15 : decode cJ6_bitCount_0f7a4 15 = .ok (.iload_n 0, 1) := by decide +kernel
theorem dJ6_bitCount_0f7a4_16 : decode cJ6_bitCount_0f7a4 16 = .ok (.iconst 2, 1) := by decide +kernel
theorem dJ6_bitCount_0f7a4_17 : decode cJ6_bitCount_0f7a4 17 = .ok (.iushr, 1) := by decide +kernel
theorem dJ6_bitCount_0f7a4_18 : decode cJ6_bitCount_0f7a4 18 = .ok (.ldc_w 266, 3) := by decide +kernel
theorem dJ6_bitCount_0f7a4_21 : decode cJ6_bitCount_0f7a4 21 = .ok (.iand, 1) := by decide +kernel
theorem dJ6_bitCount_0f7a4_22 : decode cJ6_bitCount_0f7a4 22 = .ok (.iadd, 1) := by decide +kernel
theorem dJ6_bitCount_0f7a4_23 : decode cJ6_bitCount_0f7a4 23 = .ok (.istore_n 0, 1) := by decide +kernel
theorem dJ6_bitCount_0f7a4_24 : decode cJ6_bitCount_0f7a4 24 = .ok (.iload_n 0, 1) := by decide +kernel
theorem dJ6_bitCount_0f7a4_25 : decode cJ6_bitCount_0f7a4 25 = .ok (.iload_n 0, 1) := by decide +kernel
theorem dJ6_bitCount_0f7a4_26 : decode cJ6_bitCount_0f7a4 26 = .ok (.iconst 4, 1) := by decide +kernel
theorem dJ6_bitCount_0f7a4_27 : decode cJ6_bitCount_0f7a4 27 = .ok (.iushr, 1) := by decide +kernel
theorem dJ6_bitCount_0f7a4_28 : decode cJ6_bitCount_0f7a4 28 = .ok (.iadd, 1) := by decide +kernel
theorem dJ6_bitCount_0f7a4_29 : decode cJ6_bitCount_0f7a4 29 = .ok (.ldc_w 267, 3) := by decide +kernel
theorem dJ6_bitCount_0f7a4_32 : decode cJ6_bitCount_0f7a4 32 = .ok (.iand, 1) := by decide +kernel
theorem dJ6_bitCount_0f7a4_33 : decode cJ6_bitCount_0f7a4 33 = .ok (.istore_n 0, 1) := by decide +kernel
theorem dJ6_bitCount_0f7a4_34 : decode cJ6_bitCount_0f7a4 34 = .ok (.iload_n 0, 1) := by decide +kernel
theorem dJ6_bitCount_0f7a4_35 : decode cJ6_bitCount_0f7a4 35 = .ok (.iload_n 0, 1) := by decide +kernel
theorem dJ6_bitCount_0f7a4_36 : decode cJ6_bitCount_0f7a4 36 = .ok (.bipush 8, 2) := by decide +kernel
theorem dJ6_bitCount_0f7a4_38 : decode cJ6_bitCount_0f7a4 38 = .ok (.iushr, 1) := by decide +kernel
theorem dJ6_bitCount_0f7a4_39 : decode cJ6_bitCount_0f7a4 39 = .ok (.iadd, 1) := by decide +kernel
theorem dJ6_bitCount_0f7a4_40 : decode cJ6_bitCount_0f7a4 40 = .ok (.istore_n 0, 1) := by decide +kernel
theorem dJ6_bitCount_0f7a4_41 : decode cJ6_bitCount_0f7a4 41 = .ok (.iload_n 0, 1) := by decide +kernel
theorem dJ6_bitCount_0f7a4_42 : decode cJ6_bitCount_0f7a4 42 = .ok (.iload_n 0, 1) := by decide +kernel
theorem dJ6_bitCount_0f7a4_43 : decode cJ6_bitCount_0f7a4 43 = .ok (.bipush 16, 2) := by decide +kernel
theorem dJ6_bitCount_0f7a4_45 : decode cJ6_bitCount_0f7a4 45 = .ok (.iushr, 1) := by decide +kernel
theorem dJ6_bitCount_0f7a4_46 : decode cJ6_bitCount_0f7a4 46 = .ok (.iadd, 1) := by decide +kernel
theorem dJ6_bitCount_0f7a4_47 : decode cJ6_bitCount_0f7a4 47 = .ok (.istore_n 0, 1) := by decide +kernel
theorem dJ6_bitCount_0f7a4_48 : decode cJ6_bitCount_0f7a4 48 = .ok (.iload_n 0, 1) := by decide +kernel
theorem dJ6_bitCount_0f7a4_49 : decode cJ6_bitCount_0f7a4 49 = .ok (.bipush 63, 2) := by decide +kernel
theorem dJ6_bitCount_0f7a4_51 : decode cJ6_bitCount_0f7a4 51 = .ok (.iand, 1) := by decide +kernel
theorem dJ6_bitCount_0f7a4_52 : decode cJ6_bitCount_0f7a4 52 = .ok (.ireturn, 1) := by decide +kernel
theorem dJ9_abs_0f7a4_0 : decode cJ9_abs_0f7a4 0 = .ok (.iload_n 0, 1) := by decide +kernel
theorem dJ9_abs_0f7a4_1 : decode cJ9_abs_0f7a4 1 = .ok (.ifCond .ge 8, 3) := by decide +kernel
theorem dJ9_abs_0f7a4_4 : decode cJ9_abs_0f7a4 4 = .ok (.iload_n 0, 1) := by decide +kernel
theorem dJ9_abs_0f7a4_5 : decode cJ9_abs_0f7a4 5 = .ok (.ineg, 1) := by decide +kernel
theorem dJ9_abs_0f7a4_6 : decode cJ9_abs_0f7a4 6 = .ok (.goto 4, 3) := by decide +kernel
theorem dJ9_abs_0f7a4_9 : decode cJ9_abs_0f7a4 9 = .ok (.iload_n 0, 1) := by decide +kernel
theorem dJ9_abs_0f7a4_10 : decode cJ9_abs_0f7a4 10 = .ok (.ireturn, 1) := by decide +kernel
theorem dJ9_abs_067f4_0 : decode cJ9_abs_067f4 0 = .ok (.lload_n 0, 1) := by decide +kernel
theorem dJ9_abs_067f4_1 : decode cJ9_abs_067f4 1 = .ok (.lconst 0, 1) := by decide +kernel
theorem dJ9_abs_067f4_2 : decode cJ9_abs_067f4 2 = .ok (.lcmp, 1) := by decide +kernel
theorem dJ9_abs_067f4_3 : decode cJ9_abs_067f4 3 = .ok (.ifCond .ge 8, 3) := by decide +kernel
theorem dJ9_abs_067f4_6 : decode cJ9_abs_067f4 6 = .ok (.lload_n 0, 1) := by decide +kernel
theorem dJ9_abs_067f4_7 : decode cJ9_abs_067f4 7 = .ok (.lneg, 1) := by decide +kernel
theorem dJ9_abs_067f4_8 : decode cJ9_abs_067f4 8 = .ok (.goto 4, 3) := by decide +kernel
theorem dJ9_abs_067f4_11 : decode cJ9_abs_067f4 11 = .ok (.lload_n 0, 1) := by decide +kernel
theorem dJ9_abs_067f4_12 : decode cJ9_abs_067f4 12 = .ok (.lreturn, 1) := by decide +kernel
theorem dJ9_max_7cf53_0 : decode cJ9_max_7cf53 0 = .ok (.iload_n 0, 1) := by decide +kernel
theorem dJ9_max_7cf53_1 : decode cJ9_max_7cf53 1 = .ok (.iload_n 1, 1) := by decide +kernel
theorem dJ9_max_7cf53_2 : decode cJ9_max_7cf53 2 = .ok (.if_icmp .lt 7, 3) := by decide +kernel
theorem dJ9_max_7cf53_5 : decode cJ9_max_7cf53 5 = .ok (.iload_n 0, 1) := by decide +kernel
theorem dJ9_max_7cf53_6 : decode cJ9_max_7cf53 6 = .ok (.goto 4, 3) := by decide +kernel
theorem dJ9_max_7cf53_9 : decode cJ9_max_7cf53 9 = .ok (.iload_n 1, 1) := by decide +kernel
theorem dJ9_max_7cf53_10 : decode cJ9_max_7cf53 10 = .ok (.ireturn, 1) := by decide +kernel
theorem dJ9_min_7cf53_0 : decode cJ9_min_7cf53 0 = .ok (.iload_n 0, 1) := by decide +kernel
theorem dJ9_min_7cf53_1 : decode cJ9_min_7cf53 1 = .ok (.iload_n 1, 1) := by decide +kernel
theorem dJ9_min_7cf53_2 : decode cJ9_min_7cf53 2 = .ok (.if_icmp .gt 7, 3) := by decide +kernel
theorem dJ9_min_7cf53_5 : decode cJ9_min_7cf53 5 = .ok (.iload_n 0, 1) := by decide +kernel
theorem dJ9_min_7cf53_6 : decode cJ9_min_7cf53 6 = .ok (.goto 4, 3) := by decide +kernel
theorem dJ9_min_7cf53_9 : decode cJ9_min_7cf53 9 = .ok (.iload_n 1, 1) := by decide +kernel
theorem dJ9_min_7cf53_10 : decode cJ9_min_7cf53 10 = .ok (.ireturn, 1) := by decide +kernel
theorem dJ7_rangeCheck_23922_0 : decode cJ7_rangeCheck_23922 0 = .ok (.iload_n 1, 1) := by decide +kernel
theorem dJ7_rangeCheck_23922_1 : decode cJ7_rangeCheck_23922 1 = .ok (.iload_n 2, 1) := by decide +kernel
theorem dJ7_rangeCheck_23922_2 : decode cJ7_rangeCheck_23922 2 = .ok (.if_icmp .le 44, 3) := by decide +kernel
theorem dJ7_rangeCheck_23922_5 : decode cJ7_rangeCheck_23922 5 = .ok (.new 43, 3) := by decide +kernel
theorem dJ7_rangeCheck_23922_8 : decode cJ7_rangeCheck_23922 8 = .ok (.dup, 1) := by decide +kernel
theorem dJ7_rangeCheck_23922_9 : decode cJ7_rangeCheck_23922 9 = .ok (.new 45, 3) := by decide +kernel
theorem dJ7_rangeCheck_23922_12 : decode cJ7_rangeCheck_23922 12 = .ok (.dup, 1) := by decide +kernel
theorem dJ7_rangeCheck_23922_13 : decode cJ7_rangeCheck_23922 13 = .ok (.invokespecial 47, 3) := by decide +kernel
theorem dJ7_rangeCheck_23922_16 : decode cJ7_rangeCheck_23922 16 = .ok (.ldc 48, 2) := by decide +kernel
theorem dJ7_rangeCheck_23922_18 : decode cJ7_rangeCheck_23922 18 = .ok (.invokevirtual 50, 3) := by decide +kernel
theorem dJ7_rangeCheck_23922_21 : decode cJ7_rangeCheck_23922 21 = .ok (.iload_n 1, 1) := by decide +kernel
theorem dJ7_rangeCheck_23922_22 : decode cJ7_rangeCheck_23922 22 = .ok (.invokevirtual 54, 3) := by decide +kernel
theorem dJ7_rangeCheck_23922_25 : decode cJ7_rangeCheck_23922 25 = .ok (.ldc 57, 2) := by decide +kernel
theorem dJ7_rangeCheck_23922_27 : decode cJ7_rangeCheck_23922 27 = .ok (.invokevirtual 50, 3) := by decide +kernel
theorem dJ7_rangeCheck_23922_30 : decode cJ7_rangeCheck_23922 30 = .ok (.iload_n 2, 1) := by decide +kernel
theorem dJ7_rangeCheck_23922_31 : decode cJ7_rangeCheck_23922 31 = .ok (.invokevirtual 54, 3) := by decide +kernel
theorem dJ7_rangeCheck_23922_34 : decode cJ7_rangeCheck_23922 34 = .ok (.ldc 59, 2) := by decide +kernel
theorem dJ7_rangeCheck_23922_36 : decode cJ7_rangeCheck_23922 36 = .ok (.invokevirtual 50, 3) := by decide +kernel
theorem dJ7_rangeCheck_23922_39 : decode cJ7_rangeCheck_23922 39 = .ok (.invokevirtual 61, 3) := by decide +kernel
theorem dJ7_rangeCheck_23922_42 : decode cJ7_rangeCheck_23922 42 = .ok (.invokespecial 65, 3) := by decide +kernel
theorem dJ7_rangeCheck_23922_45 : decode cJ7_rangeCheck_23922 45 = .ok (.athrow, 1) := by decide +kernel
theorem dJ7_rangeCheck_23922_46 : decode cJ7_rangeCheck_23922 46 = .ok (.iload_n 1, 1) := by decide +kernel
theorem dJ7_rangeCheck_23922_47 : decode cJ7_rangeCheck_23922 47 = .ok (.ifCond .ge 12, 3) := by decide +kernel
theorem dJ7_rangeCheck_23922_50 : decode cJ7_rangeCheck_23922 50 = .ok (.new 68, 3) := by decide +kernel
theorem dJ7_rangeCheck_23922_53 : decode cJ7_rangeCheck_23922 53 = .ok (.dup, 1) := by decide +kernel
theorem dJ7_rangeCheck_23922_54 : decode cJ7_rangeCheck_23922 54 = .ok (.iload_n 1, 1) := by decide +kernel
theorem dJ7_rangeCheck_23922_55 : decode cJ7_rangeCheck_23922 55 = .ok (.invokespecial 70, 3) := by decide +kernel
theorem dJ7_rangeCheck_23922_58 : decode cJ7_rangeCheck_23922 58 = .ok (.athrow, 1) := by decide +kernel
theorem dJ7_rangeCheck_23922_59 : decode cJ7_rangeCheck_23922 59 = .ok (.iload_n 2, 1) := by decide +kernel
theorem dJ7_rangeCheck_23922_60 : decode cJ7_rangeCheck_23922 60 = .ok (.iload_n 0, 1) := by decide +kernel
theorem dJ7_rangeCheck_23922_61 : decode cJ7_rangeCheck_23922 61 = .ok (.if_icmp .le 12, 3) := by decide +kernel
theorem dJ7_rangeCheck_23922_64 : decode cJ7_rangeCheck_23922 64 = .ok (.new 68, 3) := by decide +kernel
theorem dJ7_rangeCheck_23922_67 : decode cJ7_rangeCheck_23922 67 = .ok (.dup, 1) := by decide +kernel
theorem dJ7_rangeCheck_23922_68 : decode cJ7_rangeCheck_23922 68 = .ok (.iload_n 2, 1) := by decide +kernel
theorem dJ7_rangeCheck_23922_69 : decode cJ7_rangeCheck_23922 69 = .ok (.invokespecial 70, 3) := by decide +kernel
theorem dJ7_rangeCheck_23922_72 : decode cJ7_rangeCheck_23922 72 = .ok (.athrow, 1) := by decide +kernel
theorem dJ7_rangeCheck_23922_73 : decode cJ7_rangeCheck_23922 73 = .ok (.return_, 1) := by decide +kernel
theorem dJ7_fill_53178_0 : decode cJ7_fill_53178 0 = .ok (.iconst 0, 1) := by decide +kernel
theorem dJ7_fill_53178_1 : decode cJ7_fill_53178 1 = .ok (.istore_n 2, 1) := by decide +kernel
theorem dJ7_fill_53178_2 : decode cJ7_fill_53178 2 = .ok (.aload_n 0, 1) := by decide +kernel
theorem dJ7_fill_53178_3 : decode cJ7_fill_53178 3 = .ok (.arraylength, 1) := by decide +kernel
theorem dJ7_fill_53178_4 : decode cJ7_fill_53178 4 = .ok (.istore_n 3, 1) := by decide +kernel
theorem dJ7_fill_53178_5 : decode cJ7_fill_53178 5 = .ok (.iload_n 2, 1) := by decide +kernel
theorem dJ7_fill_53178_6 : decode cJ7_fill_53178 6 = .ok (.iload_n 3, 1) := by decide +kernel
theorem dJ7_fill_53178_7 : decode cJ7_fill_53178 7 = .ok (.if_icmp .ge 13, 3) := by decide +kernel
theorem dJ7_fill_53178_10 : decode cJ7_fill_53178 10 = .ok (.aload_n 0, 1) := by decide +kernel
theorem dJ7_fill_53178_11 : decode cJ7_fill_53178 11 = .ok (.iload_n 2, 1) := by decide +kernel
theorem dJ7_fill_53178_12 : decode cJ7_fill_53178 12 = .ok (.iload_n 1, 1) := by decide +kernel
theorem dJ7_fill_53178_13 : decode cJ7_fill_53178 13 = .ok (.iastore, 1) := by decide +kernel
theorem dJ7_fill_53178_14 : decode cJ7_fill_53178 14 = .ok (.iinc 2 1, 3) := by decide +kernel
theorem dJ7_fill_53178_17 : decode cJ7_fill_53178 17 = .ok (.goto (-12), 3) := by decide +kernel
theorem dJ7_fill_53178_20 : decode cJ7_fill_53178 20 = .ok (.return_, 1) := by decide +kernel
theorem dJ7_fill_fda19_0 : decode cJ7_fill_fda19 0 = .ok (.aload_n 0, 1) := by decide +kernel
theorem dJ7_fill_fda19_1 : decode cJ7_fill_fda19 1 = .ok (.arraylength, 1) := by decide +kernel
theorem dJ7_fill_fda19_2 : decode cJ7_fill_fda19 2 = .ok (.iload_n 1, 1) := by decide +kernel
theorem dJ7_fill_fda19_3 : decode cJ7_fill_fda19 3 = .ok (.iload_n 2, 1) := by decide +kernel
theorem dJ7_fill_fda19_4 : decode cJ7_fill_fda19 4 = .ok (.invokestatic 13, 3) := by decide +kernel
theorem dJ7_fill_fda19_7 : decode cJ7_fill_fda19 7 = .ok (.iload_n 1, 1) := by decide +kernel
theorem dJ7_fill_fda19_8 : decode cJ7_fill_fda19 8 = .ok (.istore 4, 2) := by decide +kernel
theorem dJ7_fill_fda19_10 : decode cJ7_fill_fda19 10 = .ok (.iload 4, 2) := by decide +kernel
theorem dJ7_fill_fda19_12 : decode cJ7_fill_fda19 12 = .ok (.iload_n 2, 1) := by decide +kernel
theorem dJ7_fill_fda19_13 : decode cJ7_fill_fda19 13 = .ok (.if_icmp .ge 14, 3) := by decide +kernel
theorem dJ7_fill_fda19_16 : decode cJ7_fill_fda19 16 = .ok (.aload_n 0, 1) := by decide +kernel
theorem dJ7_fill_fda19_17 : decode cJ7_fill_fda19 17 = .ok (.iload 4, 2) := by decide +kernel
theorem dJ7_fill_fda19_19 : decode cJ7_fill_fda19 19 = .ok (.iload_n 3, 1) := by decide +kernel
theorem dJ7_fill_fda19_20 : decode cJ7_fill_fda19 20 = .ok (.iastore, 1) := by decide +kernel
theorem dJ7_fill_fda19_21 : decode cJ7_fill_fda19 21 = .ok (.iinc 4 1, 3) := by decide +kernel
theorem dJ7_fill_fda19_24 : decode cJ7_fill_fda19 24 = .ok (.goto (-14), 3) := by decide +kernel
theorem dJ7_fill_fda19_27 : decode cJ7_fill_fda19 27 = .ok (.return_, 1) := by decide +kernel
