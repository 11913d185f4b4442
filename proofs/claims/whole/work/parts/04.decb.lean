theorem dX11_init_0 : decode cX11_init 0 = .ok (.aload_n 0, 1) := by decide +kernel
theorem dX11_init_1 : decode cX11_init 1 = .ok (.invokespecial 3, 3) := by decide +kernel
theorem dX11_init_4 : decode cX11_init 4 = .ok (.aload_n 0, 1) := by decide +kernel
theorem dX11_init_5 : decode cX11_init 5 = .ok (.new 9, 3) := by decide +kernel
theorem dX11_init_8 : decode cX11_init 8 = .ok (.dup, 1) := by decide +kernel
theorem dX11_init_9 : decode cX11_init 9 = .ok (.invokespecial 11, 3) := by decide +kernel
theorem dX11_init_12 : decode cX11_init 12 = .ok (.putfield 12, 3) := by decide +kernel
theorem dX11_init_15 : decode cX11_init 15 = .ok (.aload_n 0, 1) := by decide +kernel
theorem dX11_init_16 : decode cX11_init 16 = .ok (.new 16, 3) := by decide +kernel
theorem dX11_init_19 : decode cX11_init 19 = .ok (.dup, 1) := by decide +kernel
theorem dX11_init_20 : decode cX11_init 20 = .ok (.invokespecial 18, 3) := by decide +kernel
theorem dX11_init_23 : decode cX11_init 23 = .ok (.putfield 19, 3) := by decide +kernel
theorem dX11_init_26 : decode cX11_init 26 = .ok (.aload_n 0, 1) := by decide +kernel
theorem dX11_init_27 : decode cX11_init 27 = .ok (.new 16, 3) := by decide +kernel
theorem dX11_init_30 : decode cX11_init 30 = .ok (.dup, 1) := by decide +kernel
theorem dX11_init_31 : decode cX11_init 31 = .ok (.invokespecial 18, 3) := by decide +kernel
theorem dX11_init_34 : decode cX11_init 34 = .ok (.putfield 23, 3) := by decide +kernel
theorem dX11_init_37 : decode cX11_init 37 = .ok (.aload_n 0, 1) := by decide +kernel
theorem dX11_init_38 : decode cX11_init 38 = .ok (.new 26, 3) := by decide +kernel
theorem dX11_init_41 : decode cX11_init 41 = .ok (.dup, 1) := by decide +kernel
theorem dX11_init_42 : decode cX11_init 42 = .ok (.invokespecial 28, 3) := by decide +kernel
theorem dX11_init_45 : decode cX11_init 45 = .ok (.putfield 29, 3) := by decide +kernel
theorem dX11_init_48 : decode cX11_init 48 = .ok (.aload_n 0, 1) := by decide +kernel
theorem dX11_init_49 : decode cX11_init 49 = .ok (.new 33, 3) := by decide +kernel
theorem dX11_init_52 : decode cX11_init 52 = .ok (.dup, 1) := by decide +kernel
theorem dX11_init_53 : decode cX11_init 53 = .ok (.invokespecial 35, 3) := by decide +kernel
theorem dX11_init_56 : decode cX11_init 56 = .ok (.putfield 36, 3) := by decide +kernel
theorem dX11_init_59 : decode cX11_init 59 = .ok (.aload_n 0, 1) := by decide +kernel
theorem dX11_init_60 : decode cX11_init 60 = .ok (.new 40, 3) := by decide +kernel
theorem dX11_init_63 : decode cX11_init 63 = .ok (.dup, 1) := by decide +kernel
theorem dX11_init_64 : decode cX11_init 64 = .ok (.invokespecial 42, 3) := by decide +kernel
theorem dX11_init_67 : decode cX11_init 67 = .ok (.putfield 43, 3) := by decide +kernel
theorem dX11_init_70 : decode cX11_init 70 = .ok (.aload_n 0, 1) := by decide +kernel
theorem dX11_init_71 : decode cX11_init 71 = .ok (.new 47, 3) := by decide +kernel
theorem dX11_init_74 : decode cX11_init 74 = .ok (.dup, 1) := by decide +kernel
theorem dX11_init_75 : decode cX11_init 75 = .ok (.invokespecial 49, 3) := by decide +kernel
theorem dX11_init_78 : decode cX11_init 78 = .ok (.putfield 50, 3) := by decide +kernel
theorem dX11_init_81 : decode cX11_init 81 = .ok (.aload_n 0, 1) := by decide +kernel
theorem dX11_init_82 : decode cX11_init 82 = .ok (.new 54, 3) := by decide +kernel
theorem dX11_init_85 : decode cX11_init 85 = .ok (.dup, 1) := by decide +kernel
theorem dX11_init_86 : decode cX11_init 86 = .ok (.invokespecial 56, 3) := by decide +kernel
theorem dX11_init_89 : decode cX11_init 89 = .ok (.putfield 57, 3) := by decide +kernel
theorem dX11_init_92 : decode cX11_init 92 = .ok (.aload_n 0, 1) := by decide +kernel
theorem dX11_init_93 : decode cX11_init 93 = .ok (.new 61, 3) := by decide +kernel
theorem dX11_init_96 : decode cX11_init 96 = .ok (.dup, 1) := by decide +kernel
theorem dX11_init_97 : decode cX11_init 97 = .ok (.invokespecial 63, 3) := by decide +kernel
theorem dX11_init_100 : decode cX11_init 100 = .ok (.putfield 64, 3) := by decide +kernel
theorem dX11_init_103 : decode cX11_init 103 = .ok (.aload_n 0, 1) := by decide +kernel
theorem dX11_init_104 : decode cX11_init 104 = .ok (.new 68, 3) := by decide +kernel
theorem dX11_init_107 : decode cX11_init 107 = .ok (.dup, 1) := by decide +kernel
theorem dX11_init_108 : decode cX11_init 108 = .ok (.invokespecial 70, 3) := by decide +kernel
theorem dX11_init_111 : decode cX11_init 111 = .ok (.putfield 71, 3) := by decide +kernel
theorem dX11_init_114 : decode cX11_init 114 = .ok (.aload_n 0, 1) := by decide +kernel
theorem dX11_init_115 : decode cX11_init 115 = .ok (.new 75, 3) := by decide +kernel
theorem dX11_init_118 : decode cX11_init 118 = .ok (.dup, 1) := by decide +kernel
theorem dX11_init_119 : decode cX11_init 119 = .ok (.invokespecial 77, 3) := by decide +kernel
theorem dX11_init_122 : decode cX11_init 122 = .ok (.putfield 78, 3) := by decide +kernel
theorem dX11_init_125 : decode cX11_init 125 = .ok (.aload_n 0, 1) := by decide +kernel
theorem dX11_init_126 : decode cX11_init 126 = .ok (.new 82, 3) := by decide +kernel
theorem dX11_init_129 : decode cX11_init 129 = .ok (.dup, 1) := by decide +kernel
theorem dX11_init_130 : decode cX11_init 130 = .ok (.invokespecial 84, 3) := by decide +kernel
theorem dX11_init_133 : decode cX11_init 133 = .ok (.putfield 85, 3) := by decide +kernel
theorem dX11_init_136 : decode cX11_init 136 = .ok (.return_, 1) := by decide +kernel
theorem dX11_pair_0 : decode cX11_pair 0 = .ok (.iload_n 1, 1) := by decide +kernel
theorem dX11_pair_1 : decode cX11_pair 1 = .ok (.invokestatic 89, 3) := by decide +kernel
theorem dX11_pair_4 : decode cX11_pair 4 = .ok (.ifCond .eq 25, 3) := by decide +kernel
theorem dX11_pair_7 : decode cX11_pair 7 = .ok (.iload_n 2, 1) := by decide +kernel
theorem dX11_pair_8 : decode cX11_pair 8 = .ok (.invokestatic 93, 3) := by decide +kernel
theorem dX11_pair_11 : decode cX11_pair 11 = .ok (.ifCond .eq 18, 3) := by decide +kernel
theorem dX11_pair_14 : decode cX11_pair 14 = .ok (.iload_n 3, 1) := by decide +kernel
theorem dX11_pair_15 : decode cX11_pair 15 = .ok (.invokestatic 96, 3) := by decide +kernel
theorem dX11_pair_18 : decode cX11_pair 18 = .ok (.ifCond .eq 11, 3) := by decide +kernel
theorem dX11_pair_21 : decode cX11_pair 21 = .ok (.iload 4, 2) := by decide +kernel
theorem dX11_pair_23 : decode cX11_pair 23 = .ok (.invokestatic 99, 3) := by decide +kernel
theorem dX11_pair_26 : decode cX11_pair 26 = .ok (.ifCond .ne 6, 3) := by decide +kernel
theorem dX11_pair_29 : decode cX11_pair 29 = .ok (.bipush (-2), 2) := by decide +kernel
theorem dX11_pair_31 : decode cX11_pair 31 = .ok (.ireturn, 1) := by decide +kernel
theorem dX11_pair_32 : decode cX11_pair 32 = .ok (.iload_n 2, 1) := by decide +kernel
theorem dX11_pair_33 : decode cX11_pair 33 = .ok (.iconst 1, 1) := by decide +kernel
theorem dX11_pair_34 : decode cX11_pair 34 = .ok (.if_icmp .ne 8, 3) := by decide +kernel
theorem dX11_pair_37 : decode cX11_pair 37 = .ok (.iload 4, 2) := by decide +kernel
theorem dX11_pair_39 : decode cX11_pair 39 = .ok (.ifCond .eq 15, 3) := by decide +kernel
theorem dX11_pair_42 : decode cX11_pair 42 = .ok (.aload_n 0, 1) := by decide +kernel
theorem dX11_pair_43 : decode cX11_pair 43 = .ok (.getfield 12, 3) := by decide +kernel
theorem dX11_pair_46 : decode cX11_pair 46 = .ok (.iload 5, 2) := by decide +kernel
theorem dX11_pair_48 : decode cX11_pair 48 = .ok (.invokevirtual 102, 3) := by decide +kernel
theorem dX11_pair_51 : decode cX11_pair 51 = .ok (.ifCond .ne 6, 3) := by decide +kernel
theorem dX11_pair_54 : decode cX11_pair 54 = .ok (.bipush (-2), 2) := by decide +kernel
theorem dX11_pair_56 : decode cX11_pair 56 = .ok (.ireturn, 1) := by decide +kernel
theorem dX11_pair_57 : decode cX11_pair 57 = .ok (.aload_n 0, 1) := by decide +kernel
theorem dX11_pair_58 : decode cX11_pair 58 = .ok (.getfield 12, 3) := by decide +kernel
theorem dX11_pair_61 : decode cX11_pair 61 = .ok (.iload_n 1, 1) := by decide +kernel
theorem dX11_pair_62 : decode cX11_pair 62 = .ok (.iload_n 2, 1) := by decide +kernel
theorem dX11_pair_63 : decode cX11_pair 63 = .ok (.iload_n 3, 1) := by decide +kernel
theorem dX11_pair_64 : decode cX11_pair 64 = .ok (.iload 4, 2) := by decide +kernel
theorem dX11_pair_66 : decode cX11_pair 66 = .ok (.iload 5, 2) := by decide +kernel
theorem dX11_pair_68 : decode cX11_pair 68 = .ok (.invokevirtual 105, 3) := by decide +kernel
theorem dX11_pair_71 : decode cX11_pair 71 = .ok (.ireturn, 1) := by decide +kernel
theorem dX11_read_0 : decode cX11_read 0 = .ok (.iload_n 1, 1) := by decide +kernel
theorem dX11_read_1 : decode cX11_read 1 = .ok (.invokestatic 109, 3) := by decide +kernel
theorem dX11_read_4 : decode cX11_read 4 = .ok (.ifCond .eq 29, 3) := by decide +kernel
theorem dX11_read_7 : decode cX11_read 7 = .ok (.iload_n 2, 1) := by decide +kernel
theorem dX11_read_8 : decode cX11_read 8 = .ok (.invokestatic 89, 3) := by decide +kernel
theorem dX11_read_11 : decode cX11_read 11 = .ok (.ifCond .eq 22, 3) := by decide +kernel
theorem dX11_read_14 : decode cX11_read 14 = .ok (.iload_n 3, 1) := by decide +kernel
theorem dX11_read_15 : decode cX11_read 15 = .ok (.invokestatic 93, 3) := by decide +kernel
theorem dX11_read_18 : decode cX11_read 18 = .ok (.ifCond .eq 15, 3) := by decide +kernel
theorem dX11_read_21 : decode cX11_read 21 = .ok (.aload_n 0, 1) := by decide +kernel
theorem dX11_read_22 : decode cX11_read 22 = .ok (.getfield 12, 3) := by decide +kernel
theorem dX11_read_25 : decode cX11_read 25 = .ok (.iload 4, 2) := by decide +kernel
theorem dX11_read_27 : decode cX11_read 27 = .ok (.invokevirtual 102, 3) := by decide +kernel
theorem dX11_read_30 : decode cX11_read 30 = .ok (.ifCond .ne 6, 3) := by decide +kernel
theorem dX11_read_33 : decode cX11_read 33 = .ok (.bipush (-2), 2) := by decide +kernel
theorem dX11_read_35 : decode cX11_read 35 = .ok (.ireturn, 1) := by decide +kernel
theorem dX11_read_36 : decode cX11_read 36 = .ok (.aload_n 0, 1) := by decide +kernel
theorem dX11_read_37 : decode cX11_read 37 = .ok (.getfield 85, 3) := by decide +kernel
theorem dX11_read_40 : decode cX11_read 40 = .ok (.iload_n 1, 1) := by decide +kernel
theorem dX11_read_41 : decode cX11_read 41 = .ok (.invokevirtual 112, 3) := by decide +kernel
theorem dX11_read_44 : decode cX11_read 44 = .ok (.ifCond .eq 12, 3) := by decide +kernel
theorem dX11_read_47 : decode cX11_read 47 = .ok (.aload_n 0, 1) := by decide +kernel
theorem dX11_read_48 : decode cX11_read 48 = .ok (.getfield 85, 3) := by decide +kernel
theorem dX11_read_51 : decode cX11_read 51 = .ok (.iconst 1, 1) := by decide +kernel
theorem dX11_read_52 : decode cX11_read 52 = .ok (.invokevirtual 115, 3) := by decide +kernel
theorem dX11_read_55 : decode cX11_read 55 = .ok (.ireturn, 1) := by decide +kernel
theorem dX11_read_56 : decode cX11_read 56 = .ok (.aload_n 0, 1) := by decide +kernel
theorem dX11_read_57 : decode cX11_read 57 = .ok (.getfield 85, 3) := by decide +kernel
theorem dX11_read_60 : decode cX11_read 60 = .ok (.iload_n 1, 1) := by decide +kernel
theorem dX11_read_61 : decode cX11_read 61 = .ok (.invokevirtual 119, 3) := by decide +kernel
theorem dX11_read_64 : decode cX11_read 64 = .ok (.iconst 2, 1) := by decide +kernel
theorem dX11_read_65 : decode cX11_read 65 = .ok (.idiv, 1) := by decide +kernel
theorem dX11_read_66 : decode cX11_read 66 = .ok (.istore 5, 2) := by decide +kernel
theorem dX11_read_68 : decode cX11_read 68 = .ok (.iconst 0, 1) := by decide +kernel
theorem dX11_read_69 : decode cX11_read 69 = .ok (.istore 6, 2) := by decide +kernel
theorem dX11_read_71 : decode cX11_read 71 = .ok (.iload 6, 2) := by decide +kernel
theorem dX11_read_73 : decode cX11_read 73 = .ok (.iload 5, 2) := by decide +kernel
theorem dX11_read_75 : decode cX11_read 75 = .ok (.if_icmp .ge 49, 3) := by decide +kernel
theorem dX11_read_78 : decode cX11_read 78 = .ok (.aload_n 0, 1) := by decide +kernel
theorem dX11_read_79 : decode cX11_read 79 = .ok (.iload_n 2, 1) := by decide +kernel
theorem dX11_read_80 : decode cX11_read 80 = .ok (.iload_n 3, 1) := by decide +kernel
theorem dX11_read_81 : decode cX11_read 81 = .ok (.aload_n 0, 1) := by decide +kernel
theorem dX11_read_82 : decode cX11_read 82 = .ok (.getfield 85, 3) := by decide +kernel
theorem dX11_read_85 : decode cX11_read 85 = .ok (.iload_n 1, 1) := by decide +kernel
theorem dX11_read_86 : decode cX11_read 86 = .ok (.iconst 2, 1) := by decide +kernel
theorem dX11_read_87 : decode cX11_read 87 = .ok (.iload 6, 2) := by decide +kernel
theorem dX11_read_89 : decode cX11_read 89 = .ok (.imul, 1) := by decide +kernel
theorem dX11_read_90 : decode cX11_read 90 = .ok (.invokevirtual 122, 3) := by decide +kernel
theorem dX11_read_93 : decode cX11_read 93 = .ok (.aload_n 0, 1) := by decide +kernel
theorem dX11_read_94 : decode cX11_read 94 = .ok (.getfield 85, 3) := by decide +kernel
theorem dX11_read_97 : decode cX11_read 97 = .ok (.iload_n 1, 1) := by decide +kernel
theorem dX11_read_98 : decode cX11_read 98 = .ok (.iconst 2, 1) := by decide +kernel
theorem dX11_read_99 : decode cX11_read 99 = .ok (.iload 6, 2) := by decide +kernel
theorem dX11_read_101 : decode cX11_read 101 = .ok (.imul, 1) := by decide +kernel
theorem dX11_read_102 : decode cX11_read 102 = .ok (.iconst 1, 1) := by decide +kernel
theorem dX11_read_103 : decode cX11_read 103 = .ok (.iadd, 1) := by decide +kernel
theorem dX11_read_104 : decode cX11_read 104 = .ok (.invokevirtual 122, 3) := by decide +kernel
theorem dX11_read_107 : decode cX11_read 107 = .ok (.iload 4, 2) := by decide +kernel
theorem dX11_read_109 : decode cX11_read 109 = .ok (.invokevirtual 126, 3) := by decide +kernel
theorem dX11_read_112 : decode cX11_read 112 = .ok (.ifCond .ge 6, 3) := by decide +kernel
theorem dX11_read_115 : decode cX11_read 115 = .ok (.iload 6, 2) := by decide +kernel
theorem dX11_read_117 : decode cX11_read 117 = .ok (.ireturn, 1) := by decide +kernel
theorem dX11_read_118 : decode cX11_read 118 = .ok (.iinc 6 1, 3) := by decide +kernel
theorem dX11_read_121 : decode cX11_read 121 = .ok (.goto (-50), 3) := by decide +kernel
theorem dX11_read_124 : decode cX11_read 124 = .ok (.iload 5, 2) := by decide +kernel
theorem dX11_read_126 : decode cX11_read 126 = .ok (.ireturn, 1) := by decide +kernel
theorem dX11_takeBack_0 : decode cX11_takeBack 0 = .ok (.aload_n 0, 1) := by decide +kernel
theorem dX11_takeBack_1 : decode cX11_takeBack 1 = .ok (.getfield 12, 3) := by decide +kernel
theorem dX11_takeBack_4 : decode cX11_takeBack 4 = .ok (.iload_n 1, 1) := by decide +kernel
theorem dX11_takeBack_5 : decode cX11_takeBack 5 = .ok (.invokevirtual 129, 3) := by decide +kernel
theorem dX11_takeBack_8 : decode cX11_takeBack 8 = .ok (.ifCond .eq 14, 3) := by decide +kernel
theorem dX11_takeBack_11 : decode cX11_takeBack 11 = .ok (.aload_n 0, 1) := by decide +kernel
theorem dX11_takeBack_12 : decode cX11_takeBack 12 = .ok (.getfield 12, 3) := by decide +kernel
theorem dX11_takeBack_15 : decode cX11_takeBack 15 = .ok (.iload_n 2, 1) := by decide +kernel
theorem dX11_takeBack_16 : decode cX11_takeBack 16 = .ok (.invokevirtual 102, 3) := by decide +kernel
theorem dX11_takeBack_19 : decode cX11_takeBack 19 = .ok (.ifCond .ne 6, 3) := by decide +kernel
theorem dX11_takeBack_22 : decode cX11_takeBack 22 = .ok (.bipush (-2), 2) := by decide +kernel
theorem dX11_takeBack_24 : decode cX11_takeBack 24 = .ok (.ireturn, 1) := by decide +kernel
theorem dX11_takeBack_25 : decode cX11_takeBack 25 = .ok (.aload_n 0, 1) := by decide +kernel
theorem dX11_takeBack_26 : decode cX11_takeBack 26 = .ok (.getfield 12, 3) := by decide +kernel
theorem dX11_takeBack_29 : decode cX11_takeBack 29 = .ok (.iload_n 1, 1) := by decide +kernel
theorem dX11_takeBack_30 : decode cX11_takeBack 30 = .ok (.iload_n 2, 1) := by decide +kernel
theorem dX11_takeBack_31 : decode cX11_takeBack 31 = .ok (.invokevirtual 132, 3) := by decide +kernel
theorem dX11_takeBack_34 : decode cX11_takeBack 34 = .ok (.ireturn, 1) := by decide +kernel
theorem dX11_asOf_0 : decode cX11_asOf 0 = .ok (.iload_n 1, 1) := by decide +kernel
theorem dX11_asOf_1 : decode cX11_asOf 1 = .ok (.invokestatic 135, 3) := by decide +kernel
theorem dX11_asOf_4 : decode cX11_asOf 4 = .ok (.ifCond .ne 6, 3) := by decide +kernel
theorem dX11_asOf_7 : decode cX11_asOf 7 = .ok (.bipush (-2), 2) := by decide +kernel
theorem dX11_asOf_9 : decode cX11_asOf 9 = .ok (.ireturn, 1) := by decide +kernel
theorem dX11_asOf_10 : decode cX11_asOf 10 = .ok (.aload_n 0, 1) := by decide +kernel
theorem dX11_asOf_11 : decode cX11_asOf 11 = .ok (.getfield 12, 3) := by decide +kernel
theorem dX11_asOf_14 : decode cX11_asOf 14 = .ok (.getfield 138, 3) := by decide +kernel
theorem dX11_asOf_17 : decode cX11_asOf 17 = .ok (.istore_n 2, 1) := by decide +kernel
theorem dX11_asOf_18 : decode cX11_asOf 18 = .ok (.aload_n 0, 1) := by decide +kernel
theorem dX11_asOf_19 : decode cX11_asOf 19 = .ok (.getfield 12, 3) := by decide +kernel
theorem dX11_asOf_22 : decode cX11_asOf 22 = .ok (.iload_n 1, 1) := by decide +kernel
theorem dX11_asOf_23 : decode cX11_asOf 23 = .ok (.putfield 138, 3) := by decide +kernel
theorem dX11_asOf_26 : decode cX11_asOf 26 = .ok (.iload_n 2, 1) := by decide +kernel
theorem dX11_asOf_27 : decode cX11_asOf 27 = .ok (.ireturn, 1) := by decide +kernel
theorem dX11_many_0 : decode cX11_many 0 = .ok (.iload_n 1, 1) := by decide +kernel
theorem dX11_many_1 : decode cX11_many 1 = .ok (.invokestatic 142, 3) := by decide +kernel
theorem dX11_many_4 : decode cX11_many 4 = .ok (.ifCond .eq 18, 3) := by decide +kernel
theorem dX11_many_7 : decode cX11_many 7 = .ok (.iload_n 2, 1) := by decide +kernel
theorem dX11_many_8 : decode cX11_many 8 = .ok (.invokestatic 93, 3) := by decide +kernel
theorem dX11_many_11 : decode cX11_many 11 = .ok (.ifCond .eq 11, 3) := by decide +kernel
theorem dX11_many_14 : decode cX11_many 14 = .ok (.iload_n 3, 1) := by decide +kernel
theorem dX11_many_15 : decode cX11_many 15 = .ok (.iconst 2, 1) := by decide +kernel
theorem dX11_many_16 : decode cX11_many 16 = .ok (.invokestatic 145, 3) := by decide +kernel
theorem dX11_many_19 : decode cX11_many 19 = .ok (.ifCond .ne 6, 3) := by decide +kernel
theorem dX11_many_22 : decode cX11_many 22 = .ok (.bipush (-2), 2) := by decide +kernel
theorem dX11_many_24 : decode cX11_many 24 = .ok (.ireturn, 1) := by decide +kernel
theorem dX11_many_25 : decode cX11_many 25 = .ok (.aload_n 0, 1) := by decide +kernel
theorem dX11_many_26 : decode cX11_many 26 = .ok (.getfield 12, 3) := by decide +kernel
theorem dX11_many_29 : decode cX11_many 29 = .ok (.iload_n 1, 1) := by decide +kernel
theorem dX11_many_30 : decode cX11_many 30 = .ok (.iload_n 2, 1) := by decide +kernel
theorem dX11_many_31 : decode cX11_many 31 = .ok (.aload_n 0, 1) := by decide +kernel
theorem dX11_many_32 : decode cX11_many 32 = .ok (.getfield 19, 3) := by decide +kernel
theorem dX11_many_35 : decode cX11_many 35 = .ok (.invokevirtual 149, 3) := by decide +kernel
theorem dX11_many_38 : decode cX11_many 38 = .ok (.iload_n 3, 1) := by decide +kernel
theorem dX11_many_39 : decode cX11_many 39 = .ok (.ifCond .ne 11, 3) := by decide +kernel
theorem dX11_many_42 : decode cX11_many 42 = .ok (.aload_n 0, 1) := by decide +kernel
theorem dX11_many_43 : decode cX11_many 43 = .ok (.getfield 19, 3) := by decide +kernel
theorem dX11_many_46 : decode cX11_many 46 = .ok (.getfield 153, 3) := by decide +kernel
theorem dX11_many_49 : decode cX11_many 49 = .ok (.ireturn, 1) := by decide +kernel
theorem dX11_many_50 : decode cX11_many 50 = .ok (.iload_n 3, 1) := by decide +kernel
theorem dX11_many_51 : decode cX11_many 51 = .ok (.iconst 1, 1) := by decide +kernel
theorem dX11_many_52 : decode cX11_many 52 = .ok (.if_icmp .ne 11, 3) := by decide +kernel
theorem dX11_many_55 : decode cX11_many 55 = .ok (.aload_n 0, 1) := by decide +kernel
theorem dX11_many_56 : decode cX11_many 56 = .ok (.getfield 19, 3) := by decide +kernel
theorem dX11_many_59 : decode cX11_many 59 = .ok (.getfield 156, 3) := by decide +kernel
theorem dX11_many_62 : decode cX11_many 62 = .ok (.ireturn, 1) := by decide +kernel
theorem dX11_many_63 : decode cX11_many 63 = .ok (.aload_n 0, 1) := by decide +kernel
theorem dX11_many_64 : decode cX11_many 64 = .ok (.getfield 19, 3) := by decide +kernel
theorem dX11_many_67 : decode cX11_many 67 = .ok (.getfield 153, 3) := by decide +kernel
theorem dX11_many_70 : decode cX11_many 70 = .ok (.ifCond .ne 8, 3) := by decide +kernel
theorem dX11_many_73 : decode cX11_many 73 = .ok (.bipush (-3), 2) := by decide +kernel
theorem dX11_many_75 : decode cX11_many 75 = .ok (.goto 10, 3) := by decide +kernel
theorem dX11_many_78 : decode cX11_many 78 = .ok (.aload_n 0, 1) := by decide +kernel
theorem dX11_many_79 : decode cX11_many 79 = .ok (.getfield 19, 3) := by decide +kernel
theorem dX11_many_82 : decode cX11_many 82 = .ok (.invokevirtual 159, 3) := by decide +kernel
theorem dX11_many_85 : decode cX11_many 85 = .ok (.ireturn, 1) := by decide +kernel
theorem dX11_mean_0 : decode cX11_mean 0 = .ok (.iload_n 1, 1) := by decide +kernel
theorem dX11_mean_1 : decode cX11_mean 1 = .ok (.invokestatic 142, 3) := by decide +kernel
theorem dX11_mean_4 : decode cX11_mean 4 = .ok (.ifCond .eq 17, 3) := by decide +kernel
theorem dX11_mean_7 : decode cX11_mean 7 = .ok (.iload_n 2, 1) := by decide +kernel
theorem dX11_mean_8 : decode cX11_mean 8 = .ok (.invokestatic 93, 3) := by decide +kernel
theorem dX11_mean_11 : decode cX11_mean 11 = .ok (.ifCond .eq 10, 3) := by decide +kernel
theorem dX11_mean_14 : decode cX11_mean 14 = .ok (.iload_n 3, 1) := by decide +kernel
theorem dX11_mean_15 : decode cX11_mean 15 = .ok (.invokestatic 163, 3) := by decide +kernel
theorem dX11_mean_18 : decode cX11_mean 18 = .ok (.ifCond .ne 9, 3) := by decide +kernel
theorem dX11_mean_21 : decode cX11_mean 21 = .ok (.bipush (-2), 2) := by decide +kernel
theorem dX11_mean_23 : decode cX11_mean 23 = .ok (.invokestatic 166, 3) := by decide +kernel
theorem dX11_mean_26 : decode cX11_mean 26 = .ok (.lreturn, 1) := by decide +kernel
theorem dX11_mean_27 : decode cX11_mean 27 = .ok (.aload_n 0, 1) := by decide +kernel
theorem dX11_mean_28 : decode cX11_mean 28 = .ok (.getfield 12, 3) := by decide +kernel
theorem dX11_mean_31 : decode cX11_mean 31 = .ok (.iload_n 1, 1) := by decide +kernel
theorem dX11_mean_32 : decode cX11_mean 32 = .ok (.iload_n 2, 1) := by decide +kernel
theorem dX11_mean_33 : decode cX11_mean 33 = .ok (.aload_n 0, 1) := by decide +kernel
theorem dX11_mean_34 : decode cX11_mean 34 = .ok (.getfield 19, 3) := by decide +kernel
theorem dX11_mean_37 : decode cX11_mean 37 = .ok (.invokevirtual 149, 3) := by decide +kernel
theorem dX11_mean_40 : decode cX11_mean 40 = .ok (.aload_n 0, 1) := by decide +kernel
theorem dX11_mean_41 : decode cX11_mean 41 = .ok (.getfield 19, 3) := by decide +kernel
theorem dX11_mean_44 : decode cX11_mean 44 = .ok (.getfield 153, 3) := by decide +kernel
theorem dX11_mean_47 : decode cX11_mean 47 = .ok (.ifCond .ne 9, 3) := by decide +kernel
theorem dX11_mean_50 : decode cX11_mean 50 = .ok (.bipush (-3), 2) := by decide +kernel
theorem dX11_mean_52 : decode cX11_mean 52 = .ok (.invokestatic 166, 3) := by decide +kernel
theorem dX11_mean_55 : decode cX11_mean 55 = .ok (.lreturn, 1) := by decide +kernel
theorem dX11_mean_56 : decode cX11_mean 56 = .ok (.aload_n 0, 1) := by decide +kernel
theorem dX11_mean_57 : decode cX11_mean 57 = .ok (.getfield 19, 3) := by decide +kernel
theorem dX11_mean_60 : decode cX11_mean 60 = .ok (.getfield 170, 3) := by decide +kernel
theorem dX11_mean_63 : decode cX11_mean 63 = .ok (.i2l, 1) := by decide +kernel
theorem dX11_mean_64 : decode cX11_mean 64 = .ok (.aload_n 0, 1) := by decide +kernel
theorem dX11_mean_65 : decode cX11_mean 65 = .ok (.getfield 19, 3) := by decide +kernel
theorem dX11_mean_68 : decode cX11_mean 68 = .ok (.getfield 153, 3) := by decide +kernel
theorem dX11_mean_71 : decode cX11_mean 71 = .ok (.i2l, 1) := by decide +kernel
theorem dX11_mean_72 : decode cX11_mean 72 = .ok (.iload_n 3, 1) := by decide +kernel
theorem dX11_mean_73 : decode cX11_mean 73 = .ok (.invokestatic 173, 3) := by decide +kernel
theorem dX11_mean_76 : decode cX11_mean 76 = .ok (.lreturn, 1) := by decide +kernel
theorem dX11_refused_0 : decode cX11_refused 0 = .ok (.iload_n 1, 1) := by decide +kernel
theorem dX11_refused_1 : decode cX11_refused 1 = .ok (.invokestatic 142, 3) := by decide +kernel
theorem dX11_refused_4 : decode cX11_refused 4 = .ok (.ifCond .eq 25, 3) := by decide +kernel
theorem dX11_refused_7 : decode cX11_refused 7 = .ok (.iload_n 2, 1) := by decide +kernel
theorem dX11_refused_8 : decode cX11_refused 8 = .ok (.invokestatic 93, 3) := by decide +kernel
theorem dX11_refused_11 : decode cX11_refused 11 = .ok (.ifCond .eq 18, 3) := by decide +kernel
theorem dX11_refused_14 : decode cX11_refused 14 = .ok (.iload_n 3, 1) := by decide +kernel
theorem dX11_refused_15 : decode cX11_refused 15 = .ok (.invokestatic 96, 3) := by decide +kernel
theorem dX11_refused_18 : decode cX11_refused 18 = .ok (.ifCond .eq 11, 3) := by decide +kernel
theorem dX11_refused_21 : decode cX11_refused 21 = .ok (.iload 4, 2) := by decide +kernel
theorem dX11_refused_23 : decode cX11_refused 23 = .ok (.invokestatic 163, 3) := by decide +kernel
theorem dX11_refused_26 : decode cX11_refused 26 = .ok (.ifCond .ne 9, 3) := by decide +kernel
theorem dX11_refused_29 : decode cX11_refused 29 = .ok (.bipush (-2), 2) := by decide +kernel
theorem dX11_refused_31 : decode cX11_refused 31 = .ok (.invokestatic 166, 3) := by decide +kernel
theorem dX11_refused_34 : decode cX11_refused 34 = .ok (.lreturn, 1) := by decide +kernel
theorem dX11_refused_35 : decode cX11_refused 35 = .ok (.aload_n 0, 1) := by decide +kernel
theorem dX11_refused_36 : decode cX11_refused 36 = .ok (.getfield 12, 3) := by decide +kernel
theorem dX11_refused_39 : decode cX11_refused 39 = .ok (.iload_n 1, 1) := by decide +kernel
theorem dX11_refused_40 : decode cX11_refused 40 = .ok (.iload_n 2, 1) := by decide +kernel
theorem dX11_refused_41 : decode cX11_refused 41 = .ok (.aload_n 0, 1) := by decide +kernel
theorem dX11_refused_42 : decode cX11_refused 42 = .ok (.getfield 19, 3) := by decide +kernel
theorem dX11_refused_45 : decode cX11_refused 45 = .ok (.invokevirtual 149, 3) := by decide +kernel
theorem dX11_refused_48 : decode cX11_refused 48 = .ok (.aload_n 0, 1) := by decide +kernel
theorem dX11_refused_49 : decode cX11_refused 49 = .ok (.getfield 19, 3) := by decide +kernel
theorem dX11_refused_52 : decode cX11_refused 52 = .ok (.getfield 177, 3) := by decide +kernel
theorem dX11_refused_55 : decode cX11_refused 55 = .ok (.iload_n 3, 1) := by decide +kernel
theorem dX11_refused_56 : decode cX11_refused 56 = .ok (.iaload, 1) := by decide +kernel
theorem dX11_refused_57 : decode cX11_refused 57 = .ok (.ifCond .ne 9, 3) := by decide +kernel
theorem dX11_refused_60 : decode cX11_refused 60 = .ok (.bipush (-3), 2) := by decide +kernel
theorem dX11_refused_62 : decode cX11_refused 62 = .ok (.invokestatic 166, 3) := by decide +kernel
theorem dX11_refused_65 : decode cX11_refused 65 = .ok (.lreturn, 1) := by decide +kernel
theorem dX11_refused_66 : decode cX11_refused 66 = .ok (.aload_n 0, 1) := by decide +kernel
theorem dX11_refused_67 : decode cX11_refused 67 = .ok (.getfield 19, 3) := by decide +kernel
theorem dX11_refused_70 : decode cX11_refused 70 = .ok (.getfield 181, 3) := by decide +kernel
theorem dX11_refused_73 : decode cX11_refused 73 = .ok (.iload_n 3, 1) := by decide +kernel
theorem dX11_refused_74 : decode cX11_refused 74 = .ok (.iaload, 1) := by decide +kernel
theorem dX11_refused_75 : decode cX11_refused 75 = .ok (.i2l, 1) := by decide +kernel
theorem dX11_refused_76 : decode cX11_refused 76 = .ok (.aload_n 0, 1) := by decide +kernel
theorem dX11_refused_77 : decode cX11_refused 77 = .ok (.getfield 19, 3) := by decide +kernel
theorem dX11_refused_80 : decode cX11_refused 80 = .ok (.getfield 177, 3) := by decide +kernel
theorem dX11_refused_83 : decode cX11_refused 83 = .ok (.iload_n 3, 1) := by decide +kernel
theorem dX11_refused_84 : decode cX11_refused 84 = .ok (.iaload, 1) := by decide +kernel
theorem dX11_refused_85 : decode cX11_refused 85 = .ok (.i2l, 1) := by decide +kernel
theorem dX11_refused_86 : decode cX11_refused 86 = .ok (.iload 4, 2) := by decide +kernel
theorem dX11_refused_88 : decode cX11_refused 88 = .ok (.invokestatic 173, 3) := by decide +kernel
theorem dX11_refused_91 : decode cX11_refused 91 = .ok (.lreturn, 1) := by decide +kernel
theorem dX11_moves_0 : decode cX11_moves 0 = .ok (.iload_n 1, 1) := by decide +kernel
theorem dX11_moves_1 : decode cX11_moves 1 = .ok (.invokestatic 142, 3) := by decide +kernel
theorem dX11_moves_4 : decode cX11_moves 4 = .ok (.ifCond .eq 18, 3) := by decide +kernel
theorem dX11_moves_7 : decode cX11_moves 7 = .ok (.iload_n 2, 1) := by decide +kernel
theorem dX11_moves_8 : decode cX11_moves 8 = .ok (.iconst 2, 1) := by decide +kernel
theorem dX11_moves_9 : decode cX11_moves 9 = .ok (.invokestatic 145, 3) := by decide +kernel
theorem dX11_moves_12 : decode cX11_moves 12 = .ok (.ifCond .eq 10, 3) := by decide +kernel
theorem dX11_moves_15 : decode cX11_moves 15 = .ok (.iload_n 3, 1) := by decide +kernel
theorem dX11_moves_16 : decode cX11_moves 16 = .ok (.invokestatic 163, 3) := by decide +kernel
theorem dX11_moves_19 : decode cX11_moves 19 = .ok (.ifCond .ne 9, 3) := by decide +kernel
theorem dX11_moves_22 : decode cX11_moves 22 = .ok (.bipush (-2), 2) := by decide +kernel
theorem dX11_moves_24 : decode cX11_moves 24 = .ok (.invokestatic 166, 3) := by decide +kernel
theorem dX11_moves_27 : decode cX11_moves 27 = .ok (.lreturn, 1) := by decide +kernel
theorem dX11_moves_28 : decode cX11_moves 28 = .ok (.aload_n 0, 1) := by decide +kernel
theorem dX11_moves_29 : decode cX11_moves 29 = .ok (.getfield 12, 3) := by decide +kernel
theorem dX11_moves_32 : decode cX11_moves 32 = .ok (.iload_n 1, 1) := by decide +kernel
theorem dX11_moves_33 : decode cX11_moves 33 = .ok (.iload_n 2, 1) := by decide +kernel
theorem dX11_moves_34 : decode cX11_moves 34 = .ok (.iconst 1, 1) := by decide +kernel
theorem dX11_moves_35 : decode cX11_moves 35 = .ok (.if_icmp .ne 7, 3) := by decide +kernel
theorem dX11_moves_38 : decode cX11_moves 38 = .ok (.iconst 3, 1) := by decide +kernel
theorem dX11_moves_39 : decode cX11_moves 39 = .ok (.goto 4, 3) := by decide +kernel
theorem dX11_moves_42 : decode cX11_moves 42 = .ok (.iconst 0, 1) := by decide +kernel
theorem dX11_moves_43 : decode cX11_moves 43 = .ok (.aload_n 0, 1) := by decide +kernel
theorem dX11_moves_44 : decode cX11_moves 44 = .ok (.getfield 19, 3) := by decide +kernel
theorem dX11_moves_47 : decode cX11_moves 47 = .ok (.invokevirtual 149, 3) := by decide +kernel
theorem dX11_moves_50 : decode cX11_moves 50 = .ok (.aload_n 0, 1) := by decide +kernel
theorem dX11_moves_51 : decode cX11_moves 51 = .ok (.getfield 12, 3) := by decide +kernel
theorem dX11_moves_54 : decode cX11_moves 54 = .ok (.iload_n 1, 1) := by decide +kernel
theorem dX11_moves_55 : decode cX11_moves 55 = .ok (.iload_n 2, 1) := by decide +kernel
theorem dX11_moves_56 : decode cX11_moves 56 = .ok (.invokestatic 184, 3) := by decide +kernel
theorem dX11_moves_59 : decode cX11_moves 59 = .ok (.aload_n 0, 1) := by decide +kernel
theorem dX11_moves_60 : decode cX11_moves 60 = .ok (.getfield 23, 3) := by decide +kernel
theorem dX11_moves_63 : decode cX11_moves 63 = .ok (.invokevirtual 149, 3) := by decide +kernel
theorem dX11_moves_66 : decode cX11_moves 66 = .ok (.aload_n 0, 1) := by decide +kernel
theorem dX11_moves_67 : decode cX11_moves 67 = .ok (.getfield 19, 3) := by decide +kernel
theorem dX11_moves_70 : decode cX11_moves 70 = .ok (.getfield 153, 3) := by decide +kernel
theorem dX11_moves_73 : decode cX11_moves 73 = .ok (.ifCond .eq 13, 3) := by decide +kernel
theorem dX11_moves_76 : decode cX11_moves 76 = .ok (.aload_n 0, 1) := by decide +kernel
theorem dX11_moves_77 : decode cX11_moves 77 = .ok (.getfield 23, 3) := by decide +kernel
theorem dX11_moves_80 : decode cX11_moves 80 = .ok (.getfield 153, 3) := by decide +kernel
theorem dX11_moves_83 : decode cX11_moves 83 = .ok (.ifCond .ne 9, 3) := by decide +kernel
theorem dX11_moves_86 : decode cX11_moves 86 = .ok (.bipush (-3), 2) := by decide +kernel
theorem dX11_moves_88 : decode cX11_moves 88 = .ok (.invokestatic 166, 3) := by decide +kernel
theorem dX11_moves_91 : decode cX11_moves 91 = .ok (.lreturn, 1) := by decide +kernel
theorem dX11_moves_92 : decode cX11_moves 92 = .ok (.iload_n 2, 1) := by decide +kernel
theorem dX11_moves_93 : decode cX11_moves 93 = .ok (.iconst 2, 1) := by decide +kernel
theorem dX11_moves_94 : decode cX11_moves 94 = .ok (.if_icmp .ne 13, 3) := by decide +kernel
theorem dX11_moves_97 : decode cX11_moves 97 = .ok (.aload_n 0, 1) := by decide +kernel
theorem dX11_moves_98 : decode cX11_moves 98 = .ok (.getfield 19, 3) := by decide +kernel
theorem dX11_moves_101 : decode cX11_moves 101 = .ok (.getfield 156, 3) := by decide +kernel
theorem dX11_moves_104 : decode cX11_moves 104 = .ok (.goto 10, 3) := by decide +kernel
theorem dX11_moves_107 : decode cX11_moves 107 = .ok (.aload_n 0, 1) := by decide +kernel
theorem dX11_moves_108 : decode cX11_moves 108 = .ok (.getfield 19, 3) := by decide +kernel
theorem dX11_moves_111 : decode cX11_moves 111 = .ok (.getfield 170, 3) := by decide +kernel
theorem dX11_moves_114 : decode cX11_moves 114 = .ok (.istore 4, 2) := by decide +kernel
theorem dX11_moves_116 : decode cX11_moves 116 = .ok (.iload_n 2, 1) := by decide +kernel
theorem dX11_moves_117 : decode cX11_moves 117 = .ok (.iconst 2, 1) := by decide +kernel
theorem dX11_moves_118 : decode cX11_moves 118 = .ok (.if_icmp .ne 13, 3) := by decide +kernel
theorem dX11_moves_121 : decode cX11_moves 121 = .ok (.aload_n 0, 1) := by decide +kernel
theorem dX11_moves_122 : decode cX11_moves 122 = .ok (.getfield 23, 3) := by decide +kernel
theorem dX11_moves_125 : decode cX11_moves 125 = .ok (.getfield 156, 3) := by decide +kernel
theorem dX11_moves_128 : decode cX11_moves 128 = .ok (.goto 10, 3) := by decide +kernel
theorem dX11_moves_131 : decode cX11_moves 131 = .ok (.aload_n 0, 1) := by decide +kernel
theorem dX11_moves_132 : decode cX11_moves 132 = .ok (.getfield 23, 3) := by decide +kernel
theorem dX11_moves_135 : decode cX11_moves 135 = .ok (.getfield 170, 3) := by decide +kernel
theorem dX11_moves_138 : decode cX11_moves 138 = .ok (.istore 5, 2) := by decide +kernel
theorem dX11_moves_140 : decode cX11_moves 140 = .ok (.iload 4, 2) := by decide +kernel
theorem dX11_moves_142 : decode cX11_moves 142 = .ok (.aload_n 0, 1) := by decide +kernel
theorem dX11_moves_143 : decode cX11_moves 143 = .ok (.getfield 23, 3) := by decide +kernel
theorem dX11_moves_146 : decode cX11_moves 146 = .ok (.getfield 153, 3) := by decide +kernel
theorem dX11_moves_149 : decode cX11_moves 149 = .ok (.imul, 1) := by decide +kernel
theorem dX11_moves_150 : decode cX11_moves 150 = .ok (.iload 5, 2) := by decide +kernel
theorem dX11_moves_152 : decode cX11_moves 152 = .ok (.aload_n 0, 1) := by decide +kernel
theorem dX11_moves_153 : decode cX11_moves 153 = .ok (.getfield 19, 3) := by decide +kernel
theorem dX11_moves_156 : decode cX11_moves 156 = .ok (.getfield 153, 3) := by decide +kernel
theorem dX11_moves_159 : decode cX11_moves 159 = .ok (.imul, 1) := by decide +kernel
theorem dX11_moves_160 : decode cX11_moves 160 = .ok (.isub, 1) := by decide +kernel
theorem dX11_moves_161 : decode cX11_moves 161 = .ok (.i2l, 1) := by decide +kernel
theorem dX11_moves_162 : decode cX11_moves 162 = .ok (.aload_n 0, 1) := by decide +kernel
theorem dX11_moves_163 : decode cX11_moves 163 = .ok (.getfield 19, 3) := by decide +kernel
theorem dX11_moves_166 : decode cX11_moves 166 = .ok (.getfield 153, 3) := by decide +kernel
theorem dX11_moves_169 : decode cX11_moves 169 = .ok (.aload_n 0, 1) := by decide +kernel
theorem dX11_moves_170 : decode cX11_moves 170 = .ok (.getfield 23, 3) := by decide +kernel
theorem dX11_moves_173 : decode cX11_moves 173 = .ok (.getfield 153, 3) := by decide +kernel
theorem dX11_moves_176 : decode cX11_moves 176 = .ok (.imul, 1) := by decide +kernel
theorem dX11_moves_177 : decode cX11_moves 177 = .ok (.i2l, 1) := by decide +kernel
theorem dX11_moves_178 : decode cX11_moves 178 = .ok (.iload_n 3, 1) := by decide +kernel
theorem dX11_moves_179 : decode cX11_moves 179 = .ok (.invokestatic 173, 3) := by decide +kernel
theorem dX11_moves_182 : decode cX11_moves 182 = .ok (.lreturn, 1) := by decide +kernel
theorem dX11_lessKind_0 : decode cX11_lessKind 0 = .ok (.iload_n 0, 1) := by decide +kernel
theorem dX11_lessKind_1 : decode cX11_lessKind 1 = .ok (.ifCond .ne 5, 3) := by decide +kernel
theorem dX11_lessKind_4 : decode cX11_lessKind 4 = .ok (.iconst 1, 1) := by decide +kernel
theorem dX11_lessKind_5 : decode cX11_lessKind 5 = .ok (.ireturn, 1) := by decide +kernel
theorem dX11_lessKind_6 : decode cX11_lessKind 6 = .ok (.iload_n 0, 1) := by decide +kernel
theorem dX11_lessKind_7 : decode cX11_lessKind 7 = .ok (.iconst 1, 1) := by decide +kernel
theorem dX11_lessKind_8 : decode cX11_lessKind 8 = .ok (.if_icmp .ne 7, 3) := by decide +kernel
theorem dX11_lessKind_11 : decode cX11_lessKind 11 = .ok (.iconst 0, 1) := by decide +kernel
theorem dX11_lessKind_12 : decode cX11_lessKind 12 = .ok (.goto 4, 3) := by decide +kernel
theorem dX11_lessKind_15 : decode cX11_lessKind 15 = .ok (.iconst 2, 1) := by decide +kernel
theorem dX11_lessKind_16 : decode cX11_lessKind 16 = .ok (.ireturn, 1) := by decide +kernel
theorem dX11_row_0 : decode cX11_row 0 = .ok (.iload_n 1, 1) := by decide +kernel
theorem dX11_row_1 : decode cX11_row 1 = .ok (.invokestatic 89, 3) := by decide +kernel
theorem dX11_row_4 : decode cX11_row 4 = .ok (.ifCond .eq 13, 3) := by decide +kernel
theorem dX11_row_7 : decode cX11_row 7 = .ok (.iload_n 2, 1) := by decide +kernel
theorem dX11_row_8 : decode cX11_row 8 = .ok (.sipush 2047, 3) := by decide +kernel
theorem dX11_row_11 : decode cX11_row 11 = .ok (.invokestatic 145, 3) := by decide +kernel
theorem dX11_row_14 : decode cX11_row 14 = .ok (.ifCond .ne 6, 3) := by decide +kernel
theorem dX11_row_17 : decode cX11_row 17 = .ok (.bipush (-2), 2) := by decide +kernel
theorem dX11_row_19 : decode cX11_row 19 = .ok (.ireturn, 1) := by decide +kernel
theorem dX11_row_20 : decode cX11_row 20 = .ok (.aload_n 0, 1) := by decide +kernel
theorem dX11_row_21 : decode cX11_row 21 = .ok (.getfield 29, 3) := by decide +kernel
theorem dX11_row_24 : decode cX11_row 24 = .ok (.iload_n 1, 1) := by decide +kernel
theorem dX11_row_25 : decode cX11_row 25 = .ok (.iload_n 2, 1) := by decide +kernel
theorem dX11_row_26 : decode cX11_row 26 = .ok (.invokevirtual 187, 3) := by decide +kernel
theorem dX11_row_29 : decode cX11_row 29 = .ok (.ireturn, 1) := by decide +kernel
theorem dX11_line_0 : decode cX11_line 0 = .ok (.aload_n 0, 1) := by decide +kernel
theorem dX11_line_1 : decode cX11_line 1 = .ok (.getfield 29, 3) := by decide +kernel
theorem dX11_line_4 : decode cX11_line 4 = .ok (.iload_n 1, 1) := by decide +kernel
theorem dX11_line_5 : decode cX11_line 5 = .ok (.invokevirtual 189, 3) := by decide +kernel
theorem dX11_line_8 : decode cX11_line 8 = .ok (.ifCond .eq 11, 3) := by decide +kernel
theorem dX11_line_11 : decode cX11_line 11 = .ok (.iload_n 2, 1) := by decide +kernel
theorem dX11_line_12 : decode cX11_line 12 = .ok (.iconst 2, 1) := by decide +kernel
theorem dX11_line_13 : decode cX11_line 13 = .ok (.invokestatic 145, 3) := by decide +kernel
theorem dX11_line_16 : decode cX11_line 16 = .ok (.ifCond .ne 6, 3) := by decide +kernel
theorem dX11_line_19 : decode cX11_line 19 = .ok (.bipush (-2), 2) := by decide +kernel
theorem dX11_line_21 : decode cX11_line 21 = .ok (.ireturn, 1) := by decide +kernel
theorem dX11_line_22 : decode cX11_line 22 = .ok (.aload_n 0, 1) := by decide +kernel
theorem dX11_line_23 : decode cX11_line 23 = .ok (.getfield 29, 3) := by decide +kernel
theorem dX11_line_26 : decode cX11_line 26 = .ok (.iload_n 1, 1) := by decide +kernel
theorem dX11_line_27 : decode cX11_line 27 = .ok (.invokevirtual 190, 3) := by decide +kernel
theorem dX11_line_30 : decode cX11_line 30 = .ok (.iload_n 2, 1) := by decide +kernel
theorem dX11_line_31 : decode cX11_line 31 = .ok (.ifCond .ne 11, 3) := by decide +kernel
theorem dX11_line_34 : decode cX11_line 34 = .ok (.aload_n 0, 1) := by decide +kernel
theorem dX11_line_35 : decode cX11_line 35 = .ok (.getfield 29, 3) := by decide +kernel
theorem dX11_line_38 : decode cX11_line 38 = .ok (.getfield 194, 3) := by decide +kernel
theorem dX11_line_41 : decode cX11_line 41 = .ok (.ireturn, 1) := by decide +kernel
theorem dX11_line_42 : decode cX11_line 42 = .ok (.iload_n 2, 1) := by decide +kernel
theorem dX11_line_43 : decode cX11_line 43 = .ok (.iconst 1, 1) := by decide +kernel
theorem dX11_line_44 : decode cX11_line 44 = .ok (.if_icmp .ne 13, 3) := by decide +kernel
theorem dX11_line_47 : decode cX11_line 47 = .ok (.aload_n 0, 1) := by decide +kernel
theorem dX11_line_48 : decode cX11_line 48 = .ok (.getfield 29, 3) := by decide +kernel
theorem dX11_line_51 : decode cX11_line 51 = .ok (.getfield 197, 3) := by decide +kernel
theorem dX11_line_54 : decode cX11_line 54 = .ok (.goto 10, 3) := by decide +kernel
theorem dX11_line_57 : decode cX11_line 57 = .ok (.aload_n 0, 1) := by decide +kernel
theorem dX11_line_58 : decode cX11_line 58 = .ok (.getfield 29, 3) := by decide +kernel
theorem dX11_line_61 : decode cX11_line 61 = .ok (.getfield 200, 3) := by decide +kernel
theorem dX11_line_64 : decode cX11_line 64 = .ok (.ireturn, 1) := by decide +kernel
theorem dX11_taken_0 : decode cX11_taken 0 = .ok (.iload_n 1, 1) := by decide +kernel
theorem dX11_taken_1 : decode cX11_taken 1 = .ok (.invokestatic 142, 3) := by decide +kernel
theorem dX11_taken_4 : decode cX11_taken 4 = .ok (.ifCond .eq 17, 3) := by decide +kernel
theorem dX11_taken_7 : decode cX11_taken 7 = .ok (.iload_n 2, 1) := by decide +kernel
theorem dX11_taken_8 : decode cX11_taken 8 = .ok (.invokestatic 96, 3) := by decide +kernel
theorem dX11_taken_11 : decode cX11_taken 11 = .ok (.ifCond .eq 10, 3) := by decide +kernel
theorem dX11_taken_14 : decode cX11_taken 14 = .ok (.iload_n 3, 1) := by decide +kernel
theorem dX11_taken_15 : decode cX11_taken 15 = .ok (.invokestatic 163, 3) := by decide +kernel
theorem dX11_taken_18 : decode cX11_taken 18 = .ok (.ifCond .ne 9, 3) := by decide +kernel
theorem dX11_taken_21 : decode cX11_taken 21 = .ok (.bipush (-2), 2) := by decide +kernel
theorem dX11_taken_23 : decode cX11_taken 23 = .ok (.invokestatic 166, 3) := by decide +kernel
theorem dX11_taken_26 : decode cX11_taken 26 = .ok (.lreturn, 1) := by decide +kernel
theorem dX11_taken_27 : decode cX11_taken 27 = .ok (.aload_n 0, 1) := by decide +kernel
theorem dX11_taken_28 : decode cX11_taken 28 = .ok (.getfield 29, 3) := by decide +kernel
theorem dX11_taken_31 : decode cX11_taken 31 = .ok (.iload_n 1, 1) := by decide +kernel
theorem dX11_taken_32 : decode cX11_taken 32 = .ok (.invokevirtual 203, 3) := by decide +kernel
theorem dX11_taken_35 : decode cX11_taken 35 = .ok (.istore 4, 2) := by decide +kernel
theorem dX11_taken_37 : decode cX11_taken 37 = .ok (.iload 4, 2) := by decide +kernel
theorem dX11_taken_39 : decode cX11_taken 39 = .ok (.ifCond .ne 9, 3) := by decide +kernel
theorem dX11_taken_42 : decode cX11_taken 42 = .ok (.bipush (-3), 2) := by decide +kernel
theorem dX11_taken_44 : decode cX11_taken 44 = .ok (.invokestatic 166, 3) := by decide +kernel
theorem dX11_taken_47 : decode cX11_taken 47 = .ok (.lreturn, 1) := by decide +kernel
theorem dX11_taken_48 : decode cX11_taken 48 = .ok (.aload_n 0, 1) := by decide +kernel
theorem dX11_taken_49 : decode cX11_taken 49 = .ok (.getfield 29, 3) := by decide +kernel
theorem dX11_taken_52 : decode cX11_taken 52 = .ok (.iload_n 1, 1) := by decide +kernel
theorem dX11_taken_53 : decode cX11_taken 53 = .ok (.iload_n 2, 1) := by decide +kernel
theorem dX11_taken_54 : decode cX11_taken 54 = .ok (.invokevirtual 206, 3) := by decide +kernel
theorem dX11_taken_57 : decode cX11_taken 57 = .ok (.i2l, 1) := by decide +kernel
theorem dX11_taken_58 : decode cX11_taken 58 = .ok (.iload 4, 2) := by decide +kernel
theorem dX11_taken_60 : decode cX11_taken 60 = .ok (.i2l, 1) := by decide +kernel
theorem dX11_taken_61 : decode cX11_taken 61 = .ok (.iload_n 3, 1) := by decide +kernel
theorem dX11_taken_62 : decode cX11_taken 62 = .ok (.invokestatic 173, 3) := by decide +kernel
theorem dX11_taken_65 : decode cX11_taken 65 = .ok (.lreturn, 1) := by decide +kernel
theorem dX11_best_0 : decode cX11_best 0 = .ok (.iload_n 1, 1) := by decide +kernel
theorem dX11_best_1 : decode cX11_best 1 = .ok (.invokestatic 142, 3) := by decide +kernel
theorem dX11_best_4 : decode cX11_best 4 = .ok (.ifCond .ne 6, 3) := by decide +kernel
theorem dX11_best_7 : decode cX11_best 7 = .ok (.bipush (-2), 2) := by decide +kernel
theorem dX11_best_9 : decode cX11_best 9 = .ok (.ireturn, 1) := by decide +kernel
theorem dX11_best_10 : decode cX11_best 10 = .ok (.aload_n 0, 1) := by decide +kernel
theorem dX11_best_11 : decode cX11_best 11 = .ok (.getfield 29, 3) := by decide +kernel
theorem dX11_best_14 : decode cX11_best 14 = .ok (.iload_n 1, 1) := by decide +kernel
theorem dX11_best_15 : decode cX11_best 15 = .ok (.invokevirtual 203, 3) := by decide +kernel
theorem dX11_best_18 : decode cX11_best 18 = .ok (.ifCond .ne 8, 3) := by decide +kernel
theorem dX11_best_21 : decode cX11_best 21 = .ok (.bipush (-3), 2) := by decide +kernel
theorem dX11_best_23 : decode cX11_best 23 = .ok (.goto 11, 3) := by decide +kernel
theorem dX11_best_26 : decode cX11_best 26 = .ok (.aload_n 0, 1) := by decide +kernel
theorem dX11_best_27 : decode cX11_best 27 = .ok (.getfield 29, 3) := by decide +kernel
theorem dX11_best_30 : decode cX11_best 30 = .ok (.iload_n 1, 1) := by decide +kernel
theorem dX11_best_31 : decode cX11_best 31 = .ok (.invokevirtual 209, 3) := by decide +kernel
theorem dX11_best_34 : decode cX11_best 34 = .ok (.ireturn, 1) := by decide +kernel
theorem dX11_belief_0 : decode cX11_belief 0 = .ok (.iload_n 1, 1) := by decide +kernel
theorem dX11_belief_1 : decode cX11_belief 1 = .ok (.invokestatic 89, 3) := by decide +kernel
theorem dX11_belief_4 : decode cX11_belief 4 = .ok (.ifCond .ne 6, 3) := by decide +kernel
theorem dX11_belief_7 : decode cX11_belief 7 = .ok (.bipush (-2), 2) := by decide +kernel
theorem dX11_belief_9 : decode cX11_belief 9 = .ok (.ireturn, 1) := by decide +kernel
theorem dX11_belief_10 : decode cX11_belief 10 = .ok (.aload_n 0, 1) := by decide +kernel
theorem dX11_belief_11 : decode cX11_belief 11 = .ok (.getfield 36, 3) := by decide +kernel
theorem dX11_belief_14 : decode cX11_belief 14 = .ok (.iload_n 1, 1) := by decide +kernel
theorem dX11_belief_15 : decode cX11_belief 15 = .ok (.invokevirtual 212, 3) := by decide +kernel
theorem dX11_belief_18 : decode cX11_belief 18 = .ok (.ireturn, 1) := by decide +kernel
theorem dX11_believe_0 : decode cX11_believe 0 = .ok (.aload_n 0, 1) := by decide +kernel
theorem dX11_believe_1 : decode cX11_believe 1 = .ok (.getfield 36, 3) := by decide +kernel
theorem dX11_believe_4 : decode cX11_believe 4 = .ok (.iload_n 1, 1) := by decide +kernel
theorem dX11_believe_5 : decode cX11_believe 5 = .ok (.invokevirtual 214, 3) := by decide +kernel
theorem dX11_believe_8 : decode cX11_believe 8 = .ok (.ifCond .eq 19, 3) := by decide +kernel
theorem dX11_believe_11 : decode cX11_believe 11 = .ok (.iload_n 2, 1) := by decide +kernel
theorem dX11_believe_12 : decode cX11_believe 12 = .ok (.invokestatic 96, 3) := by decide +kernel
theorem dX11_believe_15 : decode cX11_believe 15 = .ok (.ifCond .eq 12, 3) := by decide +kernel
theorem dX11_believe_18 : decode cX11_believe 18 = .ok (.iload_n 3, 1) := by decide +kernel
theorem dX11_believe_19 : decode cX11_believe 19 = .ok (.bipush 10, 2) := by decide +kernel
theorem dX11_believe_21 : decode cX11_believe 21 = .ok (.invokestatic 145, 3) := by decide +kernel
theorem dX11_believe_24 : decode cX11_believe 24 = .ok (.ifCond .ne 6, 3) := by decide +kernel
theorem dX11_believe_27 : decode cX11_believe 27 = .ok (.bipush (-2), 2) := by decide +kernel
theorem dX11_believe_29 : decode cX11_believe 29 = .ok (.ireturn, 1) := by decide +kernel
theorem dX11_believe_30 : decode cX11_believe 30 = .ok (.aload_n 0, 1) := by decide +kernel
theorem dX11_believe_31 : decode cX11_believe 31 = .ok (.getfield 36, 3) := by decide +kernel
theorem dX11_believe_34 : decode cX11_believe 34 = .ok (.iload_n 1, 1) := by decide +kernel
theorem dX11_believe_35 : decode cX11_believe 35 = .ok (.iload_n 2, 1) := by decide +kernel
theorem dX11_believe_36 : decode cX11_believe 36 = .ok (.iload_n 3, 1) := by decide +kernel
theorem dX11_believe_37 : decode cX11_believe 37 = .ok (.invokevirtual 215, 3) := by decide +kernel
theorem dX11_believe_40 : decode cX11_believe 40 = .ok (.ireturn, 1) := by decide +kernel
theorem dX11_hisBest_0 : decode cX11_hisBest 0 = .ok (.aload_n 0, 1) := by decide +kernel
theorem dX11_hisBest_1 : decode cX11_hisBest 1 = .ok (.getfield 36, 3) := by decide +kernel
theorem dX11_hisBest_4 : decode cX11_hisBest 4 = .ok (.iload_n 1, 1) := by decide +kernel
theorem dX11_hisBest_5 : decode cX11_hisBest 5 = .ok (.invokevirtual 214, 3) := by decide +kernel
theorem dX11_hisBest_8 : decode cX11_hisBest 8 = .ok (.ifCond .ne 6, 3) := by decide +kernel
theorem dX11_hisBest_11 : decode cX11_hisBest 11 = .ok (.bipush (-2), 2) := by decide +kernel
theorem dX11_hisBest_13 : decode cX11_hisBest 13 = .ok (.ireturn, 1) := by decide +kernel
theorem dX11_hisBest_14 : decode cX11_hisBest 14 = .ok (.aload_n 0, 1) := by decide +kernel
theorem dX11_hisBest_15 : decode cX11_hisBest 15 = .ok (.getfield 36, 3) := by decide +kernel
theorem dX11_hisBest_18 : decode cX11_hisBest 18 = .ok (.iload_n 1, 1) := by decide +kernel
theorem dX11_hisBest_19 : decode cX11_hisBest 19 = .ok (.invokevirtual 219, 3) := by decide +kernel
theorem dX11_hisBest_22 : decode cX11_hisBest 22 = .ok (.ireturn, 1) := by decide +kernel
theorem dX11_off_0 : decode cX11_off 0 = .ok (.aload_n 0, 1) := by decide +kernel
theorem dX11_off_1 : decode cX11_off 1 = .ok (.getfield 36, 3) := by decide +kernel
theorem dX11_off_4 : decode cX11_off 4 = .ok (.iload_n 1, 1) := by decide +kernel
theorem dX11_off_5 : decode cX11_off 5 = .ok (.invokevirtual 214, 3) := by decide +kernel
theorem dX11_off_8 : decode cX11_off 8 = .ok (.ifCond .eq 18, 3) := by decide +kernel
theorem dX11_off_11 : decode cX11_off 11 = .ok (.iload_n 2, 1) := by decide +kernel
theorem dX11_off_12 : decode cX11_off 12 = .ok (.iconst 1, 1) := by decide +kernel
theorem dX11_off_13 : decode cX11_off 13 = .ok (.invokestatic 145, 3) := by decide +kernel
theorem dX11_off_16 : decode cX11_off 16 = .ok (.ifCond .eq 10, 3) := by decide +kernel
theorem dX11_off_19 : decode cX11_off 19 = .ok (.iload_n 3, 1) := by decide +kernel
theorem dX11_off_20 : decode cX11_off 20 = .ok (.invokestatic 163, 3) := by decide +kernel
theorem dX11_off_23 : decode cX11_off 23 = .ok (.ifCond .ne 9, 3) := by decide +kernel
theorem dX11_off_26 : decode cX11_off 26 = .ok (.bipush (-2), 2) := by decide +kernel
theorem dX11_off_28 : decode cX11_off 28 = .ok (.invokestatic 166, 3) := by decide +kernel
theorem dX11_off_31 : decode cX11_off 31 = .ok (.lreturn, 1) := by decide +kernel
theorem dX11_off_32 : decode cX11_off 32 = .ok (.aload_n 0, 1) := by decide +kernel
theorem dX11_off_33 : decode cX11_off 33 = .ok (.getfield 36, 3) := by decide +kernel
theorem dX11_off_36 : decode cX11_off 36 = .ok (.getfield 220, 3) := by decide +kernel
theorem dX11_off_39 : decode cX11_off 39 = .ok (.iload_n 1, 1) := by decide +kernel
theorem dX11_off_40 : decode cX11_off 40 = .ok (.iaload, 1) := by decide +kernel
theorem dX11_off_41 : decode cX11_off 41 = .ok (.istore 4, 2) := by decide +kernel
theorem dX11_off_43 : decode cX11_off 43 = .ok (.aload_n 0, 1) := by decide +kernel
theorem dX11_off_44 : decode cX11_off 44 = .ok (.getfield 29, 3) := by decide +kernel
theorem dX11_off_47 : decode cX11_off 47 = .ok (.iload 4, 2) := by decide +kernel
theorem dX11_off_49 : decode cX11_off 49 = .ok (.invokevirtual 203, 3) := by decide +kernel
theorem dX11_off_52 : decode cX11_off 52 = .ok (.istore 5, 2) := by decide +kernel
theorem dX11_off_54 : decode cX11_off 54 = .ok (.iload 5, 2) := by decide +kernel
theorem dX11_off_56 : decode cX11_off 56 = .ok (.ifCond .ne 9, 3) := by decide +kernel
theorem dX11_off_59 : decode cX11_off 59 = .ok (.bipush (-3), 2) := by decide +kernel
theorem dX11_off_61 : decode cX11_off 61 = .ok (.invokestatic 166, 3) := by decide +kernel
theorem dX11_off_64 : decode cX11_off 64 = .ok (.lreturn, 1) := by decide +kernel
theorem dX11_off_65 : decode cX11_off 65 = .ok (.iload_n 2, 1) := by decide +kernel
theorem dX11_off_66 : decode cX11_off 66 = .ok (.ifCond .ne 24, 3) := by decide +kernel
theorem dX11_off_69 : decode cX11_off 69 = .ok (.aload_n 0, 1) := by decide +kernel
theorem dX11_off_70 : decode cX11_off 70 = .ok (.iload_n 1, 1) := by decide +kernel
theorem dX11_off_71 : decode cX11_off 71 = .ok (.iload 4, 2) := by decide +kernel
theorem dX11_off_73 : decode cX11_off 73 = .ok (.iload 5, 2) := by decide +kernel
theorem dX11_off_75 : decode cX11_off 75 = .ok (.invokevirtual 223, 3) := by decide +kernel
theorem dX11_off_78 : decode cX11_off 78 = .ok (.i2l, 1) := by decide +kernel
theorem dX11_off_79 : decode cX11_off 79 = .ok (.bipush 10, 2) := by decide +kernel
theorem dX11_off_81 : decode cX11_off 81 = .ok (.iload 5, 2) := by decide +kernel
theorem dX11_off_83 : decode cX11_off 83 = .ok (.imul, 1) := by decide +kernel
theorem dX11_off_84 : decode cX11_off 84 = .ok (.i2l, 1) := by decide +kernel
theorem dX11_off_85 : decode cX11_off 85 = .ok (.iload_n 3, 1) := by decide +kernel
theorem dX11_off_86 : decode cX11_off 86 = .ok (.invokestatic 173, 3) := by decide +kernel
theorem dX11_off_89 : decode cX11_off 89 = .ok (.lreturn, 1) := by decide +kernel
theorem dX11_off_90 : decode cX11_off 90 = .ok (.aload_n 0, 1) := by decide +kernel
theorem dX11_off_91 : decode cX11_off 91 = .ok (.getfield 29, 3) := by decide +kernel
theorem dX11_off_94 : decode cX11_off 94 = .ok (.iload 4, 2) := by decide +kernel
theorem dX11_off_96 : decode cX11_off 96 = .ok (.aload_n 0, 1) := by decide +kernel
theorem dX11_off_97 : decode cX11_off 97 = .ok (.getfield 29, 3) := by decide +kernel
theorem dX11_off_100 : decode cX11_off 100 = .ok (.iload 4, 2) := by decide +kernel
theorem dX11_off_102 : decode cX11_off 102 = .ok (.invokevirtual 209, 3) := by decide +kernel
theorem dX11_off_105 : decode cX11_off 105 = .ok (.invokevirtual 226, 3) := by decide +kernel
theorem dX11_off_108 : decode cX11_off 108 = .ok (.aload_n 0, 1) := by decide +kernel
theorem dX11_off_109 : decode cX11_off 109 = .ok (.getfield 29, 3) := by decide +kernel
theorem dX11_off_112 : decode cX11_off 112 = .ok (.iload 4, 2) := by decide +kernel
theorem dX11_off_114 : decode cX11_off 114 = .ok (.aload_n 0, 1) := by decide +kernel
theorem dX11_off_115 : decode cX11_off 115 = .ok (.getfield 36, 3) := by decide +kernel
theorem dX11_off_118 : decode cX11_off 118 = .ok (.iload_n 1, 1) := by decide +kernel
theorem dX11_off_119 : decode cX11_off 119 = .ok (.invokevirtual 219, 3) := by decide +kernel
theorem dX11_off_122 : decode cX11_off 122 = .ok (.invokevirtual 226, 3) := by decide +kernel
theorem dX11_off_125 : decode cX11_off 125 = .ok (.isub, 1) := by decide +kernel
theorem dX11_off_126 : decode cX11_off 126 = .ok (.istore 6, 2) := by decide +kernel
theorem dX11_off_128 : decode cX11_off 128 = .ok (.iload 6, 2) := by decide +kernel
theorem dX11_off_130 : decode cX11_off 130 = .ok (.i2l, 1) := by decide +kernel
theorem dX11_off_131 : decode cX11_off 131 = .ok (.iload 5, 2) := by decide +kernel
theorem dX11_off_133 : decode cX11_off 133 = .ok (.i2l, 1) := by decide +kernel
theorem dX11_off_134 : decode cX11_off 134 = .ok (.iload_n 3, 1) := by decide +kernel
theorem dX11_off_135 : decode cX11_off 135 = .ok (.invokestatic 173, 3) := by decide +kernel
theorem dX11_off_138 : decode cX11_off 138 = .ok (.lreturn, 1) := by decide +kernel
theorem dX11_amountsOff_0 : decode cX11_amountsOff 0 = .ok (.iconst 0, 1) := by decide +kernel
theorem dX11_amountsOff_1 : decode cX11_amountsOff 1 = .ok (.istore 4, 2) := by decide +kernel
theorem dX11_amountsOff_3 : decode cX11_amountsOff 3 = .ok (.iconst 0, 1) := by decide +kernel
theorem dX11_amountsOff_4 : decode cX11_amountsOff 4 = .ok (.istore 5, 2) := by decide +kernel
theorem dX11_amountsOff_6 : decode cX11_amountsOff 6 = .ok (.iload 5, 2) := by decide +kernel
theorem dX11_amountsOff_8 : decode cX11_amountsOff 8 = .ok (.bipush 11, 2) := by decide +kernel
theorem dX11_amountsOff_10 : decode cX11_amountsOff 10 = .ok (.if_icmp .ge 43, 3) := by decide +kernel
theorem dX11_amountsOff_13 : decode cX11_amountsOff 13 = .ok (.iload 4, 2) := by decide +kernel
theorem dX11_amountsOff_15 : decode cX11_amountsOff 15 = .ok (.aload_n 0, 1) := by decide +kernel
theorem dX11_amountsOff_16 : decode cX11_amountsOff 16 = .ok (.getfield 36, 3) := by decide +kernel
theorem dX11_amountsOff_19 : decode cX11_amountsOff 19 = .ok (.iload_n 1, 1) := by decide +kernel
theorem dX11_amountsOff_20 : decode cX11_amountsOff 20 = .ok (.iload 5, 2) := by decide +kernel
theorem dX11_amountsOff_22 : decode cX11_amountsOff 22 = .ok (.invokevirtual 229, 3) := by decide +kernel
theorem dX11_amountsOff_25 : decode cX11_amountsOff 25 = .ok (.iload_n 3, 1) := by decide +kernel
theorem dX11_amountsOff_26 : decode cX11_amountsOff 26 = .ok (.imul, 1) := by decide +kernel
theorem dX11_amountsOff_27 : decode cX11_amountsOff 27 = .ok (.bipush 10, 2) := by decide +kernel
theorem dX11_amountsOff_29 : decode cX11_amountsOff 29 = .ok (.aload_n 0, 1) := by decide +kernel
theorem dX11_amountsOff_30 : decode cX11_amountsOff 30 = .ok (.getfield 29, 3) := by decide +kernel
theorem dX11_amountsOff_33 : decode cX11_amountsOff 33 = .ok (.iload_n 2, 1) := by decide +kernel
theorem dX11_amountsOff_34 : decode cX11_amountsOff 34 = .ok (.iload 5, 2) := by decide +kernel
theorem dX11_amountsOff_36 : decode cX11_amountsOff 36 = .ok (.invokevirtual 206, 3) := by decide +kernel
theorem dX11_amountsOff_39 : decode cX11_amountsOff 39 = .ok (.imul, 1) := by decide +kernel
theorem dX11_amountsOff_40 : decode cX11_amountsOff 40 = .ok (.isub, 1) := by decide +kernel
theorem dX11_amountsOff_41 : decode cX11_amountsOff 41 = .ok (.invokestatic 232, 3) := by decide +kernel
theorem dX11_amountsOff_44 : decode cX11_amountsOff 44 = .ok (.iadd, 1) := by decide +kernel
theorem dX11_amountsOff_45 : decode cX11_amountsOff 45 = .ok (.istore 4, 2) := by decide +kernel
theorem dX11_amountsOff_47 : decode cX11_amountsOff 47 = .ok (.iinc 5 1, 3) := by decide +kernel
theorem dX11_amountsOff_50 : decode cX11_amountsOff 50 = .ok (.goto (-44), 3) := by decide +kernel
theorem dX11_amountsOff_53 : decode cX11_amountsOff 53 = .ok (.iload 4, 2) := by decide +kernel
theorem dX11_amountsOff_55 : decode cX11_amountsOff 55 = .ok (.ireturn, 1) := by decide +kernel
theorem dX11_type_0 : decode cX11_type 0 = .ok (.iload_n 1, 1) := by decide +kernel
theorem dX11_type_1 : decode cX11_type 1 = .ok (.sipush 255, 3) := by decide +kernel
theorem dX11_type_4 : decode cX11_type 4 = .ok (.invokestatic 145, 3) := by decide +kernel
theorem dX11_type_7 : decode cX11_type 7 = .ok (.ifCond .ne 6, 3) := by decide +kernel
theorem dX11_type_10 : decode cX11_type 10 = .ok (.bipush (-2), 2) := by decide +kernel
theorem dX11_type_12 : decode cX11_type 12 = .ok (.ireturn, 1) := by decide +kernel
theorem dX11_type_13 : decode cX11_type 13 = .ok (.aload_n 0, 1) := by decide +kernel
theorem dX11_type_14 : decode cX11_type 14 = .ok (.getfield 43, 3) := by decide +kernel
theorem dX11_type_17 : decode cX11_type 17 = .ok (.iload_n 1, 1) := by decide +kernel
theorem dX11_type_18 : decode cX11_type 18 = .ok (.invokevirtual 237, 3) := by decide +kernel
theorem dX11_type_21 : decode cX11_type 21 = .ok (.ireturn, 1) := by decide +kernel
theorem dX11_wipe_0 : decode cX11_wipe 0 = .ok (.aload_n 0, 1) := by decide +kernel
theorem dX11_wipe_1 : decode cX11_wipe 1 = .ok (.getfield 43, 3) := by decide +kernel
theorem dX11_wipe_4 : decode cX11_wipe 4 = .ok (.invokevirtual 238, 3) := by decide +kernel
theorem dX11_wipe_7 : decode cX11_wipe 7 = .ok (.ireturn, 1) := by decide +kernel
theorem dX11_fault_0 : decode cX11_fault 0 = .ok (.aload_n 0, 1) := by decide +kernel
theorem dX11_fault_1 : decode cX11_fault 1 = .ok (.getfield 43, 3) := by decide +kernel
theorem dX11_fault_4 : decode cX11_fault 4 = .ok (.invokevirtual 241, 3) := by decide +kernel
theorem dX11_fault_7 : decode cX11_fault 7 = .ok (.ireturn, 1) := by decide +kernel
theorem dX11_reckon_0 : decode cX11_reckon 0 = .ok (.iload_n 1, 1) := by decide +kernel
theorem dX11_reckon_1 : decode cX11_reckon 1 = .ok (.bipush 40, 2) := by decide +kernel
theorem dX11_reckon_3 : decode cX11_reckon 3 = .ok (.invokestatic 145, 3) := by decide +kernel
theorem dX11_reckon_6 : decode cX11_reckon 6 = .ok (.ifCond .eq 11, 3) := by decide +kernel
theorem dX11_reckon_9 : decode cX11_reckon 9 = .ok (.iload_n 2, 1) := by decide +kernel
theorem dX11_reckon_10 : decode cX11_reckon 10 = .ok (.iconst 5, 1) := by decide +kernel
theorem dX11_reckon_11 : decode cX11_reckon 11 = .ok (.invokestatic 145, 3) := by decide +kernel
theorem dX11_reckon_14 : decode cX11_reckon 14 = .ok (.ifCond .ne 6, 3) := by decide +kernel
theorem dX11_reckon_17 : decode cX11_reckon 17 = .ok (.bipush (-2), 2) := by decide +kernel
theorem dX11_reckon_19 : decode cX11_reckon 19 = .ok (.ireturn, 1) := by decide +kernel
theorem dX11_reckon_20 : decode cX11_reckon 20 = .ok (.aload_n 0, 1) := by decide +kernel
theorem dX11_reckon_21 : decode cX11_reckon 21 = .ok (.getfield 43, 3) := by decide +kernel
theorem dX11_reckon_24 : decode cX11_reckon 24 = .ok (.invokevirtual 241, 3) := by decide +kernel
theorem dX11_reckon_27 : decode cX11_reckon 27 = .ok (.iconst (-1), 1) := by decide +kernel
theorem dX11_reckon_28 : decode cX11_reckon 28 = .ok (.if_icmp .eq 6, 3) := by decide +kernel
theorem dX11_reckon_31 : decode cX11_reckon 31 = .ok (.bipush (-3), 2) := by decide +kernel
theorem dX11_reckon_33 : decode cX11_reckon 33 = .ok (.ireturn, 1) := by decide +kernel
theorem dX11_reckon_34 : decode cX11_reckon 34 = .ok (.iload_n 2, 1) := by decide +kernel
theorem dX11_reckon_35 : decode cX11_reckon 35 = .ok (.iconst 4, 1) := by decide +kernel
theorem dX11_reckon_36 : decode cX11_reckon 36 = .ok (.if_icmp .ne 11, 3) := by decide +kernel
theorem dX11_reckon_39 : decode cX11_reckon 39 = .ok (.aload_n 0, 1) := by decide +kernel
theorem dX11_reckon_40 : decode cX11_reckon 40 = .ok (.getfield 43, 3) := by decide +kernel
theorem dX11_reckon_43 : decode cX11_reckon 43 = .ok (.getfield 244, 3) := by decide +kernel
theorem dX11_reckon_46 : decode cX11_reckon 46 = .ok (.ireturn, 1) := by decide +kernel
theorem dX11_reckon_47 : decode cX11_reckon 47 = .ok (.iload_n 2, 1) := by decide +kernel
theorem dX11_reckon_48 : decode cX11_reckon 48 = .ok (.iconst 5, 1) := by decide +kernel
theorem dX11_reckon_49 : decode cX11_reckon 49 = .ok (.if_icmp .ne 19, 3) := by decide +kernel
theorem dX11_reckon_52 : decode cX11_reckon 52 = .ok (.aload_n 0, 1) := by decide +kernel
theorem dX11_reckon_53 : decode cX11_reckon 53 = .ok (.getfield 43, 3) := by decide +kernel
theorem dX11_reckon_56 : decode cX11_reckon 56 = .ok (.getfield 247, 3) := by decide +kernel
theorem dX11_reckon_59 : decode cX11_reckon 59 = .ok (.aload_n 0, 1) := by decide +kernel
theorem dX11_reckon_60 : decode cX11_reckon 60 = .ok (.getfield 43, 3) := by decide +kernel
theorem dX11_reckon_63 : decode cX11_reckon 63 = .ok (.getfield 244, 3) := by decide +kernel
theorem dX11_reckon_66 : decode cX11_reckon 66 = .ok (.isub, 1) := by decide +kernel
theorem dX11_reckon_67 : decode cX11_reckon 67 = .ok (.ireturn, 1) := by decide +kernel
theorem dX11_reckon_68 : decode cX11_reckon 68 = .ok (.aload_n 0, 1) := by decide +kernel
theorem dX11_reckon_69 : decode cX11_reckon 69 = .ok (.getfield 43, 3) := by decide +kernel
theorem dX11_reckon_72 : decode cX11_reckon 72 = .ok (.iload_n 1, 1) := by decide +kernel
theorem dX11_reckon_73 : decode cX11_reckon 73 = .ok (.invokevirtual 250, 3) := by decide +kernel
theorem dX11_reckon_76 : decode cX11_reckon 76 = .ok (.iload_n 2, 1) := by decide +kernel
theorem dX11_reckon_77 : decode cX11_reckon 77 = .ok (.iconst 3, 1) := by decide +kernel
theorem dX11_reckon_78 : decode cX11_reckon 78 = .ok (.if_icmp .ne 13, 3) := by decide +kernel
theorem dX11_reckon_81 : decode cX11_reckon 81 = .ok (.aload_n 0, 1) := by decide +kernel
theorem dX11_reckon_82 : decode cX11_reckon 82 = .ok (.getfield 43, 3) := by decide +kernel
theorem dX11_reckon_85 : decode cX11_reckon 85 = .ok (.invokevirtual 253, 3) := by decide +kernel
theorem dX11_reckon_88 : decode cX11_reckon 88 = .ok (.goto 11, 3) := by decide +kernel
theorem dX11_reckon_91 : decode cX11_reckon 91 = .ok (.aload_n 0, 1) := by decide +kernel
theorem dX11_reckon_92 : decode cX11_reckon 92 = .ok (.getfield 43, 3) := by decide +kernel
theorem dX11_reckon_95 : decode cX11_reckon 95 = .ok (.iload_n 2, 1) := by decide +kernel
theorem dX11_reckon_96 : decode cX11_reckon 96 = .ok (.invokevirtual 256, 3) := by decide +kernel
theorem dX11_reckon_99 : decode cX11_reckon 99 = .ok (.ireturn, 1) := by decide +kernel
theorem dX11_how_0 : decode cX11_how 0 = .ok (.iload_n 1, 1) := by decide +kernel
theorem dX11_how_1 : decode cX11_how 1 = .ok (.bipush 40, 2) := by decide +kernel
theorem dX11_how_3 : decode cX11_how 3 = .ok (.invokestatic 145, 3) := by decide +kernel
theorem dX11_how_6 : decode cX11_how 6 = .ok (.ifCond .eq 7, 3) := by decide +kernel
theorem dX11_how_9 : decode cX11_how 9 = .ok (.iload_n 2, 1) := by decide +kernel
theorem dX11_how_10 : decode cX11_how 10 = .ok (.ifCond .ge 6, 3) := by decide +kernel
theorem dX11_how_13 : decode cX11_how 13 = .ok (.bipush (-2), 2) := by decide +kernel
theorem dX11_how_15 : decode cX11_how 15 = .ok (.ireturn, 1) := by decide +kernel
theorem dX11_how_16 : decode cX11_how 16 = .ok (.aload_n 0, 1) := by decide +kernel
theorem dX11_how_17 : decode cX11_how 17 = .ok (.getfield 43, 3) := by decide +kernel
theorem dX11_how_20 : decode cX11_how 20 = .ok (.invokevirtual 241, 3) := by decide +kernel
theorem dX11_how_23 : decode cX11_how 23 = .ok (.iconst (-1), 1) := by decide +kernel
theorem dX11_how_24 : decode cX11_how 24 = .ok (.if_icmp .eq 6, 3) := by decide +kernel
theorem dX11_how_27 : decode cX11_how 27 = .ok (.bipush (-3), 2) := by decide +kernel
theorem dX11_how_29 : decode cX11_how 29 = .ok (.ireturn, 1) := by decide +kernel
theorem dX11_how_30 : decode cX11_how 30 = .ok (.aload_n 0, 1) := by decide +kernel
theorem dX11_how_31 : decode cX11_how 31 = .ok (.getfield 43, 3) := by decide +kernel
theorem dX11_how_34 : decode cX11_how 34 = .ok (.iload_n 1, 1) := by decide +kernel
theorem dX11_how_35 : decode cX11_how 35 = .ok (.invokevirtual 250, 3) := by decide +kernel
theorem dX11_how_38 : decode cX11_how 38 = .ok (.aload_n 0, 1) := by decide +kernel
theorem dX11_how_39 : decode cX11_how 39 = .ok (.getfield 43, 3) := by decide +kernel
theorem dX11_how_42 : decode cX11_how 42 = .ok (.iload_n 2, 1) := by decide +kernel
theorem dX11_how_43 : decode cX11_how 43 = .ok (.invokevirtual 259, 3) := by decide +kernel
theorem dX11_how_46 : decode cX11_how 46 = .ok (.ireturn, 1) := by decide +kernel
theorem dX11_temper_0 : decode cX11_temper 0 = .ok (.aload_n 0, 1) := by decide +kernel
theorem dX11_temper_1 : decode cX11_temper 1 = .ok (.getfield 43, 3) := by decide +kernel
theorem dX11_temper_4 : decode cX11_temper 4 = .ok (.invokevirtual 241, 3) := by decide +kernel
theorem dX11_temper_7 : decode cX11_temper 7 = .ok (.iconst (-1), 1) := by decide +kernel
theorem dX11_temper_8 : decode cX11_temper 8 = .ok (.if_icmp .eq 6, 3) := by decide +kernel
theorem dX11_temper_11 : decode cX11_temper 11 = .ok (.bipush (-3), 2) := by decide +kernel
theorem dX11_temper_13 : decode cX11_temper 13 = .ok (.ireturn, 1) := by decide +kernel
theorem dX11_temper_14 : decode cX11_temper 14 = .ok (.aload_n 0, 1) := by decide +kernel
theorem dX11_temper_15 : decode cX11_temper 15 = .ok (.getfield 43, 3) := by decide +kernel
theorem dX11_temper_18 : decode cX11_temper 18 = .ok (.invokevirtual 262, 3) := by decide +kernel
theorem dX11_temper_21 : decode cX11_temper 21 = .ok (.ireturn, 1) := by decide +kernel
theorem dX11_two_0 : decode cX11_two 0 = .ok (.iload_n 1, 1) := by decide +kernel
theorem dX11_two_1 : decode cX11_two 1 = .ok (.invokestatic 89, 3) := by decide +kernel
theorem dX11_two_4 : decode cX11_two 4 = .ok (.ifCond .eq 15, 3) := by decide +kernel
theorem dX11_two_7 : decode cX11_two 7 = .ok (.iload_n 2, 1) := by decide +kernel
theorem dX11_two_8 : decode cX11_two 8 = .ok (.invokestatic 89, 3) := by decide +kernel
theorem dX11_two_11 : decode cX11_two 11 = .ok (.ifCond .eq 8, 3) := by decide +kernel
theorem dX11_two_14 : decode cX11_two 14 = .ok (.iload_n 1, 1) := by decide +kernel
theorem dX11_two_15 : decode cX11_two 15 = .ok (.iload_n 2, 1) := by decide +kernel
theorem dX11_two_16 : decode cX11_two 16 = .ok (.if_icmp .ne 6, 3) := by decide +kernel
theorem dX11_two_19 : decode cX11_two 19 = .ok (.bipush (-2), 2) := by decide +kernel
theorem dX11_two_21 : decode cX11_two 21 = .ok (.ireturn, 1) := by decide +kernel
theorem dX11_two_22 : decode cX11_two 22 = .ok (.aload_n 0, 1) := by decide +kernel
theorem dX11_two_23 : decode cX11_two 23 = .ok (.getfield 12, 3) := by decide +kernel
theorem dX11_two_26 : decode cX11_two 26 = .ok (.iload_n 1, 1) := by decide +kernel
theorem dX11_two_27 : decode cX11_two 27 = .ok (.iconst 0, 1) := by decide +kernel
theorem dX11_two_28 : decode cX11_two 28 = .ok (.aload_n 0, 1) := by decide +kernel
theorem dX11_two_29 : decode cX11_two 29 = .ok (.getfield 19, 3) := by decide +kernel
theorem dX11_two_32 : decode cX11_two 32 = .ok (.invokevirtual 149, 3) := by decide +kernel
theorem dX11_two_35 : decode cX11_two 35 = .ok (.aload_n 0, 1) := by decide +kernel
theorem dX11_two_36 : decode cX11_two 36 = .ok (.getfield 12, 3) := by decide +kernel
theorem dX11_two_39 : decode cX11_two 39 = .ok (.iload_n 2, 1) := by decide +kernel
theorem dX11_two_40 : decode cX11_two 40 = .ok (.iconst 0, 1) := by decide +kernel
theorem dX11_two_41 : decode cX11_two 41 = .ok (.aload_n 0, 1) := by decide +kernel
theorem dX11_two_42 : decode cX11_two 42 = .ok (.getfield 23, 3) := by decide +kernel
theorem dX11_two_45 : decode cX11_two 45 = .ok (.invokevirtual 149, 3) := by decide +kernel
theorem dX11_two_48 : decode cX11_two 48 = .ok (.aload_n 0, 1) := by decide +kernel
theorem dX11_two_49 : decode cX11_two 49 = .ok (.getfield 19, 3) := by decide +kernel
theorem dX11_two_52 : decode cX11_two 52 = .ok (.getfield 153, 3) := by decide +kernel
theorem dX11_two_55 : decode cX11_two 55 = .ok (.ifCond .eq 13, 3) := by decide +kernel
theorem dX11_two_58 : decode cX11_two 58 = .ok (.aload_n 0, 1) := by decide +kernel
theorem dX11_two_59 : decode cX11_two 59 = .ok (.getfield 23, 3) := by decide +kernel
theorem dX11_two_62 : decode cX11_two 62 = .ok (.getfield 153, 3) := by decide +kernel
theorem dX11_two_65 : decode cX11_two 65 = .ok (.ifCond .ne 6, 3) := by decide +kernel
theorem dX11_two_68 : decode cX11_two 68 = .ok (.bipush (-3), 2) := by decide +kernel
theorem dX11_two_70 : decode cX11_two 70 = .ok (.ireturn, 1) := by decide +kernel
theorem dX11_two_71 : decode cX11_two 71 = .ok (.aload_n 0, 1) := by decide +kernel
theorem dX11_two_72 : decode cX11_two 72 = .ok (.getfield 19, 3) := by decide +kernel
theorem dX11_two_75 : decode cX11_two 75 = .ok (.getfield 153, 3) := by decide +kernel
theorem dX11_two_78 : decode cX11_two 78 = .ok (.aload_n 0, 1) := by decide +kernel
theorem dX11_two_79 : decode cX11_two 79 = .ok (.getfield 23, 3) := by decide +kernel
theorem dX11_two_82 : decode cX11_two 82 = .ok (.getfield 153, 3) := by decide +kernel
theorem dX11_two_85 : decode cX11_two 85 = .ok (.iadd, 1) := by decide +kernel
theorem dX11_two_86 : decode cX11_two 86 = .ok (.bipush 14, 2) := by decide +kernel
theorem dX11_two_88 : decode cX11_two 88 = .ok (.if_icmp .le 6, 3) := by decide +kernel
theorem dX11_two_91 : decode cX11_two 91 = .ok (.bipush (-4), 2) := by decide +kernel
theorem dX11_two_93 : decode cX11_two 93 = .ok (.ireturn, 1) := by decide +kernel
theorem dX11_two_94 : decode cX11_two 94 = .ok (.aload_n 0, 1) := by decide +kernel
theorem dX11_two_95 : decode cX11_two 95 = .ok (.getfield 50, 3) := by decide +kernel
theorem dX11_two_98 : decode cX11_two 98 = .ok (.invokevirtual 265, 3) := by decide +kernel
theorem dX11_two_101 : decode cX11_two 101 = .ok (.aload_n 0, 1) := by decide +kernel
theorem dX11_two_102 : decode cX11_two 102 = .ok (.getfield 50, 3) := by decide +kernel
theorem dX11_two_105 : decode cX11_two 105 = .ok (.aload_n 0, 1) := by decide +kernel
theorem dX11_two_106 : decode cX11_two 106 = .ok (.getfield 19, 3) := by decide +kernel
theorem dX11_two_109 : decode cX11_two 109 = .ok (.invokevirtual 267, 3) := by decide +kernel
theorem dX11_two_112 : decode cX11_two 112 = .ok (.aload_n 0, 1) := by decide +kernel
theorem dX11_two_113 : decode cX11_two 113 = .ok (.getfield 50, 3) := by decide +kernel
theorem dX11_two_116 : decode cX11_two 116 = .ok (.aload_n 0, 1) := by decide +kernel
theorem dX11_two_117 : decode cX11_two 117 = .ok (.getfield 23, 3) := by decide +kernel
theorem dX11_two_120 : decode cX11_two 120 = .ok (.invokevirtual 267, 3) := by decide +kernel
theorem dX11_two_123 : decode cX11_two 123 = .ok (.aload_n 0, 1) := by decide +kernel
theorem dX11_two_124 : decode cX11_two 124 = .ok (.getfield 50, 3) := by decide +kernel
theorem dX11_two_127 : decode cX11_two 127 = .ok (.aload_n 0, 1) := by decide +kernel
theorem dX11_two_128 : decode cX11_two 128 = .ok (.getfield 19, 3) := by decide +kernel
theorem dX11_two_131 : decode cX11_two 131 = .ok (.getfield 153, 3) := by decide +kernel
theorem dX11_two_134 : decode cX11_two 134 = .ok (.aload_n 0, 1) := by decide +kernel
theorem dX11_two_135 : decode cX11_two 135 = .ok (.getfield 23, 3) := by decide +kernel
theorem dX11_two_138 : decode cX11_two 138 = .ok (.getfield 153, 3) := by decide +kernel
theorem dX11_two_141 : decode cX11_two 141 = .ok (.if_icmp .gt 10, 3) := by decide +kernel
theorem dX11_two_144 : decode cX11_two 144 = .ok (.aload_n 0, 1) := by decide +kernel
theorem dX11_two_145 : decode cX11_two 145 = .ok (.getfield 19, 3) := by decide +kernel
theorem dX11_two_148 : decode cX11_two 148 = .ok (.goto 7, 3) := by decide +kernel
theorem dX11_two_151 : decode cX11_two 151 = .ok (.aload_n 0, 1) := by decide +kernel
theorem dX11_two_152 : decode cX11_two 152 = .ok (.getfield 23, 3) := by decide +kernel
theorem dX11_two_155 : decode cX11_two 155 = .ok (.invokevirtual 271, 3) := by decide +kernel
theorem dX11_two_158 : decode cX11_two 158 = .ok (.ireturn, 1) := by decide +kernel
theorem dX11_thing_0 : decode cX11_thing 0 = .ok (.iload_n 1, 1) := by decide +kernel
theorem dX11_thing_1 : decode cX11_thing 1 = .ok (.bipush 99, 2) := by decide +kernel
theorem dX11_thing_3 : decode cX11_thing 3 = .ok (.invokestatic 145, 3) := by decide +kernel
theorem dX11_thing_6 : decode cX11_thing 6 = .ok (.ifCond .eq 31, 3) := by decide +kernel
theorem dX11_thing_9 : decode cX11_thing 9 = .ok (.iload_n 2, 1) := by decide +kernel
theorem dX11_thing_10 : decode cX11_thing 10 = .ok (.bipush 99, 2) := by decide +kernel
theorem dX11_thing_12 : decode cX11_thing 12 = .ok (.invokestatic 145, 3) := by decide +kernel
theorem dX11_thing_15 : decode cX11_thing 15 = .ok (.ifCond .eq 22, 3) := by decide +kernel
theorem dX11_thing_18 : decode cX11_thing 18 = .ok (.iload_n 3, 1) := by decide +kernel
theorem dX11_thing_19 : decode cX11_thing 19 = .ok (.bipush 99, 2) := by decide +kernel
theorem dX11_thing_21 : decode cX11_thing 21 = .ok (.invokestatic 145, 3) := by decide +kernel
theorem dX11_thing_24 : decode cX11_thing 24 = .ok (.ifCond .eq 13, 3) := by decide +kernel
theorem dX11_thing_27 : decode cX11_thing 27 = .ok (.iload 4, 2) := by decide +kernel
theorem dX11_thing_29 : decode cX11_thing 29 = .ok (.bipush 99, 2) := by decide +kernel
theorem dX11_thing_31 : decode cX11_thing 31 = .ok (.invokestatic 145, 3) := by decide +kernel
theorem dX11_thing_34 : decode cX11_thing 34 = .ok (.ifCond .ne 6, 3) := by decide +kernel
theorem dX11_thing_37 : decode cX11_thing 37 = .ok (.bipush (-2), 2) := by decide +kernel
theorem dX11_thing_39 : decode cX11_thing 39 = .ok (.ireturn, 1) := by decide +kernel
theorem dX11_thing_40 : decode cX11_thing 40 = .ok (.aload_n 0, 1) := by decide +kernel
theorem dX11_thing_41 : decode cX11_thing 41 = .ok (.getfield 64, 3) := by decide +kernel
theorem dX11_thing_44 : decode cX11_thing 44 = .ok (.iload_n 1, 1) := by decide +kernel
theorem dX11_thing_45 : decode cX11_thing 45 = .ok (.iload_n 2, 1) := by decide +kernel
theorem dX11_thing_46 : decode cX11_thing 46 = .ok (.iload_n 3, 1) := by decide +kernel
theorem dX11_thing_47 : decode cX11_thing 47 = .ok (.iload 4, 2) := by decide +kernel
theorem dX11_thing_49 : decode cX11_thing 49 = .ok (.invokevirtual 275, 3) := by decide +kernel
theorem dX11_thing_52 : decode cX11_thing 52 = .ok (.ireturn, 1) := by decide +kernel
theorem dX11_goes_0 : decode cX11_goes 0 = .ok (.aload_n 0, 1) := by decide +kernel
theorem dX11_goes_1 : decode cX11_goes 1 = .ok (.getfield 64, 3) := by decide +kernel
theorem dX11_goes_4 : decode cX11_goes 4 = .ok (.iload_n 1, 1) := by decide +kernel
theorem dX11_goes_5 : decode cX11_goes 5 = .ok (.invokevirtual 278, 3) := by decide +kernel
theorem dX11_goes_8 : decode cX11_goes 8 = .ok (.ifCond .ne 6, 3) := by decide +kernel
theorem dX11_goes_11 : decode cX11_goes 11 = .ok (.bipush (-99), 2) := by decide +kernel
theorem dX11_goes_13 : decode cX11_goes 13 = .ok (.ireturn, 1) := by decide +kernel
theorem dX11_goes_14 : decode cX11_goes 14 = .ok (.aload_n 0, 1) := by decide +kernel
theorem dX11_goes_15 : decode cX11_goes 15 = .ok (.invokevirtual 279, 3) := by decide +kernel
theorem dX11_goes_18 : decode cX11_goes 18 = .ok (.aload_n 0, 1) := by decide +kernel
theorem dX11_goes_19 : decode cX11_goes 19 = .ok (.getfield 64, 3) := by decide +kernel
theorem dX11_goes_22 : decode cX11_goes 22 = .ok (.iload_n 1, 1) := by decide +kernel
theorem dX11_goes_23 : decode cX11_goes 23 = .ok (.aload_n 0, 1) := by decide +kernel
theorem dX11_goes_24 : decode cX11_goes 24 = .ok (.getfield 57, 3) := by decide +kernel
theorem dX11_goes_27 : decode cX11_goes 27 = .ok (.invokevirtual 282, 3) := by decide +kernel
theorem dX11_goes_30 : decode cX11_goes 30 = .ok (.ireturn, 1) := by decide +kernel
theorem dX11_looked_0 : decode cX11_looked 0 = .ok (.aload_n 0, 1) := by decide +kernel
theorem dX11_looked_1 : decode cX11_looked 1 = .ok (.invokevirtual 279, 3) := by decide +kernel
theorem dX11_looked_4 : decode cX11_looked 4 = .ok (.aload_n 0, 1) := by decide +kernel
theorem dX11_looked_5 : decode cX11_looked 5 = .ok (.getfield 64, 3) := by decide +kernel
theorem dX11_looked_8 : decode cX11_looked 8 = .ok (.getfield 286, 3) := by decide +kernel
theorem dX11_looked_11 : decode cX11_looked 11 = .ok (.ifCond .eq 14, 3) := by decide +kernel
theorem dX11_looked_14 : decode cX11_looked 14 = .ok (.aload_n 0, 1) := by decide +kernel
theorem dX11_looked_15 : decode cX11_looked 15 = .ok (.getfield 57, 3) := by decide +kernel
theorem dX11_looked_18 : decode cX11_looked 18 = .ok (.getfield 289, 3) := by decide +kernel
theorem dX11_looked_21 : decode cX11_looked 21 = .ok (.iconst 2, 1) := by decide +kernel
theorem dX11_looked_22 : decode cX11_looked 22 = .ok (.if_icmp .ge 6, 3) := by decide +kernel
theorem dX11_looked_25 : decode cX11_looked 25 = .ok (.bipush (-3), 2) := by decide +kernel
theorem dX11_looked_27 : decode cX11_looked 27 = .ok (.ireturn, 1) := by decide +kernel
theorem dX11_looked_28 : decode cX11_looked 28 = .ok (.aload_n 0, 1) := by decide +kernel
theorem dX11_looked_29 : decode cX11_looked 29 = .ok (.getfield 64, 3) := by decide +kernel
theorem dX11_looked_32 : decode cX11_looked 32 = .ok (.aload_n 0, 1) := by decide +kernel
theorem dX11_looked_33 : decode cX11_looked 33 = .ok (.getfield 57, 3) := by decide +kernel
theorem dX11_looked_36 : decode cX11_looked 36 = .ok (.invokevirtual 292, 3) := by decide +kernel
theorem dX11_looked_39 : decode cX11_looked 39 = .ok (.istore_n 1, 1) := by decide +kernel
theorem dX11_looked_40 : decode cX11_looked 40 = .ok (.iconst 0, 1) := by decide +kernel
theorem dX11_looked_41 : decode cX11_looked 41 = .ok (.istore_n 2, 1) := by decide +kernel
theorem dX11_looked_42 : decode cX11_looked 42 = .ok (.iconst 0, 1) := by decide +kernel
theorem dX11_looked_43 : decode cX11_looked 43 = .ok (.istore_n 3, 1) := by decide +kernel
theorem dX11_looked_44 : decode cX11_looked 44 = .ok (.iconst 0, 1) := by decide +kernel
theorem dX11_looked_45 : decode cX11_looked 45 = .ok (.istore 4, 2) := by decide +kernel
theorem dX11_looked_47 : decode cX11_looked 47 = .ok (.iload 4, 2) := by decide +kernel
theorem dX11_looked_49 : decode cX11_looked 49 = .ok (.sipush 256, 3) := by decide +kernel
theorem dX11_looked_52 : decode cX11_looked 52 = .ok (.if_icmp .ge 47, 3) := by decide +kernel
theorem dX11_looked_55 : decode cX11_looked 55 = .ok (.aload_n 0, 1) := by decide +kernel
theorem dX11_looked_56 : decode cX11_looked 56 = .ok (.getfield 57, 3) := by decide +kernel
theorem dX11_looked_59 : decode cX11_looked 59 = .ok (.iload 4, 2) := by decide +kernel
theorem dX11_looked_61 : decode cX11_looked 61 = .ok (.invokevirtual 295, 3) := by decide +kernel
theorem dX11_looked_64 : decode cX11_looked 64 = .ok (.ifCond .eq 29, 3) := by decide +kernel
theorem dX11_looked_67 : decode cX11_looked 67 = .ok (.iinc 2 1, 3) := by decide +kernel
theorem dX11_looked_70 : decode cX11_looked 70 = .ok (.iload_n 3, 1) := by decide +kernel
theorem dX11_looked_71 : decode cX11_looked 71 = .ok (.aload_n 0, 1) := by decide +kernel
theorem dX11_looked_72 : decode cX11_looked 72 = .ok (.getfield 64, 3) := by decide +kernel
theorem dX11_looked_75 : decode cX11_looked 75 = .ok (.aload_n 0, 1) := by decide +kernel
theorem dX11_looked_76 : decode cX11_looked 76 = .ok (.getfield 57, 3) := by decide +kernel
theorem dX11_looked_79 : decode cX11_looked 79 = .ok (.invokevirtual 292, 3) := by decide +kernel
theorem dX11_looked_82 : decode cX11_looked 82 = .ok (.iload_n 1, 1) := by decide +kernel
theorem dX11_looked_83 : decode cX11_looked 83 = .ok (.if_icmp .lt 7, 3) := by decide +kernel
theorem dX11_looked_86 : decode cX11_looked 86 = .ok (.iconst 1, 1) := by decide +kernel
theorem dX11_looked_87 : decode cX11_looked 87 = .ok (.goto 4, 3) := by decide +kernel
theorem dX11_looked_90 : decode cX11_looked 90 = .ok (.iconst 0, 1) := by decide +kernel
theorem dX11_looked_91 : decode cX11_looked 91 = .ok (.iadd, 1) := by decide +kernel
theorem dX11_looked_92 : decode cX11_looked 92 = .ok (.istore_n 3, 1) := by decide +kernel
theorem dX11_looked_93 : decode cX11_looked 93 = .ok (.iinc 4 1, 3) := by decide +kernel
theorem dX11_looked_96 : decode cX11_looked 96 = .ok (.goto (-49), 3) := by decide +kernel
theorem dX11_looked_99 : decode cX11_looked 99 = .ok (.iload_n 3, 1) := by decide +kernel
theorem dX11_looked_100 : decode cX11_looked 100 = .ok (.iload_n 2, 1) := by decide +kernel
theorem dX11_looked_101 : decode cX11_looked 101 = .ok (.invokestatic 298, 3) := by decide +kernel
theorem dX11_looked_104 : decode cX11_looked 104 = .ok (.ireturn, 1) := by decide +kernel
theorem dX11_learnMeans_0 : decode cX11_learnMeans 0 = .ok (.aload_n 0, 1) := by decide +kernel
theorem dX11_learnMeans_1 : decode cX11_learnMeans 1 = .ok (.getfield 57, 3) := by decide +kernel
theorem dX11_learnMeans_4 : decode cX11_learnMeans 4 = .ok (.invokevirtual 301, 3) := by decide +kernel
theorem dX11_learnMeans_7 : decode cX11_learnMeans 7 = .ok (.iconst 0, 1) := by decide +kernel
theorem dX11_learnMeans_8 : decode cX11_learnMeans 8 = .ok (.istore_n 1, 1) := by decide +kernel
theorem dX11_learnMeans_9 : decode cX11_learnMeans 9 = .ok (.iload_n 1, 1) := by decide +kernel
theorem dX11_learnMeans_10 : decode cX11_learnMeans 10 = .ok (.iconst 4, 1) := by decide +kernel
theorem dX11_learnMeans_11 : decode cX11_learnMeans 11 = .ok (.if_icmp .ge 34, 3) := by decide +kernel
theorem dX11_learnMeans_14 : decode cX11_learnMeans 14 = .ok (.aload_n 0, 1) := by decide +kernel
theorem dX11_learnMeans_15 : decode cX11_learnMeans 15 = .ok (.getfield 12, 3) := by decide +kernel
theorem dX11_learnMeans_18 : decode cX11_learnMeans 18 = .ok (.iload_n 1, 1) := by decide +kernel
theorem dX11_learnMeans_19 : decode cX11_learnMeans 19 = .ok (.iconst 0, 1) := by decide +kernel
theorem dX11_learnMeans_20 : decode cX11_learnMeans 20 = .ok (.aload_n 0, 1) := by decide +kernel
theorem dX11_learnMeans_21 : decode cX11_learnMeans 21 = .ok (.getfield 19, 3) := by decide +kernel
theorem dX11_learnMeans_24 : decode cX11_learnMeans 24 = .ok (.invokevirtual 149, 3) := by decide +kernel
theorem dX11_learnMeans_27 : decode cX11_learnMeans 27 = .ok (.aload_n 0, 1) := by decide +kernel
theorem dX11_learnMeans_28 : decode cX11_learnMeans 28 = .ok (.getfield 57, 3) := by decide +kernel
theorem dX11_learnMeans_31 : decode cX11_learnMeans 31 = .ok (.iload_n 1, 1) := by decide +kernel
theorem dX11_learnMeans_32 : decode cX11_learnMeans 32 = .ok (.aload_n 0, 1) := by decide +kernel
theorem dX11_learnMeans_33 : decode cX11_learnMeans 33 = .ok (.getfield 19, 3) := by decide +kernel
theorem dX11_learnMeans_36 : decode cX11_learnMeans 36 = .ok (.invokevirtual 302, 3) := by decide +kernel
theorem dX11_learnMeans_39 : decode cX11_learnMeans 39 = .ok (.iinc 1 1, 3) := by decide +kernel
theorem dX11_learnMeans_42 : decode cX11_learnMeans 42 = .ok (.goto (-33), 3) := by decide +kernel
theorem dX11_learnMeans_45 : decode cX11_learnMeans 45 = .ok (.return_, 1) := by decide +kernel
theorem dX11_story_0 : decode cX11_story 0 = .ok (.iload_n 1, 1) := by decide +kernel
theorem dX11_story_1 : decode cX11_story 1 = .ok (.iconst 2, 1) := by decide +kernel
theorem dX11_story_2 : decode cX11_story 2 = .ok (.invokestatic 145, 3) := by decide +kernel
theorem dX11_story_5 : decode cX11_story 5 = .ok (.ifCond .eq 11, 3) := by decide +kernel
theorem dX11_story_8 : decode cX11_story 8 = .ok (.iload_n 2, 1) := by decide +kernel
theorem dX11_story_9 : decode cX11_story 9 = .ok (.iconst 2, 1) := by decide +kernel
theorem dX11_story_10 : decode cX11_story 10 = .ok (.invokestatic 145, 3) := by decide +kernel
theorem dX11_story_13 : decode cX11_story 13 = .ok (.ifCond .ne 6, 3) := by decide +kernel
theorem dX11_story_16 : decode cX11_story 16 = .ok (.bipush (-2), 2) := by decide +kernel
theorem dX11_story_18 : decode cX11_story 18 = .ok (.ireturn, 1) := by decide +kernel
theorem dX11_story_19 : decode cX11_story 19 = .ok (.iload_n 3, 1) := by decide +kernel
theorem dX11_story_20 : decode cX11_story 20 = .ok (.iconst 1, 1) := by decide +kernel
theorem dX11_story_21 : decode cX11_story 21 = .ok (.if_icmp .lt 9, 3) := by decide +kernel
theorem dX11_story_24 : decode cX11_story 24 = .ok (.iload_n 3, 1) := by decide +kernel
theorem dX11_story_25 : decode cX11_story 25 = .ok (.bipush 15, 2) := by decide +kernel
theorem dX11_story_27 : decode cX11_story 27 = .ok (.if_icmp .le 6, 3) := by decide +kernel
theorem dX11_story_30 : decode cX11_story 30 = .ok (.bipush (-2), 2) := by decide +kernel
theorem dX11_story_32 : decode cX11_story 32 = .ok (.ireturn, 1) := by decide +kernel
theorem dX11_story_33 : decode cX11_story 33 = .ok (.aload_n 0, 1) := by decide +kernel
theorem dX11_story_34 : decode cX11_story 34 = .ok (.getfield 71, 3) := by decide +kernel
theorem dX11_story_37 : decode cX11_story 37 = .ok (.iload_n 1, 1) := by decide +kernel
theorem dX11_story_38 : decode cX11_story 38 = .ok (.iload_n 2, 1) := by decide +kernel
theorem dX11_story_39 : decode cX11_story 39 = .ok (.iload_n 3, 1) := by decide +kernel
theorem dX11_story_40 : decode cX11_story 40 = .ok (.invokevirtual 306, 3) := by decide +kernel
theorem dX11_story_43 : decode cX11_story 43 = .ok (.ireturn, 1) := by decide +kernel
theorem dX11_odds_0 : decode cX11_odds 0 = .ok (.iload_n 1, 1) := by decide +kernel
theorem dX11_odds_1 : decode cX11_odds 1 = .ok (.invokestatic 142, 3) := by decide +kernel
theorem dX11_odds_4 : decode cX11_odds 4 = .ok (.ifCond .eq 18, 3) := by decide +kernel
theorem dX11_odds_7 : decode cX11_odds 7 = .ok (.iload_n 2, 1) := by decide +kernel
theorem dX11_odds_8 : decode cX11_odds 8 = .ok (.iconst 2, 1) := by decide +kernel
theorem dX11_odds_9 : decode cX11_odds 9 = .ok (.invokestatic 145, 3) := by decide +kernel
theorem dX11_odds_12 : decode cX11_odds 12 = .ok (.ifCond .eq 10, 3) := by decide +kernel
theorem dX11_odds_15 : decode cX11_odds 15 = .ok (.iload_n 3, 1) := by decide +kernel
theorem dX11_odds_16 : decode cX11_odds 16 = .ok (.invokestatic 163, 3) := by decide +kernel
theorem dX11_odds_19 : decode cX11_odds 19 = .ok (.ifCond .ne 9, 3) := by decide +kernel
theorem dX11_odds_22 : decode cX11_odds 22 = .ok (.bipush (-2), 2) := by decide +kernel
theorem dX11_odds_24 : decode cX11_odds 24 = .ok (.invokestatic 166, 3) := by decide +kernel
theorem dX11_odds_27 : decode cX11_odds 27 = .ok (.lreturn, 1) := by decide +kernel
theorem dX11_odds_28 : decode cX11_odds 28 = .ok (.aload_n 0, 1) := by decide +kernel
theorem dX11_odds_29 : decode cX11_odds 29 = .ok (.getfield 12, 3) := by decide +kernel
theorem dX11_odds_32 : decode cX11_odds 32 = .ok (.iload_n 1, 1) := by decide +kernel
theorem dX11_odds_33 : decode cX11_odds 33 = .ok (.iconst 0, 1) := by decide +kernel
theorem dX11_odds_34 : decode cX11_odds 34 = .ok (.aload_n 0, 1) := by decide +kernel
theorem dX11_odds_35 : decode cX11_odds 35 = .ok (.getfield 19, 3) := by decide +kernel
theorem dX11_odds_38 : decode cX11_odds 38 = .ok (.invokevirtual 149, 3) := by decide +kernel
theorem dX11_odds_41 : decode cX11_odds 41 = .ok (.aload_n 0, 1) := by decide +kernel
theorem dX11_odds_42 : decode cX11_odds 42 = .ok (.getfield 19, 3) := by decide +kernel
theorem dX11_odds_45 : decode cX11_odds 45 = .ok (.getfield 153, 3) := by decide +kernel
theorem dX11_odds_48 : decode cX11_odds 48 = .ok (.bipush 14, 2) := by decide +kernel
theorem dX11_odds_50 : decode cX11_odds 50 = .ok (.if_icmp .le 9, 3) := by decide +kernel
theorem dX11_odds_53 : decode cX11_odds 53 = .ok (.bipush (-4), 2) := by decide +kernel
theorem dX11_odds_55 : decode cX11_odds 55 = .ok (.invokestatic 166, 3) := by decide +kernel
theorem dX11_odds_58 : decode cX11_odds 58 = .ok (.lreturn, 1) := by decide +kernel
theorem dX11_odds_59 : decode cX11_odds 59 = .ok (.lconst 0, 1) := by decide +kernel
theorem dX11_odds_60 : decode cX11_odds 60 = .ok (.lstore 4, 2) := by decide +kernel
theorem dX11_odds_62 : decode cX11_odds 62 = .ok (.iconst 0, 1) := by decide +kernel
theorem dX11_odds_63 : decode cX11_odds 63 = .ok (.istore 6, 2) := by decide +kernel
theorem dX11_odds_65 : decode cX11_odds 65 = .ok (.iload 6, 2) := by decide +kernel
theorem dX11_odds_67 : decode cX11_odds 67 = .ok (.iconst 3, 1) := by decide +kernel
theorem dX11_odds_68 : decode cX11_odds 68 = .ok (.if_icmp .ge 27, 3) := by decide +kernel
theorem dX11_odds_71 : decode cX11_odds 71 = .ok (.lload 4, 2) := by decide +kernel
theorem dX11_odds_73 : decode cX11_odds 73 = .ok (.aload_n 0, 1) := by decide +kernel
theorem dX11_odds_74 : decode cX11_odds 74 = .ok (.getfield 71, 3) := by decide +kernel
theorem dX11_odds_77 : decode cX11_odds 77 = .ok (.iload 6, 2) := by decide +kernel
theorem dX11_odds_79 : decode cX11_odds 79 = .ok (.aload_n 0, 1) := by decide +kernel
theorem dX11_odds_80 : decode cX11_odds 80 = .ok (.getfield 19, 3) := by decide +kernel
theorem dX11_odds_83 : decode cX11_odds 83 = .ok (.invokevirtual 307, 3) := by decide +kernel
theorem dX11_odds_86 : decode cX11_odds 86 = .ok (.ladd, 1) := by decide +kernel
theorem dX11_odds_87 : decode cX11_odds 87 = .ok (.lstore 4, 2) := by decide +kernel
theorem dX11_odds_89 : decode cX11_odds 89 = .ok (.iinc 6 1, 3) := by decide +kernel
theorem dX11_odds_92 : decode cX11_odds 92 = .ok (.goto (-27), 3) := by decide +kernel
theorem dX11_odds_95 : decode cX11_odds 95 = .ok (.aload_n 0, 1) := by decide +kernel
theorem dX11_odds_96 : decode cX11_odds 96 = .ok (.getfield 71, 3) := by decide +kernel
theorem dX11_odds_99 : decode cX11_odds 99 = .ok (.iload_n 2, 1) := by decide +kernel
theorem dX11_odds_100 : decode cX11_odds 100 = .ok (.aload_n 0, 1) := by decide +kernel
theorem dX11_odds_101 : decode cX11_odds 101 = .ok (.getfield 19, 3) := by decide +kernel
theorem dX11_odds_104 : decode cX11_odds 104 = .ok (.invokevirtual 307, 3) := by decide +kernel
theorem dX11_odds_107 : decode cX11_odds 107 = .ok (.lload 4, 2) := by decide +kernel
theorem dX11_odds_109 : decode cX11_odds 109 = .ok (.iload_n 3, 1) := by decide +kernel
theorem dX11_odds_110 : decode cX11_odds 110 = .ok (.invokestatic 173, 3) := by decide +kernel
theorem dX11_odds_113 : decode cX11_odds 113 = .ok (.lreturn, 1) := by decide +kernel
theorem dX11_round_0 : decode cX11_round 0 = .ok (.iload_n 1, 1) := by decide +kernel
theorem dX11_round_1 : decode cX11_round 1 = .ok (.invokestatic 96, 3) := by decide +kernel
theorem dX11_round_4 : decode cX11_round 4 = .ok (.ifCond .eq 10, 3) := by decide +kernel
theorem dX11_round_7 : decode cX11_round 7 = .ok (.iload_n 2, 1) := by decide +kernel
theorem dX11_round_8 : decode cX11_round 8 = .ok (.invokestatic 99, 3) := by decide +kernel
theorem dX11_round_11 : decode cX11_round 11 = .ok (.ifCond .ne 6, 3) := by decide +kernel
theorem dX11_round_14 : decode cX11_round 14 = .ok (.bipush (-2), 2) := by decide +kernel
theorem dX11_round_16 : decode cX11_round 16 = .ok (.ireturn, 1) := by decide +kernel
theorem dX11_round_17 : decode cX11_round 17 = .ok (.aload_n 0, 1) := by decide +kernel
theorem dX11_round_18 : decode cX11_round 18 = .ok (.getfield 78, 3) := by decide +kernel
theorem dX11_round_21 : decode cX11_round 21 = .ok (.iload_n 1, 1) := by decide +kernel
theorem dX11_round_22 : decode cX11_round 22 = .ok (.iload_n 2, 1) := by decide +kernel
theorem dX11_round_23 : decode cX11_round 23 = .ok (.invokevirtual 311, 3) := by decide +kernel
theorem dX11_round_26 : decode cX11_round 26 = .ok (.ireturn, 1) := by decide +kernel
theorem dX11_forget_0 : decode cX11_forget 0 = .ok (.aload_n 0, 1) := by decide +kernel
theorem dX11_forget_1 : decode cX11_forget 1 = .ok (.getfield 78, 3) := by decide +kernel
theorem dX11_forget_4 : decode cX11_forget 4 = .ok (.getfield 312, 3) := by decide +kernel
theorem dX11_forget_7 : decode cX11_forget 7 = .ok (.istore_n 1, 1) := by decide +kernel
theorem dX11_forget_8 : decode cX11_forget 8 = .ok (.aload_n 0, 1) := by decide +kernel
theorem dX11_forget_9 : decode cX11_forget 9 = .ok (.getfield 78, 3) := by decide +kernel
theorem dX11_forget_12 : decode cX11_forget 12 = .ok (.iconst 0, 1) := by decide +kernel
theorem dX11_forget_13 : decode cX11_forget 13 = .ok (.putfield 312, 3) := by decide +kernel
theorem dX11_forget_16 : decode cX11_forget 16 = .ok (.iload_n 1, 1) := by decide +kernel
theorem dX11_forget_17 : decode cX11_forget 17 = .ok (.ireturn, 1) := by decide +kernel
theorem dX11_misses_0 : decode cX11_misses 0 = .ok (.iload_n 1, 1) := by decide +kernel
theorem dX11_misses_1 : decode cX11_misses 1 = .ok (.iconst 4, 1) := by decide +kernel
theorem dX11_misses_2 : decode cX11_misses 2 = .ok (.invokestatic 145, 3) := by decide +kernel
theorem dX11_misses_5 : decode cX11_misses 5 = .ok (.ifCond .eq 11, 3) := by decide +kernel
theorem dX11_misses_8 : decode cX11_misses 8 = .ok (.iload_n 2, 1) := by decide +kernel
theorem dX11_misses_9 : decode cX11_misses 9 = .ok (.iconst 4, 1) := by decide +kernel
theorem dX11_misses_10 : decode cX11_misses 10 = .ok (.invokestatic 145, 3) := by decide +kernel
theorem dX11_misses_13 : decode cX11_misses 13 = .ok (.ifCond .ne 6, 3) := by decide +kernel
theorem dX11_misses_16 : decode cX11_misses 16 = .ok (.bipush (-2), 2) := by decide +kernel
theorem dX11_misses_18 : decode cX11_misses 18 = .ok (.ireturn, 1) := by decide +kernel
theorem dX11_misses_19 : decode cX11_misses 19 = .ok (.aload_n 0, 1) := by decide +kernel
theorem dX11_misses_20 : decode cX11_misses 20 = .ok (.getfield 78, 3) := by decide +kernel
theorem dX11_misses_23 : decode cX11_misses 23 = .ok (.iload_n 1, 1) := by decide +kernel
theorem dX11_misses_24 : decode cX11_misses 24 = .ok (.iload_n 2, 1) := by decide +kernel
theorem dX11_misses_25 : decode cX11_misses 25 = .ok (.invokevirtual 313, 3) := by decide +kernel
theorem dX11_misses_28 : decode cX11_misses 28 = .ok (.ireturn, 1) := by decide +kernel
theorem dX11_learnt_0 : decode cX11_learnt 0 = .ok (.iload_n 1, 1) := by decide +kernel
theorem dX11_learnt_1 : decode cX11_learnt 1 = .ok (.iconst 4, 1) := by decide +kernel
theorem dX11_learnt_2 : decode cX11_learnt 2 = .ok (.invokestatic 145, 3) := by decide +kernel
theorem dX11_learnt_5 : decode cX11_learnt 5 = .ok (.ifCond .ne 6, 3) := by decide +kernel
theorem dX11_learnt_8 : decode cX11_learnt 8 = .ok (.bipush (-2), 2) := by decide +kernel
theorem dX11_learnt_10 : decode cX11_learnt 10 = .ok (.ireturn, 1) := by decide +kernel
theorem dX11_learnt_11 : decode cX11_learnt 11 = .ok (.iload_n 1, 1) := by decide +kernel
theorem dX11_learnt_12 : decode cX11_learnt 12 = .ok (.iconst 3, 1) := by decide +kernel
theorem dX11_learnt_13 : decode cX11_learnt 13 = .ok (.if_icmp .ne 11, 3) := by decide +kernel
theorem dX11_learnt_16 : decode cX11_learnt 16 = .ok (.aload_n 0, 1) := by decide +kernel
theorem dX11_learnt_17 : decode cX11_learnt 17 = .ok (.getfield 78, 3) := by decide +kernel
theorem dX11_learnt_20 : decode cX11_learnt 20 = .ok (.invokevirtual 316, 3) := by decide +kernel
theorem dX11_learnt_23 : decode cX11_learnt 23 = .ok (.ireturn, 1) := by decide +kernel
theorem dX11_learnt_24 : decode cX11_learnt 24 = .ok (.iload_n 1, 1) := by decide +kernel
theorem dX11_learnt_25 : decode cX11_learnt 25 = .ok (.iconst 4, 1) := by decide +kernel
theorem dX11_learnt_26 : decode cX11_learnt 26 = .ok (.if_icmp .ne 11, 3) := by decide +kernel
theorem dX11_learnt_29 : decode cX11_learnt 29 = .ok (.aload_n 0, 1) := by decide +kernel
theorem dX11_learnt_30 : decode cX11_learnt 30 = .ok (.getfield 78, 3) := by decide +kernel
theorem dX11_learnt_33 : decode cX11_learnt 33 = .ok (.invokevirtual 319, 3) := by decide +kernel
theorem dX11_learnt_36 : decode cX11_learnt 36 = .ok (.ireturn, 1) := by decide +kernel
theorem dX11_learnt_37 : decode cX11_learnt 37 = .ok (.aload_n 0, 1) := by decide +kernel
theorem dX11_learnt_38 : decode cX11_learnt 38 = .ok (.getfield 78, 3) := by decide +kernel
theorem dX11_learnt_41 : decode cX11_learnt 41 = .ok (.getfield 312, 3) := by decide +kernel
theorem dX11_learnt_44 : decode cX11_learnt 44 = .ok (.iconst 2, 1) := by decide +kernel
theorem dX11_learnt_45 : decode cX11_learnt 45 = .ok (.if_icmp .ge 6, 3) := by decide +kernel
theorem dX11_learnt_48 : decode cX11_learnt 48 = .ok (.bipush (-3), 2) := by decide +kernel
theorem dX11_learnt_50 : decode cX11_learnt 50 = .ok (.ireturn, 1) := by decide +kernel
theorem dX11_learnt_51 : decode cX11_learnt 51 = .ok (.aload_n 0, 1) := by decide +kernel
theorem dX11_learnt_52 : decode cX11_learnt 52 = .ok (.getfield 78, 3) := by decide +kernel
theorem dX11_learnt_55 : decode cX11_learnt 55 = .ok (.invokevirtual 322, 3) := by decide +kernel
theorem dX11_learnt_58 : decode cX11_learnt 58 = .ok (.iload_n 1, 1) := by decide +kernel
theorem dX11_learnt_59 : decode cX11_learnt 59 = .ok (.iconst 2, 1) := by decide +kernel
theorem dX11_learnt_60 : decode cX11_learnt 60 = .ok (.if_icmp .ne 11, 3) := by decide +kernel
theorem dX11_learnt_63 : decode cX11_learnt 63 = .ok (.aload_n 0, 1) := by decide +kernel
theorem dX11_learnt_64 : decode cX11_learnt 64 = .ok (.getfield 78, 3) := by decide +kernel
theorem dX11_learnt_67 : decode cX11_learnt 67 = .ok (.getfield 324, 3) := by decide +kernel
theorem dX11_learnt_70 : decode cX11_learnt 70 = .ok (.ireturn, 1) := by decide +kernel
theorem dX11_learnt_71 : decode cX11_learnt 71 = .ok (.iload_n 1, 1) := by decide +kernel
theorem dX11_learnt_72 : decode cX11_learnt 72 = .ok (.ifCond .ne 13, 3) := by decide +kernel
theorem dX11_learnt_75 : decode cX11_learnt 75 = .ok (.aload_n 0, 1) := by decide +kernel
theorem dX11_learnt_76 : decode cX11_learnt 76 = .ok (.getfield 78, 3) := by decide +kernel
theorem dX11_learnt_79 : decode cX11_learnt 79 = .ok (.getfield 327, 3) := by decide +kernel
theorem dX11_learnt_82 : decode cX11_learnt 82 = .ok (.goto 10, 3) := by decide +kernel
theorem dX11_learnt_85 : decode cX11_learnt 85 = .ok (.aload_n 0, 1) := by decide +kernel
theorem dX11_learnt_86 : decode cX11_learnt 86 = .ok (.getfield 78, 3) := by decide +kernel
theorem dX11_learnt_89 : decode cX11_learnt 89 = .ok (.getfield 330, 3) := by decide +kernel
theorem dX11_learnt_92 : decode cX11_learnt 92 = .ok (.ireturn, 1) := by decide +kernel
theorem dX11_sheet_0 : decode cX11_sheet 0 = .ok (.iload_n 1, 1) := by decide +kernel
theorem dX11_sheet_1 : decode cX11_sheet 1 = .ok (.invokestatic 109, 3) := by decide +kernel
theorem dX11_sheet_4 : decode cX11_sheet 4 = .ok (.ifCond .eq 16, 3) := by decide +kernel
theorem dX11_sheet_7 : decode cX11_sheet 7 = .ok (.iload_n 2, 1) := by decide +kernel
theorem dX11_sheet_8 : decode cX11_sheet 8 = .ok (.invokestatic 333, 3) := by decide +kernel
theorem dX11_sheet_11 : decode cX11_sheet 11 = .ok (.ifCond .eq 9, 3) := by decide +kernel
theorem dX11_sheet_14 : decode cX11_sheet 14 = .ok (.iload_n 3, 1) := by decide +kernel
theorem dX11_sheet_15 : decode cX11_sheet 15 = .ok (.bipush 48, 2) := by decide +kernel
theorem dX11_sheet_17 : decode cX11_sheet 17 = .ok (.if_icmp .le 6, 3) := by decide +kernel
theorem dX11_sheet_20 : decode cX11_sheet 20 = .ok (.bipush (-2), 2) := by decide +kernel
theorem dX11_sheet_22 : decode cX11_sheet 22 = .ok (.ireturn, 1) := by decide +kernel
theorem dX11_sheet_23 : decode cX11_sheet 23 = .ok (.iload_n 3, 1) := by decide +kernel
theorem dX11_sheet_24 : decode cX11_sheet 24 = .ok (.ifCond .ge 12, 3) := by decide +kernel
theorem dX11_sheet_27 : decode cX11_sheet 27 = .ok (.aload_n 0, 1) := by decide +kernel
theorem dX11_sheet_28 : decode cX11_sheet 28 = .ok (.getfield 85, 3) := by decide +kernel
theorem dX11_sheet_31 : decode cX11_sheet 31 = .ok (.iconst 5, 1) := by decide +kernel
theorem dX11_sheet_32 : decode cX11_sheet 32 = .ok (.invokevirtual 115, 3) := by decide +kernel
theorem dX11_sheet_35 : decode cX11_sheet 35 = .ok (.ireturn, 1) := by decide +kernel
theorem dX11_sheet_36 : decode cX11_sheet 36 = .ok (.aload_n 0, 1) := by decide +kernel
theorem dX11_sheet_37 : decode cX11_sheet 37 = .ok (.getfield 85, 3) := by decide +kernel
theorem dX11_sheet_40 : decode cX11_sheet 40 = .ok (.iload_n 1, 1) := by decide +kernel
theorem dX11_sheet_41 : decode cX11_sheet 41 = .ok (.iload_n 2, 1) := by decide +kernel
theorem dX11_sheet_42 : decode cX11_sheet 42 = .ok (.iload_n 3, 1) := by decide +kernel
theorem dX11_sheet_43 : decode cX11_sheet 43 = .ok (.invokevirtual 336, 3) := by decide +kernel
theorem dX11_sheet_46 : decode cX11_sheet 46 = .ok (.iload_n 3, 1) := by decide +kernel
theorem dX11_sheet_47 : decode cX11_sheet 47 = .ok (.ireturn, 1) := by decide +kernel
theorem dX11_lose_0 : decode cX11_lose 0 = .ok (.iload_n 1, 1) := by decide +kernel
theorem dX11_lose_1 : decode cX11_lose 1 = .ok (.invokestatic 109, 3) := by decide +kernel
theorem dX11_lose_4 : decode cX11_lose 4 = .ok (.ifCond .ne 6, 3) := by decide +kernel
theorem dX11_lose_7 : decode cX11_lose 7 = .ok (.bipush (-2), 2) := by decide +kernel
theorem dX11_lose_9 : decode cX11_lose 9 = .ok (.ireturn, 1) := by decide +kernel
theorem dX11_lose_10 : decode cX11_lose 10 = .ok (.aload_n 0, 1) := by decide +kernel
theorem dX11_lose_11 : decode cX11_lose 11 = .ok (.getfield 85, 3) := by decide +kernel
theorem dX11_lose_14 : decode cX11_lose 14 = .ok (.iload_n 1, 1) := by decide +kernel
theorem dX11_lose_15 : decode cX11_lose 15 = .ok (.invokevirtual 112, 3) := by decide +kernel
theorem dX11_lose_18 : decode cX11_lose 18 = .ok (.ifCond .eq 12, 3) := by decide +kernel
theorem dX11_lose_21 : decode cX11_lose 21 = .ok (.aload_n 0, 1) := by decide +kernel
theorem dX11_lose_22 : decode cX11_lose 22 = .ok (.getfield 85, 3) := by decide +kernel
theorem dX11_lose_25 : decode cX11_lose 25 = .ok (.iconst 1, 1) := by decide +kernel
theorem dX11_lose_26 : decode cX11_lose 26 = .ok (.invokevirtual 115, 3) := by decide +kernel
theorem dX11_lose_29 : decode cX11_lose 29 = .ok (.ireturn, 1) := by decide +kernel
theorem dX11_lose_30 : decode cX11_lose 30 = .ok (.aload_n 0, 1) := by decide +kernel
theorem dX11_lose_31 : decode cX11_lose 31 = .ok (.getfield 85, 3) := by decide +kernel
theorem dX11_lose_34 : decode cX11_lose 34 = .ok (.iload_n 1, 1) := by decide +kernel
theorem dX11_lose_35 : decode cX11_lose 35 = .ok (.invokevirtual 340, 3) := by decide +kernel
theorem dX11_lose_38 : decode cX11_lose 38 = .ok (.ireturn, 1) := by decide +kernel
theorem dX11_put_0 : decode cX11_put 0 = .ok (.iload_n 1, 1) := by decide +kernel
theorem dX11_put_1 : decode cX11_put 1 = .ok (.invokestatic 109, 3) := by decide +kernel
theorem dX11_put_4 : decode cX11_put 4 = .ok (.ifCond .eq 10, 3) := by decide +kernel
theorem dX11_put_7 : decode cX11_put 7 = .ok (.iload_n 2, 1) := by decide +kernel
theorem dX11_put_8 : decode cX11_put 8 = .ok (.invokestatic 333, 3) := by decide +kernel
theorem dX11_put_11 : decode cX11_put 11 = .ok (.ifCond .ne 6, 3) := by decide +kernel
theorem dX11_put_14 : decode cX11_put 14 = .ok (.bipush (-2), 2) := by decide +kernel
theorem dX11_put_16 : decode cX11_put 16 = .ok (.ireturn, 1) := by decide +kernel
theorem dX11_put_17 : decode cX11_put 17 = .ok (.aload_n 0, 1) := by decide +kernel
theorem dX11_put_18 : decode cX11_put 18 = .ok (.getfield 85, 3) := by decide +kernel
theorem dX11_put_21 : decode cX11_put 21 = .ok (.iload_n 1, 1) := by decide +kernel
theorem dX11_put_22 : decode cX11_put 22 = .ok (.iload_n 2, 1) := by decide +kernel
theorem dX11_put_23 : decode cX11_put 23 = .ok (.iload_n 3, 1) := by decide +kernel
theorem dX11_put_24 : decode cX11_put 24 = .ok (.invokevirtual 343, 3) := by decide +kernel
theorem dX11_put_27 : decode cX11_put 27 = .ok (.istore 5, 2) := by decide +kernel
theorem dX11_put_29 : decode cX11_put 29 = .ok (.iload 5, 2) := by decide +kernel
theorem dX11_put_31 : decode cX11_put 31 = .ok (.ifCond .eq 13, 3) := by decide +kernel
theorem dX11_put_34 : decode cX11_put 34 = .ok (.aload_n 0, 1) := by decide +kernel
theorem dX11_put_35 : decode cX11_put 35 = .ok (.getfield 85, 3) := by decide +kernel
theorem dX11_put_38 : decode cX11_put 38 = .ok (.iload 5, 2) := by decide +kernel
theorem dX11_put_40 : decode cX11_put 40 = .ok (.invokevirtual 115, 3) := by decide +kernel
theorem dX11_put_43 : decode cX11_put 43 = .ok (.ireturn, 1) := by decide +kernel
theorem dX11_put_44 : decode cX11_put 44 = .ok (.aload_n 0, 1) := by decide +kernel
theorem dX11_put_45 : decode cX11_put 45 = .ok (.getfield 85, 3) := by decide +kernel
theorem dX11_put_48 : decode cX11_put 48 = .ok (.iload_n 1, 1) := by decide +kernel
theorem dX11_put_49 : decode cX11_put 49 = .ok (.iload_n 3, 1) := by decide +kernel
theorem dX11_put_50 : decode cX11_put 50 = .ok (.iload 4, 2) := by decide +kernel
theorem dX11_put_52 : decode cX11_put 52 = .ok (.invokevirtual 346, 3) := by decide +kernel
theorem dX11_put_55 : decode cX11_put 55 = .ok (.iconst 1, 1) := by decide +kernel
theorem dX11_put_56 : decode cX11_put 56 = .ok (.ireturn, 1) := by decide +kernel
theorem dX11_get_0 : decode cX11_get 0 = .ok (.iload_n 1, 1) := by decide +kernel
theorem dX11_get_1 : decode cX11_get 1 = .ok (.invokestatic 109, 3) := by decide +kernel
theorem dX11_get_4 : decode cX11_get 4 = .ok (.ifCond .eq 10, 3) := by decide +kernel
theorem dX11_get_7 : decode cX11_get 7 = .ok (.iload_n 2, 1) := by decide +kernel
theorem dX11_get_8 : decode cX11_get 8 = .ok (.invokestatic 333, 3) := by decide +kernel
theorem dX11_get_11 : decode cX11_get 11 = .ok (.ifCond .ne 7, 3) := by decide +kernel
theorem dX11_get_14 : decode cX11_get 14 = .ok (.ldc_w 349, 3) := by decide +kernel
theorem dX11_get_17 : decode cX11_get 17 = .ok (.ireturn, 1) := by decide +kernel
theorem dX11_get_18 : decode cX11_get 18 = .ok (.aload_n 0, 1) := by decide +kernel
theorem dX11_get_19 : decode cX11_get 19 = .ok (.getfield 85, 3) := by decide +kernel
theorem dX11_get_22 : decode cX11_get 22 = .ok (.iload_n 1, 1) := by decide +kernel
theorem dX11_get_23 : decode cX11_get 23 = .ok (.iload_n 2, 1) := by decide +kernel
theorem dX11_get_24 : decode cX11_get 24 = .ok (.iload_n 3, 1) := by decide +kernel
theorem dX11_get_25 : decode cX11_get 25 = .ok (.invokevirtual 343, 3) := by decide +kernel
theorem dX11_get_28 : decode cX11_get 28 = .ok (.istore 4, 2) := by decide +kernel
theorem dX11_get_30 : decode cX11_get 30 = .ok (.iload 4, 2) := by decide +kernel
theorem dX11_get_32 : decode cX11_get 32 = .ok (.ifCond .eq 17, 3) := by decide +kernel
theorem dX11_get_35 : decode cX11_get 35 = .ok (.aload_n 0, 1) := by decide +kernel
theorem dX11_get_36 : decode cX11_get 36 = .ok (.getfield 85, 3) := by decide +kernel
theorem dX11_get_39 : decode cX11_get 39 = .ok (.iload 4, 2) := by decide +kernel
theorem dX11_get_41 : decode cX11_get 41 = .ok (.invokevirtual 115, 3) := by decide +kernel
theorem dX11_get_44 : decode cX11_get 44 = .ok (.pop, 1) := by decide +kernel
theorem dX11_get_45 : decode cX11_get 45 = .ok (.ldc_w 349, 3) := by decide +kernel
theorem dX11_get_48 : decode cX11_get 48 = .ok (.ireturn, 1) := by decide +kernel
theorem dX11_get_49 : decode cX11_get 49 = .ok (.aload_n 0, 1) := by decide +kernel
theorem dX11_get_50 : decode cX11_get 50 = .ok (.getfield 85, 3) := by decide +kernel
theorem dX11_get_53 : decode cX11_get 53 = .ok (.iload_n 1, 1) := by decide +kernel
theorem dX11_get_54 : decode cX11_get 54 = .ok (.iload_n 3, 1) := by decide +kernel
theorem dX11_get_55 : decode cX11_get 55 = .ok (.invokevirtual 122, 3) := by decide +kernel
theorem dX11_get_58 : decode cX11_get 58 = .ok (.ireturn, 1) := by decide +kernel
theorem dX11_copy_0 : decode cX11_copy 0 = .ok (.iload_n 1, 1) := by decide +kernel
theorem dX11_copy_1 : decode cX11_copy 1 = .ok (.invokestatic 109, 3) := by decide +kernel
theorem dX11_copy_4 : decode cX11_copy 4 = .ok (.ifCond .eq 10, 3) := by decide +kernel
theorem dX11_copy_7 : decode cX11_copy 7 = .ok (.iload_n 3, 1) := by decide +kernel
theorem dX11_copy_8 : decode cX11_copy 8 = .ok (.invokestatic 109, 3) := by decide +kernel
theorem dX11_copy_11 : decode cX11_copy 11 = .ok (.ifCond .ne 6, 3) := by decide +kernel
theorem dX11_copy_14 : decode cX11_copy 14 = .ok (.bipush (-2), 2) := by decide +kernel
theorem dX11_copy_16 : decode cX11_copy 16 = .ok (.ireturn, 1) := by decide +kernel
theorem dX11_copy_17 : decode cX11_copy 17 = .ok (.aload_n 0, 1) := by decide +kernel
theorem dX11_copy_18 : decode cX11_copy 18 = .ok (.getfield 85, 3) := by decide +kernel
theorem dX11_copy_21 : decode cX11_copy 21 = .ok (.iload_n 1, 1) := by decide +kernel
theorem dX11_copy_22 : decode cX11_copy 22 = .ok (.invokevirtual 112, 3) := by decide +kernel
theorem dX11_copy_25 : decode cX11_copy 25 = .ok (.ifCond .ne 14, 3) := by decide +kernel
theorem dX11_copy_28 : decode cX11_copy 28 = .ok (.aload_n 0, 1) := by decide +kernel
theorem dX11_copy_29 : decode cX11_copy 29 = .ok (.getfield 85, 3) := by decide +kernel
theorem dX11_copy_32 : decode cX11_copy 32 = .ok (.iload_n 3, 1) := by decide +kernel
theorem dX11_copy_33 : decode cX11_copy 33 = .ok (.invokevirtual 112, 3) := by decide +kernel
theorem dX11_copy_36 : decode cX11_copy 36 = .ok (.ifCond .eq 12, 3) := by decide +kernel
theorem dX11_copy_39 : decode cX11_copy 39 = .ok (.aload_n 0, 1) := by decide +kernel
theorem dX11_copy_40 : decode cX11_copy 40 = .ok (.getfield 85, 3) := by decide +kernel
theorem dX11_copy_43 : decode cX11_copy 43 = .ok (.iconst 1, 1) := by decide +kernel
theorem dX11_copy_44 : decode cX11_copy 44 = .ok (.invokevirtual 115, 3) := by decide +kernel
theorem dX11_copy_47 : decode cX11_copy 47 = .ok (.ireturn, 1) := by decide +kernel
theorem dX11_copy_48 : decode cX11_copy 48 = .ok (.aload_n 0, 1) := by decide +kernel
theorem dX11_copy_49 : decode cX11_copy 49 = .ok (.getfield 85, 3) := by decide +kernel
theorem dX11_copy_52 : decode cX11_copy 52 = .ok (.iload_n 1, 1) := by decide +kernel
theorem dX11_copy_53 : decode cX11_copy 53 = .ok (.invokevirtual 350, 3) := by decide +kernel
theorem dX11_copy_56 : decode cX11_copy 56 = .ok (.aload_n 0, 1) := by decide +kernel
theorem dX11_copy_57 : decode cX11_copy 57 = .ok (.getfield 85, 3) := by decide +kernel
theorem dX11_copy_60 : decode cX11_copy 60 = .ok (.iload_n 3, 1) := by decide +kernel
theorem dX11_copy_61 : decode cX11_copy 61 = .ok (.invokevirtual 350, 3) := by decide +kernel
theorem dX11_copy_64 : decode cX11_copy 64 = .ok (.if_icmp .eq 12, 3) := by decide +kernel
theorem dX11_copy_67 : decode cX11_copy 67 = .ok (.aload_n 0, 1) := by decide +kernel
theorem dX11_copy_68 : decode cX11_copy 68 = .ok (.getfield 85, 3) := by decide +kernel
theorem dX11_copy_71 : decode cX11_copy 71 = .ok (.iconst 4, 1) := by decide +kernel
theorem dX11_copy_72 : decode cX11_copy 72 = .ok (.invokevirtual 115, 3) := by decide +kernel
theorem dX11_copy_75 : decode cX11_copy 75 = .ok (.ireturn, 1) := by decide +kernel
theorem dX11_copy_76 : decode cX11_copy 76 = .ok (.aload_n 0, 1) := by decide +kernel
theorem dX11_copy_77 : decode cX11_copy 77 = .ok (.getfield 85, 3) := by decide +kernel
theorem dX11_copy_80 : decode cX11_copy 80 = .ok (.iload_n 1, 1) := by decide +kernel
theorem dX11_copy_81 : decode cX11_copy 81 = .ok (.iload_n 2, 1) := by decide +kernel
theorem dX11_copy_82 : decode cX11_copy 82 = .ok (.iload 5, 2) := by decide +kernel
theorem dX11_copy_84 : decode cX11_copy 84 = .ok (.invokevirtual 353, 3) := by decide +kernel
theorem dX11_copy_87 : decode cX11_copy 87 = .ok (.ifCond .eq 18, 3) := by decide +kernel
theorem dX11_copy_90 : decode cX11_copy 90 = .ok (.aload_n 0, 1) := by decide +kernel
theorem dX11_copy_91 : decode cX11_copy 91 = .ok (.getfield 85, 3) := by decide +kernel
theorem dX11_copy_94 : decode cX11_copy 94 = .ok (.iload_n 3, 1) := by decide +kernel
theorem dX11_copy_95 : decode cX11_copy 95 = .ok (.iload 4, 2) := by decide +kernel
theorem dX11_copy_97 : decode cX11_copy 97 = .ok (.iload 5, 2) := by decide +kernel
theorem dX11_copy_99 : decode cX11_copy 99 = .ok (.invokevirtual 353, 3) := by decide +kernel
theorem dX11_copy_102 : decode cX11_copy 102 = .ok (.ifCond .ne 12, 3) := by decide +kernel
theorem dX11_copy_105 : decode cX11_copy 105 = .ok (.aload_n 0, 1) := by decide +kernel
theorem dX11_copy_106 : decode cX11_copy 106 = .ok (.getfield 85, 3) := by decide +kernel
theorem dX11_copy_109 : decode cX11_copy 109 = .ok (.iconst 2, 1) := by decide +kernel
theorem dX11_copy_110 : decode cX11_copy 110 = .ok (.invokevirtual 115, 3) := by decide +kernel
theorem dX11_copy_113 : decode cX11_copy 113 = .ok (.ireturn, 1) := by decide +kernel
theorem dX11_copy_114 : decode cX11_copy 114 = .ok (.aload_n 0, 1) := by decide +kernel
theorem dX11_copy_115 : decode cX11_copy 115 = .ok (.getfield 85, 3) := by decide +kernel
theorem dX11_copy_118 : decode cX11_copy 118 = .ok (.iload_n 1, 1) := by decide +kernel
theorem dX11_copy_119 : decode cX11_copy 119 = .ok (.iload_n 2, 1) := by decide +kernel
theorem dX11_copy_120 : decode cX11_copy 120 = .ok (.iload_n 3, 1) := by decide +kernel
theorem dX11_copy_121 : decode cX11_copy 121 = .ok (.iload 4, 2) := by decide +kernel
theorem dX11_copy_123 : decode cX11_copy 123 = .ok (.iload 5, 2) := by decide +kernel
theorem dX11_copy_125 : decode cX11_copy 125 = .ok (.invokevirtual 357, 3) := by decide +kernel
theorem dX11_copy_128 : decode cX11_copy 128 = .ok (.iconst 1, 1) := by decide +kernel
theorem dX11_copy_129 : decode cX11_copy 129 = .ok (.ireturn, 1) := by decide +kernel
theorem dX11_write_0 : decode cX11_write 0 = .ok (.iload_n 1, 1) := by decide +kernel
theorem dX11_write_1 : decode cX11_write 1 = .ok (.invokestatic 142, 3) := by decide +kernel
theorem dX11_write_4 : decode cX11_write 4 = .ok (.ifCond .eq 17, 3) := by decide +kernel
theorem dX11_write_7 : decode cX11_write 7 = .ok (.iload_n 2, 1) := by decide +kernel
theorem dX11_write_8 : decode cX11_write 8 = .ok (.invokestatic 93, 3) := by decide +kernel
theorem dX11_write_11 : decode cX11_write 11 = .ok (.ifCond .eq 10, 3) := by decide +kernel
theorem dX11_write_14 : decode cX11_write 14 = .ok (.iload_n 3, 1) := by decide +kernel
theorem dX11_write_15 : decode cX11_write 15 = .ok (.invokestatic 109, 3) := by decide +kernel
theorem dX11_write_18 : decode cX11_write 18 = .ok (.ifCond .ne 6, 3) := by decide +kernel
theorem dX11_write_21 : decode cX11_write 21 = .ok (.bipush (-2), 2) := by decide +kernel
theorem dX11_write_23 : decode cX11_write 23 = .ok (.ireturn, 1) := by decide +kernel
theorem dX11_write_24 : decode cX11_write 24 = .ok (.aload_n 0, 1) := by decide +kernel
theorem dX11_write_25 : decode cX11_write 25 = .ok (.getfield 85, 3) := by decide +kernel
theorem dX11_write_28 : decode cX11_write 28 = .ok (.iload_n 3, 1) := by decide +kernel
theorem dX11_write_29 : decode cX11_write 29 = .ok (.invokevirtual 112, 3) := by decide +kernel
theorem dX11_write_32 : decode cX11_write 32 = .ok (.ifCond .eq 12, 3) := by decide +kernel
theorem dX11_write_35 : decode cX11_write 35 = .ok (.aload_n 0, 1) := by decide +kernel
theorem dX11_write_36 : decode cX11_write 36 = .ok (.getfield 85, 3) := by decide +kernel
theorem dX11_write_39 : decode cX11_write 39 = .ok (.iconst 1, 1) := by decide +kernel
theorem dX11_write_40 : decode cX11_write 40 = .ok (.invokevirtual 115, 3) := by decide +kernel
theorem dX11_write_43 : decode cX11_write 43 = .ok (.ireturn, 1) := by decide +kernel
theorem dX11_write_44 : decode cX11_write 44 = .ok (.aload_n 0, 1) := by decide +kernel
theorem dX11_write_45 : decode cX11_write 45 = .ok (.getfield 85, 3) := by decide +kernel
theorem dX11_write_48 : decode cX11_write 48 = .ok (.iload_n 3, 1) := by decide +kernel
theorem dX11_write_49 : decode cX11_write 49 = .ok (.invokevirtual 119, 3) := by decide +kernel
theorem dX11_write_52 : decode cX11_write 52 = .ok (.istore 4, 2) := by decide +kernel
theorem dX11_write_54 : decode cX11_write 54 = .ok (.iconst 0, 1) := by decide +kernel
theorem dX11_write_55 : decode cX11_write 55 = .ok (.istore 5, 2) := by decide +kernel
theorem dX11_write_57 : decode cX11_write 57 = .ok (.iconst 0, 1) := by decide +kernel
theorem dX11_write_58 : decode cX11_write 58 = .ok (.istore 6, 2) := by decide +kernel
theorem dX11_write_60 : decode cX11_write 60 = .ok (.iload 6, 2) := by decide +kernel
theorem dX11_write_62 : decode cX11_write 62 = .ok (.aload_n 0, 1) := by decide +kernel
theorem dX11_write_63 : decode cX11_write 63 = .ok (.getfield 12, 3) := by decide +kernel
theorem dX11_write_66 : decode cX11_write 66 = .ok (.getfield 361, 3) := by decide +kernel
theorem dX11_write_69 : decode cX11_write 69 = .ok (.if_icmp .ge 65, 3) := by decide +kernel
theorem dX11_write_72 : decode cX11_write 72 = .ok (.iload 5, 2) := by decide +kernel
theorem dX11_write_74 : decode cX11_write 74 = .ok (.iload 4, 2) := by decide +kernel
theorem dX11_write_76 : decode cX11_write 76 = .ok (.if_icmp .ge 58, 3) := by decide +kernel
theorem dX11_write_79 : decode cX11_write 79 = .ok (.aload_n 0, 1) := by decide +kernel
theorem dX11_write_80 : decode cX11_write 80 = .ok (.getfield 12, 3) := by decide +kernel
theorem dX11_write_83 : decode cX11_write 83 = .ok (.iload 6, 2) := by decide +kernel
theorem dX11_write_85 : decode cX11_write 85 = .ok (.iload_n 1, 1) := by decide +kernel
theorem dX11_write_86 : decode cX11_write 86 = .ok (.iload_n 2, 1) := by decide +kernel
theorem dX11_write_87 : decode cX11_write 87 = .ok (.invokevirtual 362, 3) := by decide +kernel
theorem dX11_write_90 : decode cX11_write 90 = .ok (.ifCond .eq 38, 3) := by decide +kernel
theorem dX11_write_93 : decode cX11_write 93 = .ok (.aload_n 0, 1) := by decide +kernel
theorem dX11_write_94 : decode cX11_write 94 = .ok (.getfield 12, 3) := by decide +kernel
theorem dX11_write_97 : decode cX11_write 97 = .ok (.iload 6, 2) := by decide +kernel
theorem dX11_write_99 : decode cX11_write 99 = .ok (.invokevirtual 365, 3) := by decide +kernel
theorem dX11_write_102 : decode cX11_write 102 = .ok (.ifCond .eq 26, 3) := by decide +kernel
theorem dX11_write_105 : decode cX11_write 105 = .ok (.aload_n 0, 1) := by decide +kernel
theorem dX11_write_106 : decode cX11_write 106 = .ok (.getfield 85, 3) := by decide +kernel
theorem dX11_write_109 : decode cX11_write 109 = .ok (.iload_n 3, 1) := by decide +kernel
theorem dX11_write_110 : decode cX11_write 110 = .ok (.iload 5, 2) := by decide +kernel
theorem dX11_write_112 : decode cX11_write 112 = .ok (.aload_n 0, 1) := by decide +kernel
theorem dX11_write_113 : decode cX11_write 113 = .ok (.getfield 12, 3) := by decide +kernel
theorem dX11_write_116 : decode cX11_write 116 = .ok (.getfield 368, 3) := by decide +kernel
theorem dX11_write_119 : decode cX11_write 119 = .ok (.iload 6, 2) := by decide +kernel
theorem dX11_write_121 : decode cX11_write 121 = .ok (.iaload, 1) := by decide +kernel
theorem dX11_write_122 : decode cX11_write 122 = .ok (.invokevirtual 346, 3) := by decide +kernel
theorem dX11_write_125 : decode cX11_write 125 = .ok (.iinc 5 1, 3) := by decide +kernel
theorem dX11_write_128 : decode cX11_write 128 = .ok (.iinc 6 1, 3) := by decide +kernel
theorem dX11_write_131 : decode cX11_write 131 = .ok (.goto (-71), 3) := by decide +kernel
theorem dX11_write_134 : decode cX11_write 134 = .ok (.iload 5, 2) := by decide +kernel
theorem dX11_write_136 : decode cX11_write 136 = .ok (.ireturn, 1) := by decide +kernel
theorem dX11_count_0 : decode cX11_count 0 = .ok (.iload_n 1, 1) := by decide +kernel
theorem dX11_count_1 : decode cX11_count 1 = .ok (.tableswitch 123 0 8 #[51, 59, 67, 75, 83, 91, 99, 107, 115], 51) := by decide +kernel
theorem dX11_count_52 : decode cX11_count 52 = .ok (.aload_n 0, 1) := by decide +kernel
theorem dX11_count_53 : decode cX11_count 53 = .ok (.getfield 12, 3) := by decide +kernel
theorem dX11_count_56 : decode cX11_count 56 = .ok (.getfield 361, 3) := by decide +kernel
theorem dX11_count_59 : decode cX11_count 59 = .ok (.ireturn, 1) := by decide +kernel
theorem dX11_count_60 : decode cX11_count 60 = .ok (.aload_n 0, 1) := by decide +kernel
theorem dX11_count_61 : decode cX11_count 61 = .ok (.getfield 12, 3) := by decide +kernel
theorem dX11_count_64 : decode cX11_count 64 = .ok (.invokevirtual 371, 3) := by decide +kernel
theorem dX11_count_67 : decode cX11_count 67 = .ok (.ireturn, 1) := by decide +kernel
theorem dX11_count_68 : decode cX11_count 68 = .ok (.aload_n 0, 1) := by decide +kernel
theorem dX11_count_69 : decode cX11_count 69 = .ok (.getfield 29, 3) := by decide +kernel
theorem dX11_count_72 : decode cX11_count 72 = .ok (.getfield 374, 3) := by decide +kernel
theorem dX11_count_75 : decode cX11_count 75 = .ok (.ireturn, 1) := by decide +kernel
theorem dX11_count_76 : decode cX11_count 76 = .ok (.aload_n 0, 1) := by decide +kernel
theorem dX11_count_77 : decode cX11_count 77 = .ok (.getfield 36, 3) := by decide +kernel
theorem dX11_count_80 : decode cX11_count 80 = .ok (.getfield 375, 3) := by decide +kernel
theorem dX11_count_83 : decode cX11_count 83 = .ok (.ireturn, 1) := by decide +kernel
theorem dX11_count_84 : decode cX11_count 84 = .ok (.aload_n 0, 1) := by decide +kernel
theorem dX11_count_85 : decode cX11_count 85 = .ok (.getfield 43, 3) := by decide +kernel
theorem dX11_count_88 : decode cX11_count 88 = .ok (.getfield 376, 3) := by decide +kernel
theorem dX11_count_91 : decode cX11_count 91 = .ok (.ireturn, 1) := by decide +kernel
theorem dX11_count_92 : decode cX11_count 92 = .ok (.aload_n 0, 1) := by decide +kernel
theorem dX11_count_93 : decode cX11_count 93 = .ok (.getfield 64, 3) := by decide +kernel
theorem dX11_count_96 : decode cX11_count 96 = .ok (.getfield 286, 3) := by decide +kernel
theorem dX11_count_99 : decode cX11_count 99 = .ok (.ireturn, 1) := by decide +kernel
theorem dX11_count_100 : decode cX11_count 100 = .ok (.aload_n 0, 1) := by decide +kernel
theorem dX11_count_101 : decode cX11_count 101 = .ok (.getfield 78, 3) := by decide +kernel
theorem dX11_count_104 : decode cX11_count 104 = .ok (.getfield 312, 3) := by decide +kernel
theorem dX11_count_107 : decode cX11_count 107 = .ok (.ireturn, 1) := by decide +kernel
theorem dX11_count_108 : decode cX11_count 108 = .ok (.aload_n 0, 1) := by decide +kernel
theorem dX11_count_109 : decode cX11_count 109 = .ok (.getfield 12, 3) := by decide +kernel
theorem dX11_count_112 : decode cX11_count 112 = .ok (.getfield 138, 3) := by decide +kernel
theorem dX11_count_115 : decode cX11_count 115 = .ok (.ireturn, 1) := by decide +kernel
theorem dX11_count_116 : decode cX11_count 116 = .ok (.aload_n 0, 1) := by decide +kernel
theorem dX11_count_117 : decode cX11_count 117 = .ok (.getfield 85, 3) := by decide +kernel
theorem dX11_count_120 : decode cX11_count 120 = .ok (.getfield 379, 3) := by decide +kernel
theorem dX11_count_123 : decode cX11_count 123 = .ok (.ireturn, 1) := by decide +kernel
theorem dX11_count_124 : decode cX11_count 124 = .ok (.bipush (-2), 2) := by decide +kernel
theorem dX11_count_126 : decode cX11_count 126 = .ok (.ireturn, 1) := by decide +kernel
theorem dX11_digest_0 : decode cX11_digest 0 = .ok (.ldc2_w 382, 3) := by decide +kernel
theorem dX11_digest_3 : decode cX11_digest 3 = .ok (.lstore_n 1, 1) := by decide +kernel
theorem dX11_digest_4 : decode cX11_digest 4 = .ok (.iconst 0, 1) := by decide +kernel
theorem dX11_digest_5 : decode cX11_digest 5 = .ok (.istore_n 3, 1) := by decide +kernel
theorem dX11_digest_6 : decode cX11_digest 6 = .ok (.iload_n 3, 1) := by decide +kernel
theorem dX11_digest_7 : decode cX11_digest 7 = .ok (.bipush 7, 2) := by decide +kernel
theorem dX11_digest_9 : decode cX11_digest 9 = .ok (.if_icmp .gt 20, 3) := by decide +kernel
theorem dX11_digest_12 : decode cX11_digest 12 = .ok (.lload_n 1, 1) := by decide +kernel
theorem dX11_digest_13 : decode cX11_digest 13 = .ok (.aload_n 0, 1) := by decide +kernel
theorem dX11_digest_14 : decode cX11_digest 14 = .ok (.iload_n 3, 1) := by decide +kernel
theorem dX11_digest_15 : decode cX11_digest 15 = .ok (.invokevirtual 384, 3) := by decide +kernel
theorem dX11_digest_18 : decode cX11_digest 18 = .ok (.i2l, 1) := by decide +kernel
theorem dX11_digest_19 : decode cX11_digest 19 = .ok (.invokestatic 387, 3) := by decide +kernel
theorem dX11_digest_22 : decode cX11_digest 22 = .ok (.lstore_n 1, 1) := by decide +kernel
theorem dX11_digest_23 : decode cX11_digest 23 = .ok (.iinc 3 1, 3) := by decide +kernel
theorem dX11_digest_26 : decode cX11_digest 26 = .ok (.goto (-20), 3) := by decide +kernel
theorem dX11_digest_29 : decode cX11_digest 29 = .ok (.lload_n 1, 1) := by decide +kernel
theorem dX11_digest_30 : decode cX11_digest 30 = .ok (.aload_n 0, 1) := by decide +kernel
theorem dX11_digest_31 : decode cX11_digest 31 = .ok (.invokevirtual 391, 3) := by decide +kernel
theorem dX11_digest_34 : decode cX11_digest 34 = .ok (.i2l, 1) := by decide +kernel
theorem dX11_digest_35 : decode cX11_digest 35 = .ok (.invokestatic 387, 3) := by decide +kernel
theorem dX11_digest_38 : decode cX11_digest 38 = .ok (.lstore_n 1, 1) := by decide +kernel
theorem dX11_digest_39 : decode cX11_digest 39 = .ok (.aload_n 0, 1) := by decide +kernel
theorem dX11_digest_40 : decode cX11_digest 40 = .ok (.lload_n 1, 1) := by decide +kernel
theorem dX11_digest_41 : decode cX11_digest 41 = .ok (.invokevirtual 394, 3) := by decide +kernel
theorem dX11_digest_44 : decode cX11_digest 44 = .ok (.lstore_n 1, 1) := by decide +kernel
theorem dX11_digest_45 : decode cX11_digest 45 = .ok (.aload_n 0, 1) := by decide +kernel
theorem dX11_digest_46 : decode cX11_digest 46 = .ok (.lload_n 1, 1) := by decide +kernel
theorem dX11_digest_47 : decode cX11_digest 47 = .ok (.invokevirtual 398, 3) := by decide +kernel
theorem dX11_digest_50 : decode cX11_digest 50 = .ok (.lstore_n 1, 1) := by decide +kernel
theorem dX11_digest_51 : decode cX11_digest 51 = .ok (.aload_n 0, 1) := by decide +kernel
theorem dX11_digest_52 : decode cX11_digest 52 = .ok (.lload_n 1, 1) := by decide +kernel
theorem dX11_digest_53 : decode cX11_digest 53 = .ok (.invokevirtual 401, 3) := by decide +kernel
theorem dX11_digest_56 : decode cX11_digest 56 = .ok (.lstore_n 1, 1) := by decide +kernel
theorem dX11_digest_57 : decode cX11_digest 57 = .ok (.iconst 0, 1) := by decide +kernel
theorem dX11_digest_58 : decode cX11_digest 58 = .ok (.istore_n 3, 1) := by decide +kernel
theorem dX11_digest_59 : decode cX11_digest 59 = .ok (.iload_n 3, 1) := by decide +kernel
theorem dX11_digest_60 : decode cX11_digest 60 = .ok (.aload_n 0, 1) := by decide +kernel
theorem dX11_digest_61 : decode cX11_digest 61 = .ok (.getfield 64, 3) := by decide +kernel
theorem dX11_digest_64 : decode cX11_digest 64 = .ok (.getfield 286, 3) := by decide +kernel
theorem dX11_digest_67 : decode cX11_digest 67 = .ok (.if_icmp .ge 20, 3) := by decide +kernel
theorem dX11_digest_70 : decode cX11_digest 70 = .ok (.lload_n 1, 1) := by decide +kernel
theorem dX11_digest_71 : decode cX11_digest 71 = .ok (.aload_n 0, 1) := by decide +kernel
theorem dX11_digest_72 : decode cX11_digest 72 = .ok (.iload_n 3, 1) := by decide +kernel
theorem dX11_digest_73 : decode cX11_digest 73 = .ok (.invokevirtual 404, 3) := by decide +kernel
theorem dX11_digest_76 : decode cX11_digest 76 = .ok (.i2l, 1) := by decide +kernel
theorem dX11_digest_77 : decode cX11_digest 77 = .ok (.invokestatic 387, 3) := by decide +kernel
theorem dX11_digest_80 : decode cX11_digest 80 = .ok (.lstore_n 1, 1) := by decide +kernel
theorem dX11_digest_81 : decode cX11_digest 81 = .ok (.iinc 3 1, 3) := by decide +kernel
theorem dX11_digest_84 : decode cX11_digest 84 = .ok (.goto (-25), 3) := by decide +kernel
theorem dX11_digest_87 : decode cX11_digest 87 = .ok (.lload_n 1, 1) := by decide +kernel
theorem dX11_digest_88 : decode cX11_digest 88 = .ok (.aload_n 0, 1) := by decide +kernel
theorem dX11_digest_89 : decode cX11_digest 89 = .ok (.invokevirtual 407, 3) := by decide +kernel
theorem dX11_digest_92 : decode cX11_digest 92 = .ok (.i2l, 1) := by decide +kernel
theorem dX11_digest_93 : decode cX11_digest 93 = .ok (.invokestatic 387, 3) := by decide +kernel
theorem dX11_digest_96 : decode cX11_digest 96 = .ok (.lstore_n 1, 1) := by decide +kernel
theorem dX11_digest_97 : decode cX11_digest 97 = .ok (.iconst 0, 1) := by decide +kernel
theorem dX11_digest_98 : decode cX11_digest 98 = .ok (.istore_n 3, 1) := by decide +kernel
theorem dX11_digest_99 : decode cX11_digest 99 = .ok (.iload_n 3, 1) := by decide +kernel
theorem dX11_digest_100 : decode cX11_digest 100 = .ok (.iconst 4, 1) := by decide +kernel
theorem dX11_digest_101 : decode cX11_digest 101 = .ok (.if_icmp .gt 20, 3) := by decide +kernel
theorem dX11_digest_104 : decode cX11_digest 104 = .ok (.lload_n 1, 1) := by decide +kernel
theorem dX11_digest_105 : decode cX11_digest 105 = .ok (.aload_n 0, 1) := by decide +kernel
theorem dX11_digest_106 : decode cX11_digest 106 = .ok (.iload_n 3, 1) := by decide +kernel
theorem dX11_digest_107 : decode cX11_digest 107 = .ok (.invokevirtual 410, 3) := by decide +kernel
theorem dX11_digest_110 : decode cX11_digest 110 = .ok (.i2l, 1) := by decide +kernel
theorem dX11_digest_111 : decode cX11_digest 111 = .ok (.invokestatic 387, 3) := by decide +kernel
theorem dX11_digest_114 : decode cX11_digest 114 = .ok (.lstore_n 1, 1) := by decide +kernel
theorem dX11_digest_115 : decode cX11_digest 115 = .ok (.iinc 3 1, 3) := by decide +kernel
theorem dX11_digest_118 : decode cX11_digest 118 = .ok (.goto (-19), 3) := by decide +kernel
theorem dX11_digest_121 : decode cX11_digest 121 = .ok (.lload_n 1, 1) := by decide +kernel
theorem dX11_digest_122 : decode cX11_digest 122 = .ok (.lreturn, 1) := by decide +kernel
theorem dX11_mixPairs_0 : decode cX11_mixPairs 0 = .ok (.lload_n 1, 1) := by decide +kernel
theorem dX11_mixPairs_1 : decode cX11_mixPairs 1 = .ok (.lstore_n 3, 1) := by decide +kernel
theorem dX11_mixPairs_2 : decode cX11_mixPairs 2 = .ok (.iconst (-1), 1) := by decide +kernel
theorem dX11_mixPairs_3 : decode cX11_mixPairs 3 = .ok (.istore 5, 2) := by decide +kernel
theorem dX11_mixPairs_5 : decode cX11_mixPairs 5 = .ok (.iload 5, 2) := by decide +kernel
theorem dX11_mixPairs_7 : decode cX11_mixPairs 7 = .ok (.iconst 4, 1) := by decide +kernel
theorem dX11_mixPairs_8 : decode cX11_mixPairs 8 = .ok (.if_icmp .ge 54, 3) := by decide +kernel
theorem dX11_mixPairs_11 : decode cX11_mixPairs 11 = .ok (.iconst 0, 1) := by decide +kernel
theorem dX11_mixPairs_12 : decode cX11_mixPairs 12 = .ok (.istore 6, 2) := by decide +kernel
theorem dX11_mixPairs_14 : decode cX11_mixPairs 14 = .ok (.iload 6, 2) := by decide +kernel
theorem dX11_mixPairs_16 : decode cX11_mixPairs 16 = .ok (.iconst 4, 1) := by decide +kernel
theorem dX11_mixPairs_17 : decode cX11_mixPairs 17 = .ok (.if_icmp .ge 39, 3) := by decide +kernel
theorem dX11_mixPairs_20 : decode cX11_mixPairs 20 = .ok (.lload_n 3, 1) := by decide +kernel
theorem dX11_mixPairs_21 : decode cX11_mixPairs 21 = .ok (.aload_n 0, 1) := by decide +kernel
theorem dX11_mixPairs_22 : decode cX11_mixPairs 22 = .ok (.iload 5, 2) := by decide +kernel
theorem dX11_mixPairs_24 : decode cX11_mixPairs 24 = .ok (.iload 6, 2) := by decide +kernel
theorem dX11_mixPairs_26 : decode cX11_mixPairs 26 = .ok (.iconst 0, 1) := by decide +kernel
theorem dX11_mixPairs_27 : decode cX11_mixPairs 27 = .ok (.invokevirtual 413, 3) := by decide +kernel
theorem dX11_mixPairs_30 : decode cX11_mixPairs 30 = .ok (.i2l, 1) := by decide +kernel
theorem dX11_mixPairs_31 : decode cX11_mixPairs 31 = .ok (.invokestatic 387, 3) := by decide +kernel
theorem dX11_mixPairs_34 : decode cX11_mixPairs 34 = .ok (.lstore_n 3, 1) := by decide +kernel
theorem dX11_mixPairs_35 : decode cX11_mixPairs 35 = .ok (.lload_n 3, 1) := by decide +kernel
theorem dX11_mixPairs_36 : decode cX11_mixPairs 36 = .ok (.aload_n 0, 1) := by decide +kernel
theorem dX11_mixPairs_37 : decode cX11_mixPairs 37 = .ok (.iload 5, 2) := by decide +kernel
theorem dX11_mixPairs_39 : decode cX11_mixPairs 39 = .ok (.iload 6, 2) := by decide +kernel
theorem dX11_mixPairs_41 : decode cX11_mixPairs 41 = .ok (.iconst 1, 1) := by decide +kernel
theorem dX11_mixPairs_42 : decode cX11_mixPairs 42 = .ok (.invokevirtual 413, 3) := by decide +kernel
theorem dX11_mixPairs_45 : decode cX11_mixPairs 45 = .ok (.i2l, 1) := by decide +kernel
theorem dX11_mixPairs_46 : decode cX11_mixPairs 46 = .ok (.invokestatic 387, 3) := by decide +kernel
theorem dX11_mixPairs_49 : decode cX11_mixPairs 49 = .ok (.lstore_n 3, 1) := by decide +kernel
theorem dX11_mixPairs_50 : decode cX11_mixPairs 50 = .ok (.iinc 6 1, 3) := by decide +kernel
theorem dX11_mixPairs_53 : decode cX11_mixPairs 53 = .ok (.goto (-39), 3) := by decide +kernel
theorem dX11_mixPairs_56 : decode cX11_mixPairs 56 = .ok (.iinc 5 1, 3) := by decide +kernel
theorem dX11_mixPairs_59 : decode cX11_mixPairs 59 = .ok (.goto (-54), 3) := by decide +kernel
theorem dX11_mixPairs_62 : decode cX11_mixPairs 62 = .ok (.lload_n 3, 1) := by decide +kernel
theorem dX11_mixPairs_63 : decode cX11_mixPairs 63 = .ok (.aload_n 0, 1) := by decide +kernel
theorem dX11_mixPairs_64 : decode cX11_mixPairs 64 = .ok (.iconst (-1), 1) := by decide +kernel
theorem dX11_mixPairs_65 : decode cX11_mixPairs 65 = .ok (.iconst 0, 1) := by decide +kernel
theorem dX11_mixPairs_66 : decode cX11_mixPairs 66 = .ok (.iconst 0, 1) := by decide +kernel
theorem dX11_mixPairs_67 : decode cX11_mixPairs 67 = .ok (.invokevirtual 415, 3) := by decide +kernel
theorem dX11_mixPairs_70 : decode cX11_mixPairs 70 = .ok (.invokestatic 387, 3) := by decide +kernel
theorem dX11_mixPairs_73 : decode cX11_mixPairs 73 = .ok (.lstore_n 3, 1) := by decide +kernel
theorem dX11_mixPairs_74 : decode cX11_mixPairs 74 = .ok (.lload_n 3, 1) := by decide +kernel
theorem dX11_mixPairs_75 : decode cX11_mixPairs 75 = .ok (.aload_n 0, 1) := by decide +kernel
theorem dX11_mixPairs_76 : decode cX11_mixPairs 76 = .ok (.iconst (-1), 1) := by decide +kernel
theorem dX11_mixPairs_77 : decode cX11_mixPairs 77 = .ok (.iconst 0, 1) := by decide +kernel
theorem dX11_mixPairs_78 : decode cX11_mixPairs 78 = .ok (.iconst 1, 1) := by decide +kernel
theorem dX11_mixPairs_79 : decode cX11_mixPairs 79 = .ok (.invokevirtual 415, 3) := by decide +kernel
theorem dX11_mixPairs_82 : decode cX11_mixPairs 82 = .ok (.invokestatic 387, 3) := by decide +kernel
theorem dX11_mixPairs_85 : decode cX11_mixPairs 85 = .ok (.lreturn, 1) := by decide +kernel
theorem dX11_mixRowsAndBeliefs_0 : decode cX11_mixRowsAndBeliefs 0 = .ok (.lload_n 1, 1) := by decide +kernel
theorem dX11_mixRowsAndBeliefs_1 : decode cX11_mixRowsAndBeliefs 1 = .ok (.aload_n 0, 1) := by decide +kernel
theorem dX11_mixRowsAndBeliefs_2 : decode cX11_mixRowsAndBeliefs 2 = .ok (.iconst (-1), 1) := by decide +kernel
theorem dX11_mixRowsAndBeliefs_3 : decode cX11_mixRowsAndBeliefs 3 = .ok (.invokevirtual 419, 3) := by decide +kernel
theorem dX11_mixRowsAndBeliefs_6 : decode cX11_mixRowsAndBeliefs 6 = .ok (.i2l, 1) := by decide +kernel
theorem dX11_mixRowsAndBeliefs_7 : decode cX11_mixRowsAndBeliefs 7 = .ok (.invokestatic 387, 3) := by decide +kernel
theorem dX11_mixRowsAndBeliefs_10 : decode cX11_mixRowsAndBeliefs 10 = .ok (.lstore_n 3, 1) := by decide +kernel
theorem dX11_mixRowsAndBeliefs_11 : decode cX11_mixRowsAndBeliefs 11 = .ok (.iconst 0, 1) := by decide +kernel
theorem dX11_mixRowsAndBeliefs_12 : decode cX11_mixRowsAndBeliefs 12 = .ok (.istore 5, 2) := by decide +kernel
theorem dX11_mixRowsAndBeliefs_14 : decode cX11_mixRowsAndBeliefs 14 = .ok (.iload 5, 2) := by decide +kernel
theorem dX11_mixRowsAndBeliefs_16 : decode cX11_mixRowsAndBeliefs 16 = .ok (.aload_n 0, 1) := by decide +kernel
theorem dX11_mixRowsAndBeliefs_17 : decode cX11_mixRowsAndBeliefs 17 = .ok (.getfield 29, 3) := by decide +kernel
theorem dX11_mixRowsAndBeliefs_20 : decode cX11_mixRowsAndBeliefs 20 = .ok (.getfield 374, 3) := by decide +kernel
theorem dX11_mixRowsAndBeliefs_23 : decode cX11_mixRowsAndBeliefs 23 = .ok (.if_icmp .ge 38, 3) := by decide +kernel
theorem dX11_mixRowsAndBeliefs_26 : decode cX11_mixRowsAndBeliefs 26 = .ok (.iconst 0, 1) := by decide +kernel
theorem dX11_mixRowsAndBeliefs_27 : decode cX11_mixRowsAndBeliefs 27 = .ok (.istore 6, 2) := by decide +kernel
theorem dX11_mixRowsAndBeliefs_29 : decode cX11_mixRowsAndBeliefs 29 = .ok (.iload 6, 2) := by decide +kernel
theorem dX11_mixRowsAndBeliefs_31 : decode cX11_mixRowsAndBeliefs 31 = .ok (.iconst 2, 1) := by decide +kernel
theorem dX11_mixRowsAndBeliefs_32 : decode cX11_mixRowsAndBeliefs 32 = .ok (.if_icmp .gt 23, 3) := by decide +kernel
theorem dX11_mixRowsAndBeliefs_35 : decode cX11_mixRowsAndBeliefs 35 = .ok (.lload_n 3, 1) := by decide +kernel
theorem dX11_mixRowsAndBeliefs_36 : decode cX11_mixRowsAndBeliefs 36 = .ok (.aload_n 0, 1) := by decide +kernel
theorem dX11_mixRowsAndBeliefs_37 : decode cX11_mixRowsAndBeliefs 37 = .ok (.iload 5, 2) := by decide +kernel
theorem dX11_mixRowsAndBeliefs_39 : decode cX11_mixRowsAndBeliefs 39 = .ok (.iload 6, 2) := by decide +kernel
theorem dX11_mixRowsAndBeliefs_41 : decode cX11_mixRowsAndBeliefs 41 = .ok (.invokevirtual 422, 3) := by decide +kernel
theorem dX11_mixRowsAndBeliefs_44 : decode cX11_mixRowsAndBeliefs 44 = .ok (.i2l, 1) := by decide +kernel
theorem dX11_mixRowsAndBeliefs_45 : decode cX11_mixRowsAndBeliefs 45 = .ok (.invokestatic 387, 3) := by decide +kernel
theorem dX11_mixRowsAndBeliefs_48 : decode cX11_mixRowsAndBeliefs 48 = .ok (.lstore_n 3, 1) := by decide +kernel
theorem dX11_mixRowsAndBeliefs_49 : decode cX11_mixRowsAndBeliefs 49 = .ok (.iinc 6 1, 3) := by decide +kernel
theorem dX11_mixRowsAndBeliefs_52 : decode cX11_mixRowsAndBeliefs 52 = .ok (.goto (-23), 3) := by decide +kernel
theorem dX11_mixRowsAndBeliefs_55 : decode cX11_mixRowsAndBeliefs 55 = .ok (.iinc 5 1, 3) := by decide +kernel
theorem dX11_mixRowsAndBeliefs_58 : decode cX11_mixRowsAndBeliefs 58 = .ok (.goto (-44), 3) := by decide +kernel
theorem dX11_mixRowsAndBeliefs_61 : decode cX11_mixRowsAndBeliefs 61 = .ok (.iconst 0, 1) := by decide +kernel
theorem dX11_mixRowsAndBeliefs_62 : decode cX11_mixRowsAndBeliefs 62 = .ok (.istore 5, 2) := by decide +kernel
theorem dX11_mixRowsAndBeliefs_64 : decode cX11_mixRowsAndBeliefs 64 = .ok (.iload 5, 2) := by decide +kernel
theorem dX11_mixRowsAndBeliefs_66 : decode cX11_mixRowsAndBeliefs 66 = .ok (.aload_n 0, 1) := by decide +kernel
theorem dX11_mixRowsAndBeliefs_67 : decode cX11_mixRowsAndBeliefs 67 = .ok (.getfield 36, 3) := by decide +kernel
theorem dX11_mixRowsAndBeliefs_70 : decode cX11_mixRowsAndBeliefs 70 = .ok (.getfield 375, 3) := by decide +kernel
theorem dX11_mixRowsAndBeliefs_73 : decode cX11_mixRowsAndBeliefs 73 = .ok (.if_icmp .ge 21, 3) := by decide +kernel
theorem dX11_mixRowsAndBeliefs_76 : decode cX11_mixRowsAndBeliefs 76 = .ok (.lload_n 3, 1) := by decide +kernel
theorem dX11_mixRowsAndBeliefs_77 : decode cX11_mixRowsAndBeliefs 77 = .ok (.aload_n 0, 1) := by decide +kernel
theorem dX11_mixRowsAndBeliefs_78 : decode cX11_mixRowsAndBeliefs 78 = .ok (.iload 5, 2) := by decide +kernel
theorem dX11_mixRowsAndBeliefs_80 : decode cX11_mixRowsAndBeliefs 80 = .ok (.invokevirtual 425, 3) := by decide +kernel
theorem dX11_mixRowsAndBeliefs_83 : decode cX11_mixRowsAndBeliefs 83 = .ok (.i2l, 1) := by decide +kernel
theorem dX11_mixRowsAndBeliefs_84 : decode cX11_mixRowsAndBeliefs 84 = .ok (.invokestatic 387, 3) := by decide +kernel
theorem dX11_mixRowsAndBeliefs_87 : decode cX11_mixRowsAndBeliefs 87 = .ok (.lstore_n 3, 1) := by decide +kernel
theorem dX11_mixRowsAndBeliefs_88 : decode cX11_mixRowsAndBeliefs 88 = .ok (.iinc 5 1, 3) := by decide +kernel
theorem dX11_mixRowsAndBeliefs_91 : decode cX11_mixRowsAndBeliefs 91 = .ok (.goto (-27), 3) := by decide +kernel
theorem dX11_mixRowsAndBeliefs_94 : decode cX11_mixRowsAndBeliefs 94 = .ok (.lload_n 3, 1) := by decide +kernel
theorem dX11_mixRowsAndBeliefs_95 : decode cX11_mixRowsAndBeliefs 95 = .ok (.lreturn, 1) := by decide +kernel
theorem dX11_mixGame_0 : decode cX11_mixGame 0 = .ok (.lload_n 1, 1) := by decide +kernel
theorem dX11_mixGame_1 : decode cX11_mixGame 1 = .ok (.lstore_n 3, 1) := by decide +kernel
theorem dX11_mixGame_2 : decode cX11_mixGame 2 = .ok (.iconst 0, 1) := by decide +kernel
theorem dX11_mixGame_3 : decode cX11_mixGame 3 = .ok (.istore 5, 2) := by decide +kernel
theorem dX11_mixGame_5 : decode cX11_mixGame 5 = .ok (.iload 5, 2) := by decide +kernel
theorem dX11_mixGame_7 : decode cX11_mixGame 7 = .ok (.iconst 5, 1) := by decide +kernel
theorem dX11_mixGame_8 : decode cX11_mixGame 8 = .ok (.if_icmp .gt 22, 3) := by decide +kernel
theorem dX11_mixGame_11 : decode cX11_mixGame 11 = .ok (.lload_n 3, 1) := by decide +kernel
theorem dX11_mixGame_12 : decode cX11_mixGame 12 = .ok (.aload_n 0, 1) := by decide +kernel
theorem dX11_mixGame_13 : decode cX11_mixGame 13 = .ok (.iconst 0, 1) := by decide +kernel
theorem dX11_mixGame_14 : decode cX11_mixGame 14 = .ok (.iload 5, 2) := by decide +kernel
theorem dX11_mixGame_16 : decode cX11_mixGame 16 = .ok (.invokevirtual 428, 3) := by decide +kernel
theorem dX11_mixGame_19 : decode cX11_mixGame 19 = .ok (.i2l, 1) := by decide +kernel
theorem dX11_mixGame_20 : decode cX11_mixGame 20 = .ok (.invokestatic 387, 3) := by decide +kernel
theorem dX11_mixGame_23 : decode cX11_mixGame 23 = .ok (.lstore_n 3, 1) := by decide +kernel
theorem dX11_mixGame_24 : decode cX11_mixGame 24 = .ok (.iinc 5 1, 3) := by decide +kernel
theorem dX11_mixGame_27 : decode cX11_mixGame 27 = .ok (.goto (-22), 3) := by decide +kernel
theorem dX11_mixGame_30 : decode cX11_mixGame 30 = .ok (.iconst 0, 1) := by decide +kernel
theorem dX11_mixGame_31 : decode cX11_mixGame 31 = .ok (.istore 5, 2) := by decide +kernel
theorem dX11_mixGame_33 : decode cX11_mixGame 33 = .ok (.iload 5, 2) := by decide +kernel
theorem dX11_mixGame_35 : decode cX11_mixGame 35 = .ok (.iconst 2, 1) := by decide +kernel
theorem dX11_mixGame_36 : decode cX11_mixGame 36 = .ok (.if_icmp .gt 22, 3) := by decide +kernel
theorem dX11_mixGame_39 : decode cX11_mixGame 39 = .ok (.lload_n 3, 1) := by decide +kernel
theorem dX11_mixGame_40 : decode cX11_mixGame 40 = .ok (.aload_n 0, 1) := by decide +kernel
theorem dX11_mixGame_41 : decode cX11_mixGame 41 = .ok (.iconst 4, 1) := by decide +kernel
theorem dX11_mixGame_42 : decode cX11_mixGame 42 = .ok (.iload 5, 2) := by decide +kernel
theorem dX11_mixGame_44 : decode cX11_mixGame 44 = .ok (.invokevirtual 428, 3) := by decide +kernel
theorem dX11_mixGame_47 : decode cX11_mixGame 47 = .ok (.i2l, 1) := by decide +kernel
theorem dX11_mixGame_48 : decode cX11_mixGame 48 = .ok (.invokestatic 387, 3) := by decide +kernel
theorem dX11_mixGame_51 : decode cX11_mixGame 51 = .ok (.lstore_n 3, 1) := by decide +kernel
theorem dX11_mixGame_52 : decode cX11_mixGame 52 = .ok (.iinc 5 1, 3) := by decide +kernel
theorem dX11_mixGame_55 : decode cX11_mixGame 55 = .ok (.goto (-22), 3) := by decide +kernel
theorem dX11_mixGame_58 : decode cX11_mixGame 58 = .ok (.lload_n 3, 1) := by decide +kernel
theorem dX11_mixGame_59 : decode cX11_mixGame 59 = .ok (.aload_n 0, 1) := by decide +kernel
theorem dX11_mixGame_60 : decode cX11_mixGame 60 = .ok (.invokevirtual 431, 3) := by decide +kernel
theorem dX11_mixGame_63 : decode cX11_mixGame 63 = .ok (.i2l, 1) := by decide +kernel
theorem dX11_mixGame_64 : decode cX11_mixGame 64 = .ok (.invokestatic 387, 3) := by decide +kernel
theorem dX11_mixGame_67 : decode cX11_mixGame 67 = .ok (.lreturn, 1) := by decide +kernel
theorem dX11_mix_0 : decode cX11_mix 0 = .ok (.ldc2_w 434, 3) := by decide +kernel
theorem dX11_mix_3 : decode cX11_mix 3 = .ok (.lload_n 0, 1) := by decide +kernel
theorem dX11_mix_4 : decode cX11_mix 4 = .ok (.lmul, 1) := by decide +kernel
theorem dX11_mix_5 : decode cX11_mix 5 = .ok (.lload_n 2, 1) := by decide +kernel
theorem dX11_mix_6 : decode cX11_mix 6 = .ok (.ladd, 1) := by decide +kernel
theorem dX11_mix_7 : decode cX11_mix 7 = .ok (.lreturn, 1) := by decide +kernel
theorem dX11_isWithin_0 : decode cX11_isWithin 0 = .ok (.iload_n 0, 1) := by decide +kernel
theorem dX11_isWithin_1 : decode cX11_isWithin 1 = .ok (.ifCond .lt 12, 3) := by decide +kernel
theorem dX11_isWithin_4 : decode cX11_isWithin 4 = .ok (.iload_n 0, 1) := by decide +kernel
theorem dX11_isWithin_5 : decode cX11_isWithin 5 = .ok (.iload_n 1, 1) := by decide +kernel
theorem dX11_isWithin_6 : decode cX11_isWithin 6 = .ok (.if_icmp .gt 7, 3) := by decide +kernel
theorem dX11_isWithin_9 : decode cX11_isWithin 9 = .ok (.iconst 1, 1) := by decide +kernel
theorem dX11_isWithin_10 : decode cX11_isWithin 10 = .ok (.goto 4, 3) := by decide +kernel
theorem dX11_isWithin_13 : decode cX11_isWithin 13 = .ok (.iconst 0, 1) := by decide +kernel
theorem dX11_isWithin_14 : decode cX11_isWithin 14 = .ok (.ireturn, 1) := by decide +kernel
theorem dX11_isPeople_0 : decode cX11_isPeople 0 = .ok (.iload_n 0, 1) := by decide +kernel
theorem dX11_isPeople_1 : decode cX11_isPeople 1 = .ok (.iconst 3, 1) := by decide +kernel
theorem dX11_isPeople_2 : decode cX11_isPeople 2 = .ok (.invokestatic 145, 3) := by decide +kernel
theorem dX11_isPeople_5 : decode cX11_isPeople 5 = .ok (.ireturn, 1) := by decide +kernel
theorem dX11_isPeopleOrAll_0 : decode cX11_isPeopleOrAll 0 = .ok (.iload_n 0, 1) := by decide +kernel
theorem dX11_isPeopleOrAll_1 : decode cX11_isPeopleOrAll 1 = .ok (.iconst (-1), 1) := by decide +kernel
theorem dX11_isPeopleOrAll_2 : decode cX11_isPeopleOrAll 2 = .ok (.if_icmp .eq 10, 3) := by decide +kernel
theorem dX11_isPeopleOrAll_5 : decode cX11_isPeopleOrAll 5 = .ok (.iload_n 0, 1) := by decide +kernel
theorem dX11_isPeopleOrAll_6 : decode cX11_isPeopleOrAll 6 = .ok (.invokestatic 89, 3) := by decide +kernel
theorem dX11_isPeopleOrAll_9 : decode cX11_isPeopleOrAll 9 = .ok (.ifCond .eq 7, 3) := by decide +kernel
theorem dX11_isPeopleOrAll_12 : decode cX11_isPeopleOrAll 12 = .ok (.iconst 1, 1) := by decide +kernel
theorem dX11_isPeopleOrAll_13 : decode cX11_isPeopleOrAll 13 = .ok (.goto 4, 3) := by decide +kernel
theorem dX11_isPeopleOrAll_16 : decode cX11_isPeopleOrAll 16 = .ok (.iconst 0, 1) := by decide +kernel
theorem dX11_isPeopleOrAll_17 : decode cX11_isPeopleOrAll 17 = .ok (.ireturn, 1) := by decide +kernel
theorem dX11_isKind_0 : decode cX11_isKind 0 = .ok (.iload_n 0, 1) := by decide +kernel
theorem dX11_isKind_1 : decode cX11_isKind 1 = .ok (.iconst 3, 1) := by decide +kernel
theorem dX11_isKind_2 : decode cX11_isKind 2 = .ok (.invokestatic 145, 3) := by decide +kernel
theorem dX11_isKind_5 : decode cX11_isKind 5 = .ok (.ireturn, 1) := by decide +kernel
theorem dX11_isOffer_0 : decode cX11_isOffer 0 = .ok (.iload_n 0, 1) := by decide +kernel
theorem dX11_isOffer_1 : decode cX11_isOffer 1 = .ok (.bipush 10, 2) := by decide +kernel
theorem dX11_isOffer_3 : decode cX11_isOffer 3 = .ok (.invokestatic 145, 3) := by decide +kernel
theorem dX11_isOffer_6 : decode cX11_isOffer 6 = .ok (.ireturn, 1) := by decide +kernel
theorem dX11_isAnswer_0 : decode cX11_isAnswer 0 = .ok (.iload_n 0, 1) := by decide +kernel
theorem dX11_isAnswer_1 : decode cX11_isAnswer 1 = .ok (.iconst 1, 1) := by decide +kernel
theorem dX11_isAnswer_2 : decode cX11_isAnswer 2 = .ok (.invokestatic 145, 3) := by decide +kernel
theorem dX11_isAnswer_5 : decode cX11_isAnswer 5 = .ok (.ireturn, 1) := by decide +kernel
theorem dX11_isTime_0 : decode cX11_isTime 0 = .ok (.iload_n 0, 1) := by decide +kernel
theorem dX11_isTime_1 : decode cX11_isTime 1 = .ok (.sipush 999, 3) := by decide +kernel
theorem dX11_isTime_4 : decode cX11_isTime 4 = .ok (.invokestatic 145, 3) := by decide +kernel
theorem dX11_isTime_7 : decode cX11_isTime 7 = .ok (.ireturn, 1) := by decide +kernel
theorem dX11_isPart_0 : decode cX11_isPart 0 = .ok (.iload_n 0, 1) := by decide +kernel
theorem dX11_isPart_1 : decode cX11_isPart 1 = .ok (.iconst 1, 1) := by decide +kernel
theorem dX11_isPart_2 : decode cX11_isPart 2 = .ok (.invokestatic 145, 3) := by decide +kernel
theorem dX11_isPart_5 : decode cX11_isPart 5 = .ok (.ireturn, 1) := by decide +kernel
theorem dX11_isSheet_0 : decode cX11_isSheet 0 = .ok (.iload_n 0, 1) := by decide +kernel
theorem dX11_isSheet_1 : decode cX11_isSheet 1 = .ok (.iconst 3, 1) := by decide +kernel
theorem dX11_isSheet_2 : decode cX11_isSheet 2 = .ok (.invokestatic 145, 3) := by decide +kernel
theorem dX11_isSheet_5 : decode cX11_isSheet 5 = .ok (.ireturn, 1) := by decide +kernel
theorem dX11_isForm_0 : decode cX11_isForm 0 = .ok (.iload_n 0, 1) := by decide +kernel
theorem dX11_isForm_1 : decode cX11_isForm 1 = .ok (.iconst 2, 1) := by decide +kernel
theorem dX11_isForm_2 : decode cX11_isForm 2 = .ok (.invokestatic 145, 3) := by decide +kernel
theorem dX11_isForm_5 : decode cX11_isForm 5 = .ok (.ireturn, 1) := by decide +kernel
theorem dX11_asLong_0 : decode cX11_asLong 0 = .ok (.ldc2_w 436, 3) := by decide +kernel
theorem dX11_asLong_3 : decode cX11_asLong 3 = .ok (.iload_n 0, 1) := by decide +kernel
theorem dX11_asLong_4 : decode cX11_asLong 4 = .ok (.i2l, 1) := by decide +kernel
theorem dX11_asLong_5 : decode cX11_asLong 5 = .ok (.lsub, 1) := by decide +kernel
theorem dX11_asLong_6 : decode cX11_asLong 6 = .ok (.lreturn, 1) := by decide +kernel
theorem dX11_fraction_0 : decode cX11_fraction 0 = .ok (.lload_n 0, 1) := by decide +kernel
theorem dX11_fraction_1 : decode cX11_fraction 1 = .ok (.invokestatic 438, 3) := by decide +kernel
theorem dX11_fraction_4 : decode cX11_fraction 4 = .ok (.lload_n 2, 1) := by decide +kernel
theorem dX11_fraction_5 : decode cX11_fraction 5 = .ok (.invokestatic 440, 3) := by decide +kernel
theorem dX11_fraction_8 : decode cX11_fraction 8 = .ok (.lstore 5, 2) := by decide +kernel
theorem dX11_fraction_10 : decode cX11_fraction 10 = .ok (.lload 5, 2) := by decide +kernel
theorem dX11_fraction_12 : decode cX11_fraction 12 = .ok (.lconst 0, 1) := by decide +kernel
theorem dX11_fraction_13 : decode cX11_fraction 13 = .ok (.lcmp, 1) := by decide +kernel
theorem dX11_fraction_14 : decode cX11_fraction 14 = .ok (.ifCond .ne 5, 3) := by decide +kernel
theorem dX11_fraction_17 : decode cX11_fraction 17 = .ok (.lconst 0, 1) := by decide +kernel
theorem dX11_fraction_18 : decode cX11_fraction 18 = .ok (.lreturn, 1) := by decide +kernel
theorem dX11_fraction_19 : decode cX11_fraction 19 = .ok (.iload 4, 2) := by decide +kernel
theorem dX11_fraction_21 : decode cX11_fraction 21 = .ok (.ifCond .ne 7, 3) := by decide +kernel
theorem dX11_fraction_24 : decode cX11_fraction 24 = .ok (.lload_n 0, 1) := by decide +kernel
theorem dX11_fraction_25 : decode cX11_fraction 25 = .ok (.goto 4, 3) := by decide +kernel
theorem dX11_fraction_28 : decode cX11_fraction 28 = .ok (.lload_n 2, 1) := by decide +kernel
theorem dX11_fraction_29 : decode cX11_fraction 29 = .ok (.lload 5, 2) := by decide +kernel
theorem dX11_fraction_31 : decode cX11_fraction 31 = .ok (.ldiv, 1) := by decide +kernel
theorem dX11_fraction_32 : decode cX11_fraction 32 = .ok (.lreturn, 1) := by decide +kernel
theorem dX11_greatestDivisor_0 : decode cX11_greatestDivisor 0 = .ok (.lload_n 0, 1) := by decide +kernel
theorem dX11_greatestDivisor_1 : decode cX11_greatestDivisor 1 = .ok (.lstore 4, 2) := by decide +kernel
theorem dX11_greatestDivisor_3 : decode cX11_greatestDivisor 3 = .ok (.lload_n 2, 1) := by decide +kernel
theorem dX11_greatestDivisor_4 : decode cX11_greatestDivisor 4 = .ok (.lstore 6, 2) := by decide +kernel
theorem dX11_greatestDivisor_6 : decode cX11_greatestDivisor 6 = .ok (.iconst 0, 1) := by decide +kernel
theorem dX11_greatestDivisor_7 : decode cX11_greatestDivisor 7 = .ok (.istore 8, 2) := by decide +kernel
theorem dX11_greatestDivisor_9 : decode cX11_greatestDivisor 9 = .ok (.iload 8, 2) := by decide +kernel
theorem dX11_greatestDivisor_11 : decode cX11_greatestDivisor 11 = .ok (.sipush 200, 3) := by decide +kernel
theorem dX11_greatestDivisor_14 : decode cX11_greatestDivisor 14 = .ok (.if_icmp .ge 31, 3) := by decide +kernel
theorem dX11_greatestDivisor_17 : decode cX11_greatestDivisor 17 = .ok (.lload 6, 2) := by decide +kernel
theorem dX11_greatestDivisor_19 : decode cX11_greatestDivisor 19 = .ok (.lconst 0, 1) := by decide +kernel
theorem dX11_greatestDivisor_20 : decode cX11_greatestDivisor 20 = .ok (.lcmp, 1) := by decide +kernel
theorem dX11_greatestDivisor_21 : decode cX11_greatestDivisor 21 = .ok (.ifCond .eq 24, 3) := by decide +kernel
theorem dX11_greatestDivisor_24 : decode cX11_greatestDivisor 24 = .ok (.lload 4, 2) := by decide +kernel
theorem dX11_greatestDivisor_26 : decode cX11_greatestDivisor 26 = .ok (.lload 6, 2) := by decide +kernel
theorem dX11_greatestDivisor_28 : decode cX11_greatestDivisor 28 = .ok (.lrem, 1) := by decide +kernel
theorem dX11_greatestDivisor_29 : decode cX11_greatestDivisor 29 = .ok (.lstore 9, 2) := by decide +kernel
theorem dX11_greatestDivisor_31 : decode cX11_greatestDivisor 31 = .ok (.lload 6, 2) := by decide +kernel
theorem dX11_greatestDivisor_33 : decode cX11_greatestDivisor 33 = .ok (.lstore 4, 2) := by decide +kernel
theorem dX11_greatestDivisor_35 : decode cX11_greatestDivisor 35 = .ok (.lload 9, 2) := by decide +kernel
theorem dX11_greatestDivisor_37 : decode cX11_greatestDivisor 37 = .ok (.lstore 6, 2) := by decide +kernel
theorem dX11_greatestDivisor_39 : decode cX11_greatestDivisor 39 = .ok (.iinc 8 1, 3) := by decide +kernel
theorem dX11_greatestDivisor_42 : decode cX11_greatestDivisor 42 = .ok (.goto (-33), 3) := by decide +kernel
theorem dX11_greatestDivisor_45 : decode cX11_greatestDivisor 45 = .ok (.lload 4, 2) := by decide +kernel
theorem dX11_greatestDivisor_47 : decode cX11_greatestDivisor 47 = .ok (.lreturn, 1) := by decide +kernel
theorem dX11_millionths_0 : decode cX11_millionths 0 = .ok (.iload_n 1, 1) := by decide +kernel
theorem dX11_millionths_1 : decode cX11_millionths 1 = .ok (.ifCond .ne 5, 3) := by decide +kernel
theorem dX11_millionths_4 : decode cX11_millionths 4 = .ok (.iconst 0, 1) := by decide +kernel
theorem dX11_millionths_5 : decode cX11_millionths 5 = .ok (.ireturn, 1) := by decide +kernel
theorem dX11_millionths_6 : decode cX11_millionths 6 = .ok (.ldc2_w 443, 3) := by decide +kernel
theorem dX11_millionths_9 : decode cX11_millionths 9 = .ok (.iload_n 0, 1) := by decide +kernel
theorem dX11_millionths_10 : decode cX11_millionths 10 = .ok (.i2l, 1) := by decide +kernel
theorem dX11_millionths_11 : decode cX11_millionths 11 = .ok (.lmul, 1) := by decide +kernel
theorem dX11_millionths_12 : decode cX11_millionths 12 = .ok (.iload_n 1, 1) := by decide +kernel
theorem dX11_millionths_13 : decode cX11_millionths 13 = .ok (.i2l, 1) := by decide +kernel
theorem dX11_millionths_14 : decode cX11_millionths 14 = .ok (.ldiv, 1) := by decide +kernel
theorem dX11_millionths_15 : decode cX11_millionths 15 = .ok (.l2i, 1) := by decide +kernel
theorem dX11_millionths_16 : decode cX11_millionths 16 = .ok (.ireturn, 1) := by decide +kernel
theorem dX11_firstGreatest_0 : decode cX11_firstGreatest 0 = .ok (.iconst 0, 1) := by decide +kernel
theorem dX11_firstGreatest_1 : decode cX11_firstGreatest 1 = .ok (.istore_n 1, 1) := by decide +kernel
theorem dX11_firstGreatest_2 : decode cX11_firstGreatest 2 = .ok (.iconst 1, 1) := by decide +kernel
theorem dX11_firstGreatest_3 : decode cX11_firstGreatest 3 = .ok (.istore_n 2, 1) := by decide +kernel
theorem dX11_firstGreatest_4 : decode cX11_firstGreatest 4 = .ok (.iload_n 2, 1) := by decide +kernel
theorem dX11_firstGreatest_5 : decode cX11_firstGreatest 5 = .ok (.aload_n 0, 1) := by decide +kernel
theorem dX11_firstGreatest_6 : decode cX11_firstGreatest 6 = .ok (.arraylength, 1) := by decide +kernel
theorem dX11_firstGreatest_7 : decode cX11_firstGreatest 7 = .ok (.if_icmp .ge 20, 3) := by decide +kernel
theorem dX11_firstGreatest_10 : decode cX11_firstGreatest 10 = .ok (.aload_n 0, 1) := by decide +kernel
theorem dX11_firstGreatest_11 : decode cX11_firstGreatest 11 = .ok (.iload_n 2, 1) := by decide +kernel
theorem dX11_firstGreatest_12 : decode cX11_firstGreatest 12 = .ok (.iaload, 1) := by decide +kernel
theorem dX11_firstGreatest_13 : decode cX11_firstGreatest 13 = .ok (.aload_n 0, 1) := by decide +kernel
theorem dX11_firstGreatest_14 : decode cX11_firstGreatest 14 = .ok (.iload_n 1, 1) := by decide +kernel
theorem dX11_firstGreatest_15 : decode cX11_firstGreatest 15 = .ok (.iaload, 1) := by decide +kernel
theorem dX11_firstGreatest_16 : decode cX11_firstGreatest 16 = .ok (.if_icmp .le 5, 3) := by decide +kernel
theorem dX11_firstGreatest_19 : decode cX11_firstGreatest 19 = .ok (.iload_n 2, 1) := by decide +kernel
theorem dX11_firstGreatest_20 : decode cX11_firstGreatest 20 = .ok (.istore_n 1, 1) := by decide +kernel
theorem dX11_firstGreatest_21 : decode cX11_firstGreatest 21 = .ok (.iinc 2 1, 3) := by decide +kernel
theorem dX11_firstGreatest_24 : decode cX11_firstGreatest 24 = .ok (.goto (-20), 3) := by decide +kernel
theorem dX11_firstGreatest_27 : decode cX11_firstGreatest 27 = .ok (.iload_n 1, 1) := by decide +kernel
theorem dX11_firstGreatest_28 : decode cX11_firstGreatest 28 = .ok (.ireturn, 1) := by decide +kernel
