theorem dX10_init_0 : decode cX10_init 0 = .ok (.aload_n 0, 1) := by decide +kernel
theorem dX10_init_1 : decode cX10_init 1 = .ok (.invokespecial 1, 3) := by decide +kernel
theorem dX10_init_4 : decode cX10_init 4 = .ok (.aload_n 0, 1) := by decide +kernel
theorem dX10_init_5 : decode cX10_init 5 = .ok (.sipush 8625, 3) := by decide +kernel
theorem dX10_init_8 : decode cX10_init 8 = .ok (.newarray .int, 2) := by decide +kernel
theorem dX10_init_10 : decode cX10_init 10 = .ok (.putfield 7, 3) := by decide +kernel
theorem dX10_init_13 : decode cX10_init 13 = .ok (.aload_n 0, 1) := by decide +kernel
theorem dX10_init_14 : decode cX10_init 14 = .ok (.bipush 20, 2) := by decide +kernel
theorem dX10_init_16 : decode cX10_init 16 = .ok (.newarray .int, 2) := by decide +kernel
theorem dX10_init_18 : decode cX10_init 18 = .ok (.putfield 13, 3) := by decide +kernel
theorem dX10_init_21 : decode cX10_init 21 = .ok (.aload_n 0, 1) := by decide +kernel
theorem dX10_init_22 : decode cX10_init 22 = .ok (.bipush 20, 2) := by decide +kernel
theorem dX10_init_24 : decode cX10_init 24 = .ok (.newarray .int, 2) := by decide +kernel
theorem dX10_init_26 : decode cX10_init 26 = .ok (.putfield 16, 3) := by decide +kernel
theorem dX10_init_29 : decode cX10_init 29 = .ok (.aload_n 0, 1) := by decide +kernel
theorem dX10_init_30 : decode cX10_init 30 = .ok (.sipush 400, 3) := by decide +kernel
theorem dX10_init_33 : decode cX10_init 33 = .ok (.newarray .boolean, 2) := by decide +kernel
theorem dX10_init_35 : decode cX10_init 35 = .ok (.putfield 19, 3) := by decide +kernel
theorem dX10_init_38 : decode cX10_init 38 = .ok (.aload_n 0, 1) := by decide +kernel
theorem dX10_init_39 : decode cX10_init 39 = .ok (.sipush 400, 3) := by decide +kernel
theorem dX10_init_42 : decode cX10_init 42 = .ok (.newarray .boolean, 2) := by decide +kernel
theorem dX10_init_44 : decode cX10_init 44 = .ok (.putfield 23, 3) := by decide +kernel
theorem dX10_init_47 : decode cX10_init 47 = .ok (.aload_n 0, 1) := by decide +kernel
theorem dX10_init_48 : decode cX10_init 48 = .ok (.sipush 400, 3) := by decide +kernel
theorem dX10_init_51 : decode cX10_init 51 = .ok (.newarray .boolean, 2) := by decide +kernel
theorem dX10_init_53 : decode cX10_init 53 = .ok (.putfield 26, 3) := by decide +kernel
theorem dX10_init_56 : decode cX10_init 56 = .ok (.aload_n 0, 1) := by decide +kernel
theorem dX10_init_57 : decode cX10_init 57 = .ok (.sipush 1600, 3) := by decide +kernel
theorem dX10_init_60 : decode cX10_init 60 = .ok (.newarray .int, 2) := by decide +kernel
theorem dX10_init_62 : decode cX10_init 62 = .ok (.putfield 29, 3) := by decide +kernel
theorem dX10_init_65 : decode cX10_init 65 = .ok (.aload_n 0, 1) := by decide +kernel
theorem dX10_init_66 : decode cX10_init 66 = .ok (.sipush 400, 3) := by decide +kernel
theorem dX10_init_69 : decode cX10_init 69 = .ok (.newarray .int, 2) := by decide +kernel
theorem dX10_init_71 : decode cX10_init 71 = .ok (.putfield 32, 3) := by decide +kernel
theorem dX10_init_74 : decode cX10_init 74 = .ok (.aload_n 0, 1) := by decide +kernel
theorem dX10_init_75 : decode cX10_init 75 = .ok (.sipush 400, 3) := by decide +kernel
theorem dX10_init_78 : decode cX10_init 78 = .ok (.newarray .int, 2) := by decide +kernel
theorem dX10_init_80 : decode cX10_init 80 = .ok (.putfield 35, 3) := by decide +kernel
theorem dX10_init_83 : decode cX10_init 83 = .ok (.aload_n 0, 1) := by decide +kernel
theorem dX10_init_84 : decode cX10_init 84 = .ok (.sipush 800, 3) := by decide +kernel
theorem dX10_init_87 : decode cX10_init 87 = .ok (.newarray .int, 2) := by decide +kernel
theorem dX10_init_89 : decode cX10_init 89 = .ok (.putfield 38, 3) := by decide +kernel
theorem dX10_init_92 : decode cX10_init 92 = .ok (.aload_n 0, 1) := by decide +kernel
theorem dX10_init_93 : decode cX10_init 93 = .ok (.sipush 800, 3) := by decide +kernel
theorem dX10_init_96 : decode cX10_init 96 = .ok (.newarray .int, 2) := by decide +kernel
theorem dX10_init_98 : decode cX10_init 98 = .ok (.putfield 41, 3) := by decide +kernel
theorem dX10_init_101 : decode cX10_init 101 = .ok (.aload_n 0, 1) := by decide +kernel
theorem dX10_init_102 : decode cX10_init 102 = .ok (.sipush 800, 3) := by decide +kernel
theorem dX10_init_105 : decode cX10_init 105 = .ok (.newarray .boolean, 2) := by decide +kernel
theorem dX10_init_107 : decode cX10_init 107 = .ok (.putfield 44, 3) := by decide +kernel
theorem dX10_init_110 : decode cX10_init 110 = .ok (.aload_n 0, 1) := by decide +kernel
theorem dX10_init_111 : decode cX10_init 111 = .ok (.sipush 400, 3) := by decide +kernel
theorem dX10_init_114 : decode cX10_init 114 = .ok (.newarray .int, 2) := by decide +kernel
theorem dX10_init_116 : decode cX10_init 116 = .ok (.putfield 47, 3) := by decide +kernel
theorem dX10_init_119 : decode cX10_init 119 = .ok (.aload_n 0, 1) := by decide +kernel
theorem dX10_init_120 : decode cX10_init 120 = .ok (.bipush 120, 2) := by decide +kernel
theorem dX10_init_122 : decode cX10_init 122 = .ok (.newarray .int, 2) := by decide +kernel
theorem dX10_init_124 : decode cX10_init 124 = .ok (.putfield 50, 3) := by decide +kernel
theorem dX10_init_127 : decode cX10_init 127 = .ok (.aload_n 0, 1) := by decide +kernel
theorem dX10_init_128 : decode cX10_init 128 = .ok (.bipush 6, 2) := by decide +kernel
theorem dX10_init_130 : decode cX10_init 130 = .ok (.newarray .int, 2) := by decide +kernel
theorem dX10_init_132 : decode cX10_init 132 = .ok (.putfield 53, 3) := by decide +kernel
theorem dX10_init_135 : decode cX10_init 135 = .ok (.aload_n 0, 1) := by decide +kernel
theorem dX10_init_136 : decode cX10_init 136 = .ok (.getfield 7, 3) := by decide +kernel
theorem dX10_init_139 : decode cX10_init 139 = .ok (.iconst 2, 1) := by decide +kernel
theorem dX10_init_140 : decode cX10_init 140 = .ok (.bipush 10, 2) := by decide +kernel
theorem dX10_init_142 : decode cX10_init 142 = .ok (.iastore, 1) := by decide +kernel
theorem dX10_init_143 : decode cX10_init 143 = .ok (.return_, 1) := by decide +kernel
theorem dX10_in_0 : decode cX10_in 0 = .ok (.iload_n 0, 1) := by decide +kernel
theorem dX10_in_1 : decode cX10_in 1 = .ok (.iload_n 1, 1) := by decide +kernel
theorem dX10_in_2 : decode cX10_in 2 = .ok (.if_icmp .lt 12, 3) := by decide +kernel
theorem dX10_in_5 : decode cX10_in 5 = .ok (.iload_n 0, 1) := by decide +kernel
theorem dX10_in_6 : decode cX10_in 6 = .ok (.iload_n 2, 1) := by decide +kernel
theorem dX10_in_7 : decode cX10_in 7 = .ok (.if_icmp .gt 7, 3) := by decide +kernel
theorem dX10_in_10 : decode cX10_in 10 = .ok (.iconst 1, 1) := by decide +kernel
theorem dX10_in_11 : decode cX10_in 11 = .ok (.goto 4, 3) := by decide +kernel
theorem dX10_in_14 : decode cX10_in 14 = .ok (.iconst 0, 1) := by decide +kernel
theorem dX10_in_15 : decode cX10_in 15 = .ok (.ireturn, 1) := by decide +kernel
theorem dX10_copies_0 : decode cX10_copies 0 = .ok (.iconst 0, 1) := by decide +kernel
theorem dX10_copies_1 : decode cX10_copies 1 = .ok (.istore_n 3, 1) := by decide +kernel
theorem dX10_copies_2 : decode cX10_copies 2 = .ok (.iload_n 3, 1) := by decide +kernel
theorem dX10_copies_3 : decode cX10_copies 3 = .ok (.sipush 1725, 3) := by decide +kernel
theorem dX10_copies_6 : decode cX10_copies 6 = .ok (.if_icmp .ge 25, 3) := by decide +kernel
theorem dX10_copies_9 : decode cX10_copies 9 = .ok (.aload_n 0, 1) := by decide +kernel
theorem dX10_copies_10 : decode cX10_copies 10 = .ok (.getfield 7, 3) := by decide +kernel
theorem dX10_copies_13 : decode cX10_copies 13 = .ok (.iload_n 2, 1) := by decide +kernel
theorem dX10_copies_14 : decode cX10_copies 14 = .ok (.iload_n 3, 1) := by decide +kernel
theorem dX10_copies_15 : decode cX10_copies 15 = .ok (.iadd, 1) := by decide +kernel
theorem dX10_copies_16 : decode cX10_copies 16 = .ok (.aload_n 0, 1) := by decide +kernel
theorem dX10_copies_17 : decode cX10_copies 17 = .ok (.getfield 7, 3) := by decide +kernel
theorem dX10_copies_20 : decode cX10_copies 20 = .ok (.iload_n 1, 1) := by decide +kernel
theorem dX10_copies_21 : decode cX10_copies 21 = .ok (.iload_n 3, 1) := by decide +kernel
theorem dX10_copies_22 : decode cX10_copies 22 = .ok (.iadd, 1) := by decide +kernel
theorem dX10_copies_23 : decode cX10_copies 23 = .ok (.iaload, 1) := by decide +kernel
theorem dX10_copies_24 : decode cX10_copies 24 = .ok (.iastore, 1) := by decide +kernel
theorem dX10_copies_25 : decode cX10_copies 25 = .ok (.iinc 3 1, 3) := by decide +kernel
theorem dX10_copies_28 : decode cX10_copies 28 = .ok (.goto (-26), 3) := by decide +kernel
theorem dX10_copies_31 : decode cX10_copies 31 = .ok (.return_, 1) := by decide +kernel
theorem dX10_records_0 : decode cX10_records 0 = .ok (.aload_n 0, 1) := by decide +kernel
theorem dX10_records_1 : decode cX10_records 1 = .ok (.getfield 56, 3) := by decide +kernel
theorem dX10_records_4 : decode cX10_records 4 = .ok (.ifCond .eq 4, 3) := by decide +kernel
theorem dX10_records_7 : decode cX10_records 7 = .ok (.return_, 1) := by decide +kernel
theorem dX10_records_8 : decode cX10_records 8 = .ok (.iconst 1, 1) := by decide +kernel
theorem dX10_records_9 : decode cX10_records 9 = .ok (.istore_n 1, 1) := by decide +kernel
theorem dX10_records_10 : decode cX10_records 10 = .ok (.iload_n 1, 1) := by decide +kernel
theorem dX10_records_11 : decode cX10_records 11 = .ok (.iconst 4, 1) := by decide +kernel
theorem dX10_records_12 : decode cX10_records 12 = .ok (.if_icmp .ge 33, 3) := by decide +kernel
theorem dX10_records_15 : decode cX10_records 15 = .ok (.aload_n 0, 1) := by decide +kernel
theorem dX10_records_16 : decode cX10_records 16 = .ok (.getfield 60, 3) := by decide +kernel
theorem dX10_records_19 : decode cX10_records 19 = .ok (.iconst 4, 1) := by decide +kernel
theorem dX10_records_20 : decode cX10_records 20 = .ok (.if_icmp .ne 25, 3) := by decide +kernel
theorem dX10_records_23 : decode cX10_records 23 = .ok (.aload_n 0, 1) := by decide +kernel
theorem dX10_records_24 : decode cX10_records 24 = .ok (.sipush 1725, 3) := by decide +kernel
theorem dX10_records_27 : decode cX10_records 27 = .ok (.iload_n 1, 1) := by decide +kernel
theorem dX10_records_28 : decode cX10_records 28 = .ok (.iconst 1, 1) := by decide +kernel
theorem dX10_records_29 : decode cX10_records 29 = .ok (.iadd, 1) := by decide +kernel
theorem dX10_records_30 : decode cX10_records 30 = .ok (.imul, 1) := by decide +kernel
theorem dX10_records_31 : decode cX10_records 31 = .ok (.sipush 1725, 3) := by decide +kernel
theorem dX10_records_34 : decode cX10_records 34 = .ok (.iload_n 1, 1) := by decide +kernel
theorem dX10_records_35 : decode cX10_records 35 = .ok (.imul, 1) := by decide +kernel
theorem dX10_records_36 : decode cX10_records 36 = .ok (.invokevirtual 64, 3) := by decide +kernel
theorem dX10_records_39 : decode cX10_records 39 = .ok (.iinc 1 1, 3) := by decide +kernel
theorem dX10_records_42 : decode cX10_records 42 = .ok (.goto (-32), 3) := by decide +kernel
theorem dX10_records_45 : decode cX10_records 45 = .ok (.aload_n 0, 1) := by decide +kernel
theorem dX10_records_46 : decode cX10_records 46 = .ok (.dup, 1) := by decide +kernel
theorem dX10_records_47 : decode cX10_records 47 = .ok (.getfield 60, 3) := by decide +kernel
theorem dX10_records_50 : decode cX10_records 50 = .ok (.aload_n 0, 1) := by decide +kernel
theorem dX10_records_51 : decode cX10_records 51 = .ok (.getfield 60, 3) := by decide +kernel
theorem dX10_records_54 : decode cX10_records 54 = .ok (.iconst 4, 1) := by decide +kernel
theorem dX10_records_55 : decode cX10_records 55 = .ok (.if_icmp .ne 7, 3) := by decide +kernel
theorem dX10_records_58 : decode cX10_records 58 = .ok (.iconst 1, 1) := by decide +kernel
theorem dX10_records_59 : decode cX10_records 59 = .ok (.goto 4, 3) := by decide +kernel
theorem dX10_records_62 : decode cX10_records 62 = .ok (.iconst 0, 1) := by decide +kernel
theorem dX10_records_63 : decode cX10_records 63 = .ok (.isub, 1) := by decide +kernel
theorem dX10_records_64 : decode cX10_records 64 = .ok (.putfield 60, 3) := by decide +kernel
theorem dX10_records_67 : decode cX10_records 67 = .ok (.aload_n 0, 1) := by decide +kernel
theorem dX10_records_68 : decode cX10_records 68 = .ok (.dup, 1) := by decide +kernel
theorem dX10_records_69 : decode cX10_records 69 = .ok (.getfield 60, 3) := by decide +kernel
theorem dX10_records_72 : decode cX10_records 72 = .ok (.iconst 1, 1) := by decide +kernel
theorem dX10_records_73 : decode cX10_records 73 = .ok (.iadd, 1) := by decide +kernel
theorem dX10_records_74 : decode cX10_records 74 = .ok (.putfield 60, 3) := by decide +kernel
theorem dX10_records_77 : decode cX10_records 77 = .ok (.aload_n 0, 1) := by decide +kernel
theorem dX10_records_78 : decode cX10_records 78 = .ok (.iconst 0, 1) := by decide +kernel
theorem dX10_records_79 : decode cX10_records 79 = .ok (.sipush 1725, 3) := by decide +kernel
theorem dX10_records_82 : decode cX10_records 82 = .ok (.aload_n 0, 1) := by decide +kernel
theorem dX10_records_83 : decode cX10_records 83 = .ok (.getfield 60, 3) := by decide +kernel
theorem dX10_records_86 : decode cX10_records 86 = .ok (.imul, 1) := by decide +kernel
theorem dX10_records_87 : decode cX10_records 87 = .ok (.invokevirtual 64, 3) := by decide +kernel
theorem dX10_records_90 : decode cX10_records 90 = .ok (.return_, 1) := by decide +kernel
theorem dX10_side_0 : decode cX10_side 0 = .ok (.aload_n 0, 1) := by decide +kernel
theorem dX10_side_1 : decode cX10_side 1 = .ok (.getfield 7, 3) := by decide +kernel
theorem dX10_side_4 : decode cX10_side 4 = .ok (.iconst 3, 1) := by decide +kernel
theorem dX10_side_5 : decode cX10_side 5 = .ok (.iconst 4, 1) := by decide +kernel
theorem dX10_side_6 : decode cX10_side 6 = .ok (.iload_n 1, 1) := by decide +kernel
theorem dX10_side_7 : decode cX10_side 7 = .ok (.imul, 1) := by decide +kernel
theorem dX10_side_8 : decode cX10_side 8 = .ok (.iadd, 1) := by decide +kernel
theorem dX10_side_9 : decode cX10_side 9 = .ok (.iload_n 2, 1) := by decide +kernel
theorem dX10_side_10 : decode cX10_side 10 = .ok (.iadd, 1) := by decide +kernel
theorem dX10_side_11 : decode cX10_side 11 = .ok (.iaload, 1) := by decide +kernel
theorem dX10_side_12 : decode cX10_side 12 = .ok (.ireturn, 1) := by decide +kernel
theorem dX10_isBox_0 : decode cX10_isBox 0 = .ok (.iload_n 1, 1) := by decide +kernel
theorem dX10_isBox_1 : decode cX10_isBox 1 = .ok (.iconst 0, 1) := by decide +kernel
theorem dX10_isBox_2 : decode cX10_isBox 2 = .ok (.aload_n 0, 1) := by decide +kernel
theorem dX10_isBox_3 : decode cX10_isBox 3 = .ok (.getfield 7, 3) := by decide +kernel
theorem dX10_isBox_6 : decode cX10_isBox 6 = .ok (.iconst 0, 1) := by decide +kernel
theorem dX10_isBox_7 : decode cX10_isBox 7 = .ok (.iaload, 1) := by decide +kernel
theorem dX10_isBox_8 : decode cX10_isBox 8 = .ok (.iconst 1, 1) := by decide +kernel
theorem dX10_isBox_9 : decode cX10_isBox 9 = .ok (.isub, 1) := by decide +kernel
theorem dX10_isBox_10 : decode cX10_isBox 10 = .ok (.invokestatic 68, 3) := by decide +kernel
theorem dX10_isBox_13 : decode cX10_isBox 13 = .ok (.ireturn, 1) := by decide +kernel
theorem dX10_isRange_0 : decode cX10_isRange 0 = .ok (.iload_n 0, 1) := by decide +kernel
theorem dX10_isRange_1 : decode cX10_isRange 1 = .ok (.iconst 2, 1) := by decide +kernel
theorem dX10_isRange_2 : decode cX10_isRange 2 = .ok (.if_icmp .lt 18, 3) := by decide +kernel
theorem dX10_isRange_5 : decode cX10_isRange 5 = .ok (.iload_n 1, 1) := by decide +kernel
theorem dX10_isRange_6 : decode cX10_isRange 6 = .ok (.iload_n 0, 1) := by decide +kernel
theorem dX10_isRange_7 : decode cX10_isRange 7 = .ok (.if_icmp .le 13, 3) := by decide +kernel
theorem dX10_isRange_10 : decode cX10_isRange 10 = .ok (.iload_n 1, 1) := by decide +kernel
theorem dX10_isRange_11 : decode cX10_isRange 11 = .ok (.bipush 97, 2) := by decide +kernel
theorem dX10_isRange_13 : decode cX10_isRange 13 = .ok (.if_icmp .gt 7, 3) := by decide +kernel
theorem dX10_isRange_16 : decode cX10_isRange 16 = .ok (.iconst 1, 1) := by decide +kernel
theorem dX10_isRange_17 : decode cX10_isRange 17 = .ok (.goto 4, 3) := by decide +kernel
theorem dX10_isRange_20 : decode cX10_isRange 20 = .ok (.iconst 0, 1) := by decide +kernel
theorem dX10_isRange_21 : decode cX10_isRange 21 = .ok (.ireturn, 1) := by decide +kernel
theorem dX10_isNear_0 : decode cX10_isNear 0 = .ok (.iconst 0, 1) := by decide +kernel
theorem dX10_isNear_1 : decode cX10_isNear 1 = .ok (.istore 6, 2) := by decide +kernel
theorem dX10_isNear_3 : decode cX10_isNear 3 = .ok (.iconst 0, 1) := by decide +kernel
theorem dX10_isNear_4 : decode cX10_isNear 4 = .ok (.istore 7, 2) := by decide +kernel
theorem dX10_isNear_6 : decode cX10_isNear 6 = .ok (.iload 7, 2) := by decide +kernel
theorem dX10_isNear_8 : decode cX10_isNear 8 = .ok (.aload_n 0, 1) := by decide +kernel
theorem dX10_isNear_9 : decode cX10_isNear 9 = .ok (.getfield 7, 3) := by decide +kernel
theorem dX10_isNear_12 : decode cX10_isNear 12 = .ok (.iconst 0, 1) := by decide +kernel
theorem dX10_isNear_13 : decode cX10_isNear 13 = .ok (.iaload, 1) := by decide +kernel
theorem dX10_isNear_14 : decode cX10_isNear 14 = .ok (.if_icmp .ge 93, 3) := by decide +kernel
theorem dX10_isNear_17 : decode cX10_isNear 17 = .ok (.iload_n 1, 1) := by decide +kernel
theorem dX10_isNear_18 : decode cX10_isNear 18 = .ok (.aload_n 0, 1) := by decide +kernel
theorem dX10_isNear_19 : decode cX10_isNear 19 = .ok (.iload 7, 2) := by decide +kernel
theorem dX10_isNear_21 : decode cX10_isNear 21 = .ok (.iconst 2, 1) := by decide +kernel
theorem dX10_isNear_22 : decode cX10_isNear 22 = .ok (.invokevirtual 72, 3) := by decide +kernel
theorem dX10_isNear_25 : decode cX10_isNear 25 = .ok (.iconst 2, 1) := by decide +kernel
theorem dX10_isNear_26 : decode cX10_isNear 26 = .ok (.iadd, 1) := by decide +kernel
theorem dX10_isNear_27 : decode cX10_isNear 27 = .ok (.if_icmp .ge 43, 3) := by decide +kernel
theorem dX10_isNear_30 : decode cX10_isNear 30 = .ok (.aload_n 0, 1) := by decide +kernel
theorem dX10_isNear_31 : decode cX10_isNear 31 = .ok (.iload 7, 2) := by decide +kernel
theorem dX10_isNear_33 : decode cX10_isNear 33 = .ok (.iconst 0, 1) := by decide +kernel
theorem dX10_isNear_34 : decode cX10_isNear 34 = .ok (.invokevirtual 72, 3) := by decide +kernel
theorem dX10_isNear_37 : decode cX10_isNear 37 = .ok (.iload_n 3, 1) := by decide +kernel
theorem dX10_isNear_38 : decode cX10_isNear 38 = .ok (.iconst 2, 1) := by decide +kernel
theorem dX10_isNear_39 : decode cX10_isNear 39 = .ok (.iadd, 1) := by decide +kernel
theorem dX10_isNear_40 : decode cX10_isNear 40 = .ok (.if_icmp .ge 30, 3) := by decide +kernel
theorem dX10_isNear_43 : decode cX10_isNear 43 = .ok (.iload_n 2, 1) := by decide +kernel
theorem dX10_isNear_44 : decode cX10_isNear 44 = .ok (.aload_n 0, 1) := by decide +kernel
theorem dX10_isNear_45 : decode cX10_isNear 45 = .ok (.iload 7, 2) := by decide +kernel
theorem dX10_isNear_47 : decode cX10_isNear 47 = .ok (.iconst 3, 1) := by decide +kernel
theorem dX10_isNear_48 : decode cX10_isNear 48 = .ok (.invokevirtual 72, 3) := by decide +kernel
theorem dX10_isNear_51 : decode cX10_isNear 51 = .ok (.iconst 2, 1) := by decide +kernel
theorem dX10_isNear_52 : decode cX10_isNear 52 = .ok (.iadd, 1) := by decide +kernel
theorem dX10_isNear_53 : decode cX10_isNear 53 = .ok (.if_icmp .ge 17, 3) := by decide +kernel
theorem dX10_isNear_56 : decode cX10_isNear 56 = .ok (.aload_n 0, 1) := by decide +kernel
theorem dX10_isNear_57 : decode cX10_isNear 57 = .ok (.iload 7, 2) := by decide +kernel
theorem dX10_isNear_59 : decode cX10_isNear 59 = .ok (.iconst 1, 1) := by decide +kernel
theorem dX10_isNear_60 : decode cX10_isNear 60 = .ok (.invokevirtual 72, 3) := by decide +kernel
theorem dX10_isNear_63 : decode cX10_isNear 63 = .ok (.iload 4, 2) := by decide +kernel
theorem dX10_isNear_65 : decode cX10_isNear 65 = .ok (.iconst 2, 1) := by decide +kernel
theorem dX10_isNear_66 : decode cX10_isNear 66 = .ok (.iadd, 1) := by decide +kernel
theorem dX10_isNear_67 : decode cX10_isNear 67 = .ok (.if_icmp .lt 7, 3) := by decide +kernel
theorem dX10_isNear_70 : decode cX10_isNear 70 = .ok (.iconst 1, 1) := by decide +kernel
theorem dX10_isNear_71 : decode cX10_isNear 71 = .ok (.goto 4, 3) := by decide +kernel
theorem dX10_isNear_74 : decode cX10_isNear 74 = .ok (.iconst 0, 1) := by decide +kernel
theorem dX10_isNear_75 : decode cX10_isNear 75 = .ok (.istore 8, 2) := by decide +kernel
theorem dX10_isNear_77 : decode cX10_isNear 77 = .ok (.iload 6, 2) := by decide +kernel
theorem dX10_isNear_79 : decode cX10_isNear 79 = .ok (.ifCond .ne 15, 3) := by decide +kernel
theorem dX10_isNear_82 : decode cX10_isNear 82 = .ok (.iload 7, 2) := by decide +kernel
theorem dX10_isNear_84 : decode cX10_isNear 84 = .ok (.iload 5, 2) := by decide +kernel
theorem dX10_isNear_86 : decode cX10_isNear 86 = .ok (.if_icmp .eq 12, 3) := by decide +kernel
theorem dX10_isNear_89 : decode cX10_isNear 89 = .ok (.iload 8, 2) := by decide +kernel
theorem dX10_isNear_91 : decode cX10_isNear 91 = .ok (.ifCond .ne 7, 3) := by decide +kernel
theorem dX10_isNear_94 : decode cX10_isNear 94 = .ok (.iconst 1, 1) := by decide +kernel
theorem dX10_isNear_95 : decode cX10_isNear 95 = .ok (.goto 4, 3) := by decide +kernel
theorem dX10_isNear_98 : decode cX10_isNear 98 = .ok (.iconst 0, 1) := by decide +kernel
theorem dX10_isNear_99 : decode cX10_isNear 99 = .ok (.istore 6, 2) := by decide +kernel
theorem dX10_isNear_101 : decode cX10_isNear 101 = .ok (.iinc 7 1, 3) := by decide +kernel
theorem dX10_isNear_104 : decode cX10_isNear 104 = .ok (.goto (-98), 3) := by decide +kernel
theorem dX10_isNear_107 : decode cX10_isNear 107 = .ok (.iload 6, 2) := by decide +kernel
theorem dX10_isNear_109 : decode cX10_isNear 109 = .ok (.ireturn, 1) := by decide +kernel
theorem dX10_lays_0 : decode cX10_lays 0 = .ok (.aload_n 0, 1) := by decide +kernel
theorem dX10_lays_1 : decode cX10_lays 1 = .ok (.getfield 7, 3) := by decide +kernel
theorem dX10_lays_4 : decode cX10_lays 4 = .ok (.iconst 3, 1) := by decide +kernel
theorem dX10_lays_5 : decode cX10_lays 5 = .ok (.iconst 4, 1) := by decide +kernel
theorem dX10_lays_6 : decode cX10_lays 6 = .ok (.iload_n 1, 1) := by decide +kernel
theorem dX10_lays_7 : decode cX10_lays 7 = .ok (.imul, 1) := by decide +kernel
theorem dX10_lays_8 : decode cX10_lays 8 = .ok (.iadd, 1) := by decide +kernel
theorem dX10_lays_9 : decode cX10_lays 9 = .ok (.iload_n 2, 1) := by decide +kernel
theorem dX10_lays_10 : decode cX10_lays 10 = .ok (.iastore, 1) := by decide +kernel
theorem dX10_lays_11 : decode cX10_lays 11 = .ok (.aload_n 0, 1) := by decide +kernel
theorem dX10_lays_12 : decode cX10_lays 12 = .ok (.getfield 7, 3) := by decide +kernel
theorem dX10_lays_15 : decode cX10_lays 15 = .ok (.iconst 3, 1) := by decide +kernel
theorem dX10_lays_16 : decode cX10_lays 16 = .ok (.iconst 4, 1) := by decide +kernel
theorem dX10_lays_17 : decode cX10_lays 17 = .ok (.iload_n 1, 1) := by decide +kernel
theorem dX10_lays_18 : decode cX10_lays 18 = .ok (.imul, 1) := by decide +kernel
theorem dX10_lays_19 : decode cX10_lays 19 = .ok (.iadd, 1) := by decide +kernel
theorem dX10_lays_20 : decode cX10_lays 20 = .ok (.iconst 1, 1) := by decide +kernel
theorem dX10_lays_21 : decode cX10_lays 21 = .ok (.iadd, 1) := by decide +kernel
theorem dX10_lays_22 : decode cX10_lays 22 = .ok (.iload_n 3, 1) := by decide +kernel
theorem dX10_lays_23 : decode cX10_lays 23 = .ok (.iastore, 1) := by decide +kernel
theorem dX10_lays_24 : decode cX10_lays 24 = .ok (.aload_n 0, 1) := by decide +kernel
theorem dX10_lays_25 : decode cX10_lays 25 = .ok (.getfield 7, 3) := by decide +kernel
theorem dX10_lays_28 : decode cX10_lays 28 = .ok (.iconst 3, 1) := by decide +kernel
theorem dX10_lays_29 : decode cX10_lays 29 = .ok (.iconst 4, 1) := by decide +kernel
theorem dX10_lays_30 : decode cX10_lays 30 = .ok (.iload_n 1, 1) := by decide +kernel
theorem dX10_lays_31 : decode cX10_lays 31 = .ok (.imul, 1) := by decide +kernel
theorem dX10_lays_32 : decode cX10_lays 32 = .ok (.iadd, 1) := by decide +kernel
theorem dX10_lays_33 : decode cX10_lays 33 = .ok (.iconst 2, 1) := by decide +kernel
theorem dX10_lays_34 : decode cX10_lays 34 = .ok (.iadd, 1) := by decide +kernel
theorem dX10_lays_35 : decode cX10_lays 35 = .ok (.iload 4, 2) := by decide +kernel
theorem dX10_lays_37 : decode cX10_lays 37 = .ok (.iastore, 1) := by decide +kernel
theorem dX10_lays_38 : decode cX10_lays 38 = .ok (.aload_n 0, 1) := by decide +kernel
theorem dX10_lays_39 : decode cX10_lays 39 = .ok (.getfield 7, 3) := by decide +kernel
theorem dX10_lays_42 : decode cX10_lays 42 = .ok (.iconst 3, 1) := by decide +kernel
theorem dX10_lays_43 : decode cX10_lays 43 = .ok (.iconst 4, 1) := by decide +kernel
theorem dX10_lays_44 : decode cX10_lays 44 = .ok (.iload_n 1, 1) := by decide +kernel
theorem dX10_lays_45 : decode cX10_lays 45 = .ok (.imul, 1) := by decide +kernel
theorem dX10_lays_46 : decode cX10_lays 46 = .ok (.iadd, 1) := by decide +kernel
theorem dX10_lays_47 : decode cX10_lays 47 = .ok (.iconst 3, 1) := by decide +kernel
theorem dX10_lays_48 : decode cX10_lays 48 = .ok (.iadd, 1) := by decide +kernel
theorem dX10_lays_49 : decode cX10_lays 49 = .ok (.iload 5, 2) := by decide +kernel
theorem dX10_lays_51 : decode cX10_lays 51 = .ok (.iastore, 1) := by decide +kernel
theorem dX10_lays_52 : decode cX10_lays 52 = .ok (.return_, 1) := by decide +kernel
theorem dX10_addBox_0 : decode cX10_addBox 0 = .ok (.iload_n 1, 1) := by decide +kernel
theorem dX10_addBox_1 : decode cX10_addBox 1 = .ok (.iload_n 3, 1) := by decide +kernel
theorem dX10_addBox_2 : decode cX10_addBox 2 = .ok (.invokestatic 76, 3) := by decide +kernel
theorem dX10_addBox_5 : decode cX10_addBox 5 = .ok (.ifCond .eq 12, 3) := by decide +kernel
theorem dX10_addBox_8 : decode cX10_addBox 8 = .ok (.iload_n 2, 1) := by decide +kernel
theorem dX10_addBox_9 : decode cX10_addBox 9 = .ok (.iload 4, 2) := by decide +kernel
theorem dX10_addBox_11 : decode cX10_addBox 11 = .ok (.invokestatic 76, 3) := by decide +kernel
theorem dX10_addBox_14 : decode cX10_addBox 14 = .ok (.ifCond .ne 7, 3) := by decide +kernel
theorem dX10_addBox_17 : decode cX10_addBox 17 = .ok (.sipush (-1002), 3) := by decide +kernel
theorem dX10_addBox_20 : decode cX10_addBox 20 = .ok (.ireturn, 1) := by decide +kernel
theorem dX10_addBox_21 : decode cX10_addBox 21 = .ok (.aload_n 0, 1) := by decide +kernel
theorem dX10_addBox_22 : decode cX10_addBox 22 = .ok (.iload_n 1, 1) := by decide +kernel
theorem dX10_addBox_23 : decode cX10_addBox 23 = .ok (.iload_n 2, 1) := by decide +kernel
theorem dX10_addBox_24 : decode cX10_addBox 24 = .ok (.iload_n 3, 1) := by decide +kernel
theorem dX10_addBox_25 : decode cX10_addBox 25 = .ok (.iload 4, 2) := by decide +kernel
theorem dX10_addBox_27 : decode cX10_addBox 27 = .ok (.sipush (-1000), 3) := by decide +kernel
theorem dX10_addBox_30 : decode cX10_addBox 30 = .ok (.invokevirtual 80, 3) := by decide +kernel
theorem dX10_addBox_33 : decode cX10_addBox 33 = .ok (.ifCond .eq 7, 3) := by decide +kernel
theorem dX10_addBox_36 : decode cX10_addBox 36 = .ok (.sipush (-1003), 3) := by decide +kernel
theorem dX10_addBox_39 : decode cX10_addBox 39 = .ok (.ireturn, 1) := by decide +kernel
theorem dX10_addBox_40 : decode cX10_addBox 40 = .ok (.aload_n 0, 1) := by decide +kernel
theorem dX10_addBox_41 : decode cX10_addBox 41 = .ok (.getfield 7, 3) := by decide +kernel
theorem dX10_addBox_44 : decode cX10_addBox 44 = .ok (.iconst 0, 1) := by decide +kernel
theorem dX10_addBox_45 : decode cX10_addBox 45 = .ok (.iaload, 1) := by decide +kernel
theorem dX10_addBox_46 : decode cX10_addBox 46 = .ok (.bipush 8, 2) := by decide +kernel
theorem dX10_addBox_48 : decode cX10_addBox 48 = .ok (.if_icmp .ne 7, 3) := by decide +kernel
theorem dX10_addBox_51 : decode cX10_addBox 51 = .ok (.sipush (-1004), 3) := by decide +kernel
theorem dX10_addBox_54 : decode cX10_addBox 54 = .ok (.ireturn, 1) := by decide +kernel
theorem dX10_addBox_55 : decode cX10_addBox 55 = .ok (.aload_n 0, 1) := by decide +kernel
theorem dX10_addBox_56 : decode cX10_addBox 56 = .ok (.invokevirtual 84, 3) := by decide +kernel
theorem dX10_addBox_59 : decode cX10_addBox 59 = .ok (.aload_n 0, 1) := by decide +kernel
theorem dX10_addBox_60 : decode cX10_addBox 60 = .ok (.aload_n 0, 1) := by decide +kernel
theorem dX10_addBox_61 : decode cX10_addBox 61 = .ok (.getfield 7, 3) := by decide +kernel
theorem dX10_addBox_64 : decode cX10_addBox 64 = .ok (.iconst 0, 1) := by decide +kernel
theorem dX10_addBox_65 : decode cX10_addBox 65 = .ok (.iaload, 1) := by decide +kernel
theorem dX10_addBox_66 : decode cX10_addBox 66 = .ok (.iload_n 1, 1) := by decide +kernel
theorem dX10_addBox_67 : decode cX10_addBox 67 = .ok (.iload_n 2, 1) := by decide +kernel
theorem dX10_addBox_68 : decode cX10_addBox 68 = .ok (.iload_n 3, 1) := by decide +kernel
theorem dX10_addBox_69 : decode cX10_addBox 69 = .ok (.iload 4, 2) := by decide +kernel
theorem dX10_addBox_71 : decode cX10_addBox 71 = .ok (.invokevirtual 87, 3) := by decide +kernel
theorem dX10_addBox_74 : decode cX10_addBox 74 = .ok (.aload_n 0, 1) := by decide +kernel
theorem dX10_addBox_75 : decode cX10_addBox 75 = .ok (.getfield 7, 3) := by decide +kernel
theorem dX10_addBox_78 : decode cX10_addBox 78 = .ok (.iconst 0, 1) := by decide +kernel
theorem dX10_addBox_79 : decode cX10_addBox 79 = .ok (.dup2, 1) := by decide +kernel
theorem dX10_addBox_80 : decode cX10_addBox 80 = .ok (.iaload, 1) := by decide +kernel
theorem dX10_addBox_81 : decode cX10_addBox 81 = .ok (.iconst 1, 1) := by decide +kernel
theorem dX10_addBox_82 : decode cX10_addBox 82 = .ok (.iadd, 1) := by decide +kernel
theorem dX10_addBox_83 : decode cX10_addBox 83 = .ok (.iastore, 1) := by decide +kernel
theorem dX10_addBox_84 : decode cX10_addBox 84 = .ok (.aload_n 0, 1) := by decide +kernel
theorem dX10_addBox_85 : decode cX10_addBox 85 = .ok (.getfield 7, 3) := by decide +kernel
theorem dX10_addBox_88 : decode cX10_addBox 88 = .ok (.iconst 0, 1) := by decide +kernel
theorem dX10_addBox_89 : decode cX10_addBox 89 = .ok (.iaload, 1) := by decide +kernel
theorem dX10_addBox_90 : decode cX10_addBox 90 = .ok (.iconst 1, 1) := by decide +kernel
theorem dX10_addBox_91 : decode cX10_addBox 91 = .ok (.isub, 1) := by decide +kernel
theorem dX10_addBox_92 : decode cX10_addBox 92 = .ok (.ireturn, 1) := by decide +kernel
theorem dX10_moveBox_0 : decode cX10_moveBox 0 = .ok (.aload_n 0, 1) := by decide +kernel
theorem dX10_moveBox_1 : decode cX10_moveBox 1 = .ok (.iload_n 1, 1) := by decide +kernel
theorem dX10_moveBox_2 : decode cX10_moveBox 2 = .ok (.invokevirtual 91, 3) := by decide +kernel
theorem dX10_moveBox_5 : decode cX10_moveBox 5 = .ok (.ifCond .ne 7, 3) := by decide +kernel
theorem dX10_moveBox_8 : decode cX10_moveBox 8 = .ok (.sipush (-1001), 3) := by decide +kernel
theorem dX10_moveBox_11 : decode cX10_moveBox 11 = .ok (.ireturn, 1) := by decide +kernel
theorem dX10_moveBox_12 : decode cX10_moveBox 12 = .ok (.iload_n 2, 1) := by decide +kernel
theorem dX10_moveBox_13 : decode cX10_moveBox 13 = .ok (.bipush (-99), 2) := by decide +kernel
theorem dX10_moveBox_15 : decode cX10_moveBox 15 = .ok (.bipush 99, 2) := by decide +kernel
theorem dX10_moveBox_17 : decode cX10_moveBox 17 = .ok (.invokestatic 68, 3) := by decide +kernel
theorem dX10_moveBox_20 : decode cX10_moveBox 20 = .ok (.ifCond .eq 14, 3) := by decide +kernel
theorem dX10_moveBox_23 : decode cX10_moveBox 23 = .ok (.iload_n 3, 1) := by decide +kernel
theorem dX10_moveBox_24 : decode cX10_moveBox 24 = .ok (.bipush (-99), 2) := by decide +kernel
theorem dX10_moveBox_26 : decode cX10_moveBox 26 = .ok (.bipush 99, 2) := by decide +kernel
theorem dX10_moveBox_28 : decode cX10_moveBox 28 = .ok (.invokestatic 68, 3) := by decide +kernel
theorem dX10_moveBox_31 : decode cX10_moveBox 31 = .ok (.ifCond .ne 7, 3) := by decide +kernel
theorem dX10_moveBox_34 : decode cX10_moveBox 34 = .ok (.sipush (-1002), 3) := by decide +kernel
theorem dX10_moveBox_37 : decode cX10_moveBox 37 = .ok (.ireturn, 1) := by decide +kernel
theorem dX10_moveBox_38 : decode cX10_moveBox 38 = .ok (.aload_n 0, 1) := by decide +kernel
theorem dX10_moveBox_39 : decode cX10_moveBox 39 = .ok (.iload_n 1, 1) := by decide +kernel
theorem dX10_moveBox_40 : decode cX10_moveBox 40 = .ok (.iconst 0, 1) := by decide +kernel
theorem dX10_moveBox_41 : decode cX10_moveBox 41 = .ok (.invokevirtual 72, 3) := by decide +kernel
theorem dX10_moveBox_44 : decode cX10_moveBox 44 = .ok (.iload_n 2, 1) := by decide +kernel
theorem dX10_moveBox_45 : decode cX10_moveBox 45 = .ok (.iadd, 1) := by decide +kernel
theorem dX10_moveBox_46 : decode cX10_moveBox 46 = .ok (.istore 4, 2) := by decide +kernel
theorem dX10_moveBox_48 : decode cX10_moveBox 48 = .ok (.aload_n 0, 1) := by decide +kernel
theorem dX10_moveBox_49 : decode cX10_moveBox 49 = .ok (.iload_n 1, 1) := by decide +kernel
theorem dX10_moveBox_50 : decode cX10_moveBox 50 = .ok (.iconst 1, 1) := by decide +kernel
theorem dX10_moveBox_51 : decode cX10_moveBox 51 = .ok (.invokevirtual 72, 3) := by decide +kernel
theorem dX10_moveBox_54 : decode cX10_moveBox 54 = .ok (.iload_n 3, 1) := by decide +kernel
theorem dX10_moveBox_55 : decode cX10_moveBox 55 = .ok (.iadd, 1) := by decide +kernel
theorem dX10_moveBox_56 : decode cX10_moveBox 56 = .ok (.istore 5, 2) := by decide +kernel
theorem dX10_moveBox_58 : decode cX10_moveBox 58 = .ok (.aload_n 0, 1) := by decide +kernel
theorem dX10_moveBox_59 : decode cX10_moveBox 59 = .ok (.iload_n 1, 1) := by decide +kernel
theorem dX10_moveBox_60 : decode cX10_moveBox 60 = .ok (.iconst 2, 1) := by decide +kernel
theorem dX10_moveBox_61 : decode cX10_moveBox 61 = .ok (.invokevirtual 72, 3) := by decide +kernel
theorem dX10_moveBox_64 : decode cX10_moveBox 64 = .ok (.iload_n 2, 1) := by decide +kernel
theorem dX10_moveBox_65 : decode cX10_moveBox 65 = .ok (.iadd, 1) := by decide +kernel
theorem dX10_moveBox_66 : decode cX10_moveBox 66 = .ok (.istore 6, 2) := by decide +kernel
theorem dX10_moveBox_68 : decode cX10_moveBox 68 = .ok (.aload_n 0, 1) := by decide +kernel
theorem dX10_moveBox_69 : decode cX10_moveBox 69 = .ok (.iload_n 1, 1) := by decide +kernel
theorem dX10_moveBox_70 : decode cX10_moveBox 70 = .ok (.iconst 3, 1) := by decide +kernel
theorem dX10_moveBox_71 : decode cX10_moveBox 71 = .ok (.invokevirtual 72, 3) := by decide +kernel
theorem dX10_moveBox_74 : decode cX10_moveBox 74 = .ok (.iload_n 3, 1) := by decide +kernel
theorem dX10_moveBox_75 : decode cX10_moveBox 75 = .ok (.iadd, 1) := by decide +kernel
theorem dX10_moveBox_76 : decode cX10_moveBox 76 = .ok (.istore 7, 2) := by decide +kernel
theorem dX10_moveBox_78 : decode cX10_moveBox 78 = .ok (.iload 4, 2) := by decide +kernel
theorem dX10_moveBox_80 : decode cX10_moveBox 80 = .ok (.iload 6, 2) := by decide +kernel
theorem dX10_moveBox_82 : decode cX10_moveBox 82 = .ok (.invokestatic 76, 3) := by decide +kernel
theorem dX10_moveBox_85 : decode cX10_moveBox 85 = .ok (.ifCond .eq 13, 3) := by decide +kernel
theorem dX10_moveBox_88 : decode cX10_moveBox 88 = .ok (.iload 5, 2) := by decide +kernel
theorem dX10_moveBox_90 : decode cX10_moveBox 90 = .ok (.iload 7, 2) := by decide +kernel
theorem dX10_moveBox_92 : decode cX10_moveBox 92 = .ok (.invokestatic 76, 3) := by decide +kernel
theorem dX10_moveBox_95 : decode cX10_moveBox 95 = .ok (.ifCond .ne 7, 3) := by decide +kernel
theorem dX10_moveBox_98 : decode cX10_moveBox 98 = .ok (.sipush (-1002), 3) := by decide +kernel
theorem dX10_moveBox_101 : decode cX10_moveBox 101 = .ok (.ireturn, 1) := by decide +kernel
theorem dX10_moveBox_102 : decode cX10_moveBox 102 = .ok (.aload_n 0, 1) := by decide +kernel
theorem dX10_moveBox_103 : decode cX10_moveBox 103 = .ok (.iload 4, 2) := by decide +kernel
theorem dX10_moveBox_105 : decode cX10_moveBox 105 = .ok (.iload 5, 2) := by decide +kernel
theorem dX10_moveBox_107 : decode cX10_moveBox 107 = .ok (.iload 6, 2) := by decide +kernel
theorem dX10_moveBox_109 : decode cX10_moveBox 109 = .ok (.iload 7, 2) := by decide +kernel
theorem dX10_moveBox_111 : decode cX10_moveBox 111 = .ok (.iload_n 1, 1) := by decide +kernel
theorem dX10_moveBox_112 : decode cX10_moveBox 112 = .ok (.invokevirtual 80, 3) := by decide +kernel
theorem dX10_moveBox_115 : decode cX10_moveBox 115 = .ok (.ifCond .eq 7, 3) := by decide +kernel
theorem dX10_moveBox_118 : decode cX10_moveBox 118 = .ok (.sipush (-1003), 3) := by decide +kernel
theorem dX10_moveBox_121 : decode cX10_moveBox 121 = .ok (.ireturn, 1) := by decide +kernel
theorem dX10_moveBox_122 : decode cX10_moveBox 122 = .ok (.aload_n 0, 1) := by decide +kernel
theorem dX10_moveBox_123 : decode cX10_moveBox 123 = .ok (.invokevirtual 84, 3) := by decide +kernel
theorem dX10_moveBox_126 : decode cX10_moveBox 126 = .ok (.aload_n 0, 1) := by decide +kernel
theorem dX10_moveBox_127 : decode cX10_moveBox 127 = .ok (.iload_n 1, 1) := by decide +kernel
theorem dX10_moveBox_128 : decode cX10_moveBox 128 = .ok (.iload 4, 2) := by decide +kernel
theorem dX10_moveBox_130 : decode cX10_moveBox 130 = .ok (.iload 5, 2) := by decide +kernel
theorem dX10_moveBox_132 : decode cX10_moveBox 132 = .ok (.iload 6, 2) := by decide +kernel
theorem dX10_moveBox_134 : decode cX10_moveBox 134 = .ok (.iload 7, 2) := by decide +kernel
theorem dX10_moveBox_136 : decode cX10_moveBox 136 = .ok (.invokevirtual 87, 3) := by decide +kernel
theorem dX10_moveBox_139 : decode cX10_moveBox 139 = .ok (.iconst 0, 1) := by decide +kernel
theorem dX10_moveBox_140 : decode cX10_moveBox 140 = .ok (.istore 8, 2) := by decide +kernel
theorem dX10_moveBox_142 : decode cX10_moveBox 142 = .ok (.iconst 0, 1) := by decide +kernel
theorem dX10_moveBox_143 : decode cX10_moveBox 143 = .ok (.istore 9, 2) := by decide +kernel
theorem dX10_moveBox_145 : decode cX10_moveBox 145 = .ok (.iload 9, 2) := by decide +kernel
theorem dX10_moveBox_147 : decode cX10_moveBox 147 = .ok (.aload_n 0, 1) := by decide +kernel
theorem dX10_moveBox_148 : decode cX10_moveBox 148 = .ok (.getfield 7, 3) := by decide +kernel
theorem dX10_moveBox_151 : decode cX10_moveBox 151 = .ok (.iconst 1, 1) := by decide +kernel
theorem dX10_moveBox_152 : decode cX10_moveBox 152 = .ok (.iaload, 1) := by decide +kernel
theorem dX10_moveBox_153 : decode cX10_moveBox 153 = .ok (.if_icmp .ge 40, 3) := by decide +kernel
theorem dX10_moveBox_156 : decode cX10_moveBox 156 = .ok (.iload 8, 2) := by decide +kernel
theorem dX10_moveBox_158 : decode cX10_moveBox 158 = .ok (.aload_n 0, 1) := by decide +kernel
theorem dX10_moveBox_159 : decode cX10_moveBox 159 = .ok (.iload 9, 2) := by decide +kernel
theorem dX10_moveBox_161 : decode cX10_moveBox 161 = .ok (.bipush 6, 2) := by decide +kernel
theorem dX10_moveBox_163 : decode cX10_moveBox 163 = .ok (.invokevirtual 95, 3) := by decide +kernel
theorem dX10_moveBox_166 : decode cX10_moveBox 166 = .ok (.iconst 1, 1) := by decide +kernel
theorem dX10_moveBox_167 : decode cX10_moveBox 167 = .ok (.if_icmp .ne 16, 3) := by decide +kernel
theorem dX10_moveBox_170 : decode cX10_moveBox 170 = .ok (.aload_n 0, 1) := by decide +kernel
theorem dX10_moveBox_171 : decode cX10_moveBox 171 = .ok (.iload 9, 2) := by decide +kernel
theorem dX10_moveBox_173 : decode cX10_moveBox 173 = .ok (.invokevirtual 98, 3) := by decide +kernel
theorem dX10_moveBox_176 : decode cX10_moveBox 176 = .ok (.ifCond .eq 7, 3) := by decide +kernel
theorem dX10_moveBox_179 : decode cX10_moveBox 179 = .ok (.iconst 1, 1) := by decide +kernel
theorem dX10_moveBox_180 : decode cX10_moveBox 180 = .ok (.goto 4, 3) := by decide +kernel
theorem dX10_moveBox_183 : decode cX10_moveBox 183 = .ok (.iconst 0, 1) := by decide +kernel
theorem dX10_moveBox_184 : decode cX10_moveBox 184 = .ok (.iadd, 1) := by decide +kernel
theorem dX10_moveBox_185 : decode cX10_moveBox 185 = .ok (.istore 8, 2) := by decide +kernel
theorem dX10_moveBox_187 : decode cX10_moveBox 187 = .ok (.iinc 9 1, 3) := by decide +kernel
theorem dX10_moveBox_190 : decode cX10_moveBox 190 = .ok (.goto (-45), 3) := by decide +kernel
theorem dX10_moveBox_193 : decode cX10_moveBox 193 = .ok (.iload 8, 2) := by decide +kernel
theorem dX10_moveBox_195 : decode cX10_moveBox 195 = .ok (.ireturn, 1) := by decide +kernel
theorem dX10_box_0 : decode cX10_box 0 = .ok (.aload_n 0, 1) := by decide +kernel
theorem dX10_box_1 : decode cX10_box 1 = .ok (.iload_n 1, 1) := by decide +kernel
theorem dX10_box_2 : decode cX10_box 2 = .ok (.invokevirtual 91, 3) := by decide +kernel
theorem dX10_box_5 : decode cX10_box 5 = .ok (.ifCond .ne 7, 3) := by decide +kernel
theorem dX10_box_8 : decode cX10_box 8 = .ok (.sipush (-1001), 3) := by decide +kernel
theorem dX10_box_11 : decode cX10_box 11 = .ok (.ireturn, 1) := by decide +kernel
theorem dX10_box_12 : decode cX10_box 12 = .ok (.iload_n 2, 1) := by decide +kernel
theorem dX10_box_13 : decode cX10_box 13 = .ok (.iconst 0, 1) := by decide +kernel
theorem dX10_box_14 : decode cX10_box 14 = .ok (.iconst 4, 1) := by decide +kernel
theorem dX10_box_15 : decode cX10_box 15 = .ok (.invokestatic 68, 3) := by decide +kernel
theorem dX10_box_18 : decode cX10_box 18 = .ok (.ifCond .ne 7, 3) := by decide +kernel
theorem dX10_box_21 : decode cX10_box 21 = .ok (.sipush (-1002), 3) := by decide +kernel
theorem dX10_box_24 : decode cX10_box 24 = .ok (.ireturn, 1) := by decide +kernel
theorem dX10_box_25 : decode cX10_box 25 = .ok (.iload_n 2, 1) := by decide +kernel
theorem dX10_box_26 : decode cX10_box 26 = .ok (.iconst 4, 1) := by decide +kernel
theorem dX10_box_27 : decode cX10_box 27 = .ok (.if_icmp .ge 10, 3) := by decide +kernel
theorem dX10_box_30 : decode cX10_box 30 = .ok (.aload_n 0, 1) := by decide +kernel
theorem dX10_box_31 : decode cX10_box 31 = .ok (.iload_n 1, 1) := by decide +kernel
theorem dX10_box_32 : decode cX10_box 32 = .ok (.iload_n 2, 1) := by decide +kernel
theorem dX10_box_33 : decode cX10_box 33 = .ok (.invokevirtual 72, 3) := by decide +kernel
theorem dX10_box_36 : decode cX10_box 36 = .ok (.ireturn, 1) := by decide +kernel
theorem dX10_box_37 : decode cX10_box 37 = .ok (.iconst 0, 1) := by decide +kernel
theorem dX10_box_38 : decode cX10_box 38 = .ok (.istore_n 3, 1) := by decide +kernel
theorem dX10_box_39 : decode cX10_box 39 = .ok (.iconst 0, 1) := by decide +kernel
theorem dX10_box_40 : decode cX10_box 40 = .ok (.istore 4, 2) := by decide +kernel
theorem dX10_box_42 : decode cX10_box 42 = .ok (.iload 4, 2) := by decide +kernel
theorem dX10_box_44 : decode cX10_box 44 = .ok (.aload_n 0, 1) := by decide +kernel
theorem dX10_box_45 : decode cX10_box 45 = .ok (.getfield 7, 3) := by decide +kernel
theorem dX10_box_48 : decode cX10_box 48 = .ok (.iconst 1, 1) := by decide +kernel
theorem dX10_box_49 : decode cX10_box 49 = .ok (.iaload, 1) := by decide +kernel
theorem dX10_box_50 : decode cX10_box 50 = .ok (.if_icmp .ge 39, 3) := by decide +kernel
theorem dX10_box_53 : decode cX10_box 53 = .ok (.iload_n 3, 1) := by decide +kernel
theorem dX10_box_54 : decode cX10_box 54 = .ok (.aload_n 0, 1) := by decide +kernel
theorem dX10_box_55 : decode cX10_box 55 = .ok (.iload 4, 2) := by decide +kernel
theorem dX10_box_57 : decode cX10_box 57 = .ok (.iconst 0, 1) := by decide +kernel
theorem dX10_box_58 : decode cX10_box 58 = .ok (.invokevirtual 95, 3) := by decide +kernel
theorem dX10_box_61 : decode cX10_box 61 = .ok (.iload_n 1, 1) := by decide +kernel
theorem dX10_box_62 : decode cX10_box 62 = .ok (.if_icmp .eq 14, 3) := by decide +kernel
theorem dX10_box_65 : decode cX10_box 65 = .ok (.aload_n 0, 1) := by decide +kernel
theorem dX10_box_66 : decode cX10_box 66 = .ok (.iload 4, 2) := by decide +kernel
theorem dX10_box_68 : decode cX10_box 68 = .ok (.iconst 3, 1) := by decide +kernel
theorem dX10_box_69 : decode cX10_box 69 = .ok (.invokevirtual 95, 3) := by decide +kernel
theorem dX10_box_72 : decode cX10_box 72 = .ok (.iload_n 1, 1) := by decide +kernel
theorem dX10_box_73 : decode cX10_box 73 = .ok (.if_icmp .ne 7, 3) := by decide +kernel
theorem dX10_box_76 : decode cX10_box 76 = .ok (.iconst 1, 1) := by decide +kernel
theorem dX10_box_77 : decode cX10_box 77 = .ok (.goto 4, 3) := by decide +kernel
theorem dX10_box_80 : decode cX10_box 80 = .ok (.iconst 0, 1) := by decide +kernel
theorem dX10_box_81 : decode cX10_box 81 = .ok (.iadd, 1) := by decide +kernel
theorem dX10_box_82 : decode cX10_box 82 = .ok (.istore_n 3, 1) := by decide +kernel
theorem dX10_box_83 : decode cX10_box 83 = .ok (.iinc 4 1, 3) := by decide +kernel
theorem dX10_box_86 : decode cX10_box 86 = .ok (.goto (-44), 3) := by decide +kernel
theorem dX10_box_89 : decode cX10_box 89 = .ok (.iload_n 3, 1) := by decide +kernel
theorem dX10_box_90 : decode cX10_box 90 = .ok (.ireturn, 1) := by decide +kernel
theorem dX10_blockerOf_0 : decode cX10_blockerOf 0 = .ok (.iconst 0, 1) := by decide +kernel
theorem dX10_blockerOf_1 : decode cX10_blockerOf 1 = .ok (.istore_n 3, 1) := by decide +kernel
theorem dX10_blockerOf_2 : decode cX10_blockerOf 2 = .ok (.iload_n 3, 1) := by decide +kernel
theorem dX10_blockerOf_3 : decode cX10_blockerOf 3 = .ok (.aload_n 0, 1) := by decide +kernel
theorem dX10_blockerOf_4 : decode cX10_blockerOf 4 = .ok (.getfield 7, 3) := by decide +kernel
theorem dX10_blockerOf_7 : decode cX10_blockerOf 7 = .ok (.iconst 0, 1) := by decide +kernel
theorem dX10_blockerOf_8 : decode cX10_blockerOf 8 = .ok (.iaload, 1) := by decide +kernel
theorem dX10_blockerOf_9 : decode cX10_blockerOf 9 = .ok (.if_icmp .ge 49, 3) := by decide +kernel
theorem dX10_blockerOf_12 : decode cX10_blockerOf 12 = .ok (.iload_n 1, 1) := by decide +kernel
theorem dX10_blockerOf_13 : decode cX10_blockerOf 13 = .ok (.aload_n 0, 1) := by decide +kernel
theorem dX10_blockerOf_14 : decode cX10_blockerOf 14 = .ok (.iload_n 3, 1) := by decide +kernel
theorem dX10_blockerOf_15 : decode cX10_blockerOf 15 = .ok (.iconst 0, 1) := by decide +kernel
theorem dX10_blockerOf_16 : decode cX10_blockerOf 16 = .ok (.invokevirtual 72, 3) := by decide +kernel
theorem dX10_blockerOf_19 : decode cX10_blockerOf 19 = .ok (.aload_n 0, 1) := by decide +kernel
theorem dX10_blockerOf_20 : decode cX10_blockerOf 20 = .ok (.iload_n 3, 1) := by decide +kernel
theorem dX10_blockerOf_21 : decode cX10_blockerOf 21 = .ok (.iconst 2, 1) := by decide +kernel
theorem dX10_blockerOf_22 : decode cX10_blockerOf 22 = .ok (.invokevirtual 72, 3) := by decide +kernel
theorem dX10_blockerOf_25 : decode cX10_blockerOf 25 = .ok (.invokestatic 68, 3) := by decide +kernel
theorem dX10_blockerOf_28 : decode cX10_blockerOf 28 = .ok (.ifCond .eq 24, 3) := by decide +kernel
theorem dX10_blockerOf_31 : decode cX10_blockerOf 31 = .ok (.iload_n 2, 1) := by decide +kernel
theorem dX10_blockerOf_32 : decode cX10_blockerOf 32 = .ok (.aload_n 0, 1) := by decide +kernel
theorem dX10_blockerOf_33 : decode cX10_blockerOf 33 = .ok (.iload_n 3, 1) := by decide +kernel
theorem dX10_blockerOf_34 : decode cX10_blockerOf 34 = .ok (.iconst 1, 1) := by decide +kernel
theorem dX10_blockerOf_35 : decode cX10_blockerOf 35 = .ok (.invokevirtual 72, 3) := by decide +kernel
theorem dX10_blockerOf_38 : decode cX10_blockerOf 38 = .ok (.aload_n 0, 1) := by decide +kernel
theorem dX10_blockerOf_39 : decode cX10_blockerOf 39 = .ok (.iload_n 3, 1) := by decide +kernel
theorem dX10_blockerOf_40 : decode cX10_blockerOf 40 = .ok (.iconst 3, 1) := by decide +kernel
theorem dX10_blockerOf_41 : decode cX10_blockerOf 41 = .ok (.invokevirtual 72, 3) := by decide +kernel
theorem dX10_blockerOf_44 : decode cX10_blockerOf 44 = .ok (.invokestatic 68, 3) := by decide +kernel
theorem dX10_blockerOf_47 : decode cX10_blockerOf 47 = .ok (.ifCond .eq 5, 3) := by decide +kernel
theorem dX10_blockerOf_50 : decode cX10_blockerOf 50 = .ok (.iload_n 3, 1) := by decide +kernel
theorem dX10_blockerOf_51 : decode cX10_blockerOf 51 = .ok (.ireturn, 1) := by decide +kernel
theorem dX10_blockerOf_52 : decode cX10_blockerOf 52 = .ok (.iinc 3 1, 3) := by decide +kernel
theorem dX10_blockerOf_55 : decode cX10_blockerOf 55 = .ok (.goto (-53), 3) := by decide +kernel
theorem dX10_blockerOf_58 : decode cX10_blockerOf 58 = .ok (.sipush (-1000), 3) := by decide +kernel
theorem dX10_blockerOf_61 : decode cX10_blockerOf 61 = .ok (.ireturn, 1) := by decide +kernel
theorem dX10_blocker_0 : decode cX10_blocker 0 = .ok (.iload_n 1, 1) := by decide +kernel
theorem dX10_blocker_1 : decode cX10_blocker 1 = .ok (.iconst 0, 1) := by decide +kernel
theorem dX10_blocker_2 : decode cX10_blocker 2 = .ok (.bipush 99, 2) := by decide +kernel
theorem dX10_blocker_4 : decode cX10_blocker 4 = .ok (.invokestatic 68, 3) := by decide +kernel
theorem dX10_blocker_7 : decode cX10_blocker 7 = .ok (.ifCond .eq 22, 3) := by decide +kernel
theorem dX10_blocker_10 : decode cX10_blocker 10 = .ok (.iload_n 2, 1) := by decide +kernel
theorem dX10_blocker_11 : decode cX10_blocker 11 = .ok (.iconst 0, 1) := by decide +kernel
theorem dX10_blocker_12 : decode cX10_blocker 12 = .ok (.bipush 99, 2) := by decide +kernel
theorem dX10_blocker_14 : decode cX10_blocker 14 = .ok (.invokestatic 68, 3) := by decide +kernel
theorem dX10_blocker_17 : decode cX10_blocker 17 = .ok (.ifCond .eq 12, 3) := by decide +kernel
theorem dX10_blocker_20 : decode cX10_blocker 20 = .ok (.aload_n 0, 1) := by decide +kernel
theorem dX10_blocker_21 : decode cX10_blocker 21 = .ok (.iload_n 1, 1) := by decide +kernel
theorem dX10_blocker_22 : decode cX10_blocker 22 = .ok (.iload_n 2, 1) := by decide +kernel
theorem dX10_blocker_23 : decode cX10_blocker 23 = .ok (.invokevirtual 101, 3) := by decide +kernel
theorem dX10_blocker_26 : decode cX10_blocker 26 = .ok (.goto 6, 3) := by decide +kernel
theorem dX10_blocker_29 : decode cX10_blocker 29 = .ok (.sipush (-1002), 3) := by decide +kernel
theorem dX10_blocker_32 : decode cX10_blocker 32 = .ok (.ireturn, 1) := by decide +kernel
theorem dX10_of_0 : decode cX10_of 0 = .ok (.aload_n 0, 1) := by decide +kernel
theorem dX10_of_1 : decode cX10_of 1 = .ok (.getfield 7, 3) := by decide +kernel
theorem dX10_of_4 : decode cX10_of 4 = .ok (.bipush 35, 2) := by decide +kernel
theorem dX10_of_6 : decode cX10_of 6 = .ok (.sipush 169, 3) := by decide +kernel
theorem dX10_of_9 : decode cX10_of 9 = .ok (.iload_n 1, 1) := by decide +kernel
theorem dX10_of_10 : decode cX10_of 10 = .ok (.imul, 1) := by decide +kernel
theorem dX10_of_11 : decode cX10_of 11 = .ok (.iadd, 1) := by decide +kernel
theorem dX10_of_12 : decode cX10_of 12 = .ok (.iload_n 2, 1) := by decide +kernel
theorem dX10_of_13 : decode cX10_of 13 = .ok (.iadd, 1) := by decide +kernel
theorem dX10_of_14 : decode cX10_of 14 = .ok (.iaload, 1) := by decide +kernel
theorem dX10_of_15 : decode cX10_of 15 = .ok (.ireturn, 1) := by decide +kernel
theorem dX10_puts_0 : decode cX10_puts 0 = .ok (.aload_n 0, 1) := by decide +kernel
theorem dX10_puts_1 : decode cX10_puts 1 = .ok (.getfield 7, 3) := by decide +kernel
theorem dX10_puts_4 : decode cX10_puts 4 = .ok (.bipush 35, 2) := by decide +kernel
theorem dX10_puts_6 : decode cX10_puts 6 = .ok (.sipush 169, 3) := by decide +kernel
theorem dX10_puts_9 : decode cX10_puts 9 = .ok (.iload_n 1, 1) := by decide +kernel
theorem dX10_puts_10 : decode cX10_puts 10 = .ok (.imul, 1) := by decide +kernel
theorem dX10_puts_11 : decode cX10_puts 11 = .ok (.iadd, 1) := by decide +kernel
theorem dX10_puts_12 : decode cX10_puts 12 = .ok (.iload_n 2, 1) := by decide +kernel
theorem dX10_puts_13 : decode cX10_puts 13 = .ok (.iadd, 1) := by decide +kernel
theorem dX10_puts_14 : decode cX10_puts 14 = .ok (.iload_n 3, 1) := by decide +kernel
theorem dX10_puts_15 : decode cX10_puts 15 = .ok (.iastore, 1) := by decide +kernel
theorem dX10_puts_16 : decode cX10_puts 16 = .ok (.return_, 1) := by decide +kernel
theorem dX10_isLink_0 : decode cX10_isLink 0 = .ok (.iload_n 1, 1) := by decide +kernel
theorem dX10_isLink_1 : decode cX10_isLink 1 = .ok (.iconst 0, 1) := by decide +kernel
theorem dX10_isLink_2 : decode cX10_isLink 2 = .ok (.aload_n 0, 1) := by decide +kernel
theorem dX10_isLink_3 : decode cX10_isLink 3 = .ok (.getfield 7, 3) := by decide +kernel
theorem dX10_isLink_6 : decode cX10_isLink 6 = .ok (.iconst 1, 1) := by decide +kernel
theorem dX10_isLink_7 : decode cX10_isLink 7 = .ok (.iaload, 1) := by decide +kernel
theorem dX10_isLink_8 : decode cX10_isLink 8 = .ok (.iconst 1, 1) := by decide +kernel
theorem dX10_isLink_9 : decode cX10_isLink 9 = .ok (.isub, 1) := by decide +kernel
theorem dX10_isLink_10 : decode cX10_isLink 10 = .ok (.invokestatic 68, 3) := by decide +kernel
theorem dX10_isLink_13 : decode cX10_isLink 13 = .ok (.ireturn, 1) := by decide +kernel
theorem dX10_hasRoute_0 : decode cX10_hasRoute 0 = .ok (.aload_n 0, 1) := by decide +kernel
theorem dX10_hasRoute_1 : decode cX10_hasRoute 1 = .ok (.iload_n 1, 1) := by decide +kernel
theorem dX10_hasRoute_2 : decode cX10_hasRoute 2 = .ok (.bipush 6, 2) := by decide +kernel
theorem dX10_hasRoute_4 : decode cX10_hasRoute 4 = .ok (.invokevirtual 95, 3) := by decide +kernel
theorem dX10_hasRoute_7 : decode cX10_hasRoute 7 = .ok (.iconst 1, 1) := by decide +kernel
theorem dX10_hasRoute_8 : decode cX10_hasRoute 8 = .ok (.if_icmp .ne 7, 3) := by decide +kernel
theorem dX10_hasRoute_11 : decode cX10_hasRoute 11 = .ok (.iconst 1, 1) := by decide +kernel
theorem dX10_hasRoute_12 : decode cX10_hasRoute 12 = .ok (.goto 4, 3) := by decide +kernel
theorem dX10_hasRoute_15 : decode cX10_hasRoute 15 = .ok (.iconst 0, 1) := by decide +kernel
theorem dX10_hasRoute_16 : decode cX10_hasRoute 16 = .ok (.ireturn, 1) := by decide +kernel
theorem dX10_cornerX_0 : decode cX10_cornerX 0 = .ok (.aload_n 0, 1) := by decide +kernel
theorem dX10_cornerX_1 : decode cX10_cornerX 1 = .ok (.iload_n 1, 1) := by decide +kernel
theorem dX10_cornerX_2 : decode cX10_cornerX 2 = .ok (.bipush 9, 2) := by decide +kernel
theorem dX10_cornerX_4 : decode cX10_cornerX 4 = .ok (.iconst 2, 1) := by decide +kernel
theorem dX10_cornerX_5 : decode cX10_cornerX 5 = .ok (.iload_n 2, 1) := by decide +kernel
theorem dX10_cornerX_6 : decode cX10_cornerX 6 = .ok (.imul, 1) := by decide +kernel
theorem dX10_cornerX_7 : decode cX10_cornerX 7 = .ok (.iadd, 1) := by decide +kernel
theorem dX10_cornerX_8 : decode cX10_cornerX 8 = .ok (.invokevirtual 95, 3) := by decide +kernel
theorem dX10_cornerX_11 : decode cX10_cornerX 11 = .ok (.ireturn, 1) := by decide +kernel
theorem dX10_cornerY_0 : decode cX10_cornerY 0 = .ok (.aload_n 0, 1) := by decide +kernel
theorem dX10_cornerY_1 : decode cX10_cornerY 1 = .ok (.iload_n 1, 1) := by decide +kernel
theorem dX10_cornerY_2 : decode cX10_cornerY 2 = .ok (.bipush 10, 2) := by decide +kernel
theorem dX10_cornerY_4 : decode cX10_cornerY 4 = .ok (.iconst 2, 1) := by decide +kernel
theorem dX10_cornerY_5 : decode cX10_cornerY 5 = .ok (.iload_n 2, 1) := by decide +kernel
theorem dX10_cornerY_6 : decode cX10_cornerY 6 = .ok (.imul, 1) := by decide +kernel
theorem dX10_cornerY_7 : decode cX10_cornerY 7 = .ok (.iadd, 1) := by decide +kernel
theorem dX10_cornerY_8 : decode cX10_cornerY 8 = .ok (.invokevirtual 95, 3) := by decide +kernel
theorem dX10_cornerY_11 : decode cX10_cornerY 11 = .ok (.ireturn, 1) := by decide +kernel
theorem dX10_isPort_0 : decode cX10_isPort 0 = .ok (.iload_n 2, 1) := by decide +kernel
theorem dX10_isPort_1 : decode cX10_isPort 1 = .ok (.iconst 2, 1) := by decide +kernel
theorem dX10_isPort_2 : decode cX10_isPort 2 = .ok (.irem, 1) := by decide +kernel
theorem dX10_isPort_3 : decode cX10_isPort 3 = .ok (.ifCond .ne 19, 3) := by decide +kernel
theorem dX10_isPort_6 : decode cX10_isPort 6 = .ok (.aload_n 0, 1) := by decide +kernel
theorem dX10_isPort_7 : decode cX10_isPort 7 = .ok (.iload_n 1, 1) := by decide +kernel
theorem dX10_isPort_8 : decode cX10_isPort 8 = .ok (.iconst 2, 1) := by decide +kernel
theorem dX10_isPort_9 : decode cX10_isPort 9 = .ok (.invokevirtual 72, 3) := by decide +kernel
theorem dX10_isPort_12 : decode cX10_isPort 12 = .ok (.aload_n 0, 1) := by decide +kernel
theorem dX10_isPort_13 : decode cX10_isPort 13 = .ok (.iload_n 1, 1) := by decide +kernel
theorem dX10_isPort_14 : decode cX10_isPort 14 = .ok (.iconst 0, 1) := by decide +kernel
theorem dX10_isPort_15 : decode cX10_isPort 15 = .ok (.invokevirtual 72, 3) := by decide +kernel
theorem dX10_isPort_18 : decode cX10_isPort 18 = .ok (.isub, 1) := by decide +kernel
theorem dX10_isPort_19 : decode cX10_isPort 19 = .ok (.goto 16, 3) := by decide +kernel
theorem dX10_isPort_22 : decode cX10_isPort 22 = .ok (.aload_n 0, 1) := by decide +kernel
theorem dX10_isPort_23 : decode cX10_isPort 23 = .ok (.iload_n 1, 1) := by decide +kernel
theorem dX10_isPort_24 : decode cX10_isPort 24 = .ok (.iconst 3, 1) := by decide +kernel
theorem dX10_isPort_25 : decode cX10_isPort 25 = .ok (.invokevirtual 72, 3) := by decide +kernel
theorem dX10_isPort_28 : decode cX10_isPort 28 = .ok (.aload_n 0, 1) := by decide +kernel
theorem dX10_isPort_29 : decode cX10_isPort 29 = .ok (.iload_n 1, 1) := by decide +kernel
theorem dX10_isPort_30 : decode cX10_isPort 30 = .ok (.iconst 1, 1) := by decide +kernel
theorem dX10_isPort_31 : decode cX10_isPort 31 = .ok (.invokevirtual 72, 3) := by decide +kernel
theorem dX10_isPort_34 : decode cX10_isPort 34 = .ok (.isub, 1) := by decide +kernel
theorem dX10_isPort_35 : decode cX10_isPort 35 = .ok (.istore 4, 2) := by decide +kernel
theorem dX10_isPort_37 : decode cX10_isPort 37 = .ok (.iload_n 2, 1) := by decide +kernel
theorem dX10_isPort_38 : decode cX10_isPort 38 = .ok (.iconst 0, 1) := by decide +kernel
theorem dX10_isPort_39 : decode cX10_isPort 39 = .ok (.iconst 3, 1) := by decide +kernel
theorem dX10_isPort_40 : decode cX10_isPort 40 = .ok (.invokestatic 68, 3) := by decide +kernel
theorem dX10_isPort_43 : decode cX10_isPort 43 = .ok (.ifCond .eq 17, 3) := by decide +kernel
theorem dX10_isPort_46 : decode cX10_isPort 46 = .ok (.iload_n 3, 1) := by decide +kernel
theorem dX10_isPort_47 : decode cX10_isPort 47 = .ok (.iconst 0, 1) := by decide +kernel
theorem dX10_isPort_48 : decode cX10_isPort 48 = .ok (.iload 4, 2) := by decide +kernel
theorem dX10_isPort_50 : decode cX10_isPort 50 = .ok (.invokestatic 68, 3) := by decide +kernel
theorem dX10_isPort_53 : decode cX10_isPort 53 = .ok (.ifCond .eq 7, 3) := by decide +kernel
theorem dX10_isPort_56 : decode cX10_isPort 56 = .ok (.iconst 1, 1) := by decide +kernel
theorem dX10_isPort_57 : decode cX10_isPort 57 = .ok (.goto 4, 3) := by decide +kernel
theorem dX10_isPort_60 : decode cX10_isPort 60 = .ok (.iconst 0, 1) := by decide +kernel
theorem dX10_isPort_61 : decode cX10_isPort 61 = .ok (.ireturn, 1) := by decide +kernel
theorem dX10_link_0 : decode cX10_link 0 = .ok (.aload_n 0, 1) := by decide +kernel
theorem dX10_link_1 : decode cX10_link 1 = .ok (.iload_n 1, 1) := by decide +kernel
theorem dX10_link_2 : decode cX10_link 2 = .ok (.invokevirtual 91, 3) := by decide +kernel
theorem dX10_link_5 : decode cX10_link 5 = .ok (.ifCond .eq 12, 3) := by decide +kernel
theorem dX10_link_8 : decode cX10_link 8 = .ok (.aload_n 0, 1) := by decide +kernel
theorem dX10_link_9 : decode cX10_link 9 = .ok (.iload 4, 2) := by decide +kernel
theorem dX10_link_11 : decode cX10_link 11 = .ok (.invokevirtual 91, 3) := by decide +kernel
theorem dX10_link_14 : decode cX10_link 14 = .ok (.ifCond .ne 7, 3) := by decide +kernel
theorem dX10_link_17 : decode cX10_link 17 = .ok (.sipush (-1001), 3) := by decide +kernel
theorem dX10_link_20 : decode cX10_link 20 = .ok (.ireturn, 1) := by decide +kernel
theorem dX10_link_21 : decode cX10_link 21 = .ok (.aload_n 0, 1) := by decide +kernel
theorem dX10_link_22 : decode cX10_link 22 = .ok (.iload_n 1, 1) := by decide +kernel
theorem dX10_link_23 : decode cX10_link 23 = .ok (.iload_n 2, 1) := by decide +kernel
theorem dX10_link_24 : decode cX10_link 24 = .ok (.iload_n 3, 1) := by decide +kernel
theorem dX10_link_25 : decode cX10_link 25 = .ok (.invokevirtual 104, 3) := by decide +kernel
theorem dX10_link_28 : decode cX10_link 28 = .ok (.ifCond .eq 16, 3) := by decide +kernel
theorem dX10_link_31 : decode cX10_link 31 = .ok (.aload_n 0, 1) := by decide +kernel
theorem dX10_link_32 : decode cX10_link 32 = .ok (.iload 4, 2) := by decide +kernel
theorem dX10_link_34 : decode cX10_link 34 = .ok (.iload 5, 2) := by decide +kernel
theorem dX10_link_36 : decode cX10_link 36 = .ok (.iload 6, 2) := by decide +kernel
theorem dX10_link_38 : decode cX10_link 38 = .ok (.invokevirtual 104, 3) := by decide +kernel
theorem dX10_link_41 : decode cX10_link 41 = .ok (.ifCond .ne 7, 3) := by decide +kernel
theorem dX10_link_44 : decode cX10_link 44 = .ok (.sipush (-1002), 3) := by decide +kernel
theorem dX10_link_47 : decode cX10_link 47 = .ok (.ireturn, 1) := by decide +kernel
theorem dX10_link_48 : decode cX10_link 48 = .ok (.iload_n 1, 1) := by decide +kernel
theorem dX10_link_49 : decode cX10_link 49 = .ok (.iload 4, 2) := by decide +kernel
theorem dX10_link_51 : decode cX10_link 51 = .ok (.if_icmp .ne 19, 3) := by decide +kernel
theorem dX10_link_54 : decode cX10_link 54 = .ok (.iload_n 2, 1) := by decide +kernel
theorem dX10_link_55 : decode cX10_link 55 = .ok (.iload 5, 2) := by decide +kernel
theorem dX10_link_57 : decode cX10_link 57 = .ok (.if_icmp .ne 13, 3) := by decide +kernel
theorem dX10_link_60 : decode cX10_link 60 = .ok (.iload_n 3, 1) := by decide +kernel
theorem dX10_link_61 : decode cX10_link 61 = .ok (.iload 6, 2) := by decide +kernel
theorem dX10_link_63 : decode cX10_link 63 = .ok (.if_icmp .ne 7, 3) := by decide +kernel
theorem dX10_link_66 : decode cX10_link 66 = .ok (.sipush (-1003), 3) := by decide +kernel
theorem dX10_link_69 : decode cX10_link 69 = .ok (.ireturn, 1) := by decide +kernel
theorem dX10_link_70 : decode cX10_link 70 = .ok (.aload_n 0, 1) := by decide +kernel
theorem dX10_link_71 : decode cX10_link 71 = .ok (.getfield 7, 3) := by decide +kernel
theorem dX10_link_74 : decode cX10_link 74 = .ok (.iconst 1, 1) := by decide +kernel
theorem dX10_link_75 : decode cX10_link 75 = .ok (.iaload, 1) := by decide +kernel
theorem dX10_link_76 : decode cX10_link 76 = .ok (.bipush 10, 2) := by decide +kernel
theorem dX10_link_78 : decode cX10_link 78 = .ok (.if_icmp .ne 7, 3) := by decide +kernel
theorem dX10_link_81 : decode cX10_link 81 = .ok (.sipush (-1004), 3) := by decide +kernel
theorem dX10_link_84 : decode cX10_link 84 = .ok (.ireturn, 1) := by decide +kernel
theorem dX10_link_85 : decode cX10_link 85 = .ok (.aload_n 0, 1) := by decide +kernel
theorem dX10_link_86 : decode cX10_link 86 = .ok (.invokevirtual 84, 3) := by decide +kernel
theorem dX10_link_89 : decode cX10_link 89 = .ok (.aload_n 0, 1) := by decide +kernel
theorem dX10_link_90 : decode cX10_link 90 = .ok (.getfield 7, 3) := by decide +kernel
theorem dX10_link_93 : decode cX10_link 93 = .ok (.iconst 1, 1) := by decide +kernel
theorem dX10_link_94 : decode cX10_link 94 = .ok (.iaload, 1) := by decide +kernel
theorem dX10_link_95 : decode cX10_link 95 = .ok (.istore 7, 2) := by decide +kernel
theorem dX10_link_97 : decode cX10_link 97 = .ok (.iconst 0, 1) := by decide +kernel
theorem dX10_link_98 : decode cX10_link 98 = .ok (.istore 8, 2) := by decide +kernel
theorem dX10_link_100 : decode cX10_link 100 = .ok (.iload 8, 2) := by decide +kernel
theorem dX10_link_102 : decode cX10_link 102 = .ok (.sipush 169, 3) := by decide +kernel
theorem dX10_link_105 : decode cX10_link 105 = .ok (.if_icmp .ge 18, 3) := by decide +kernel
theorem dX10_link_108 : decode cX10_link 108 = .ok (.aload_n 0, 1) := by decide +kernel
theorem dX10_link_109 : decode cX10_link 109 = .ok (.iload 7, 2) := by decide +kernel
theorem dX10_link_111 : decode cX10_link 111 = .ok (.iload 8, 2) := by decide +kernel
theorem dX10_link_113 : decode cX10_link 113 = .ok (.iconst 0, 1) := by decide +kernel
theorem dX10_link_114 : decode cX10_link 114 = .ok (.invokevirtual 107, 3) := by decide +kernel
theorem dX10_link_117 : decode cX10_link 117 = .ok (.iinc 8 1, 3) := by decide +kernel
theorem dX10_link_120 : decode cX10_link 120 = .ok (.goto (-20), 3) := by decide +kernel
theorem dX10_link_123 : decode cX10_link 123 = .ok (.aload_n 0, 1) := by decide +kernel
theorem dX10_link_124 : decode cX10_link 124 = .ok (.iload 7, 2) := by decide +kernel
theorem dX10_link_126 : decode cX10_link 126 = .ok (.iconst 0, 1) := by decide +kernel
theorem dX10_link_127 : decode cX10_link 127 = .ok (.iload_n 1, 1) := by decide +kernel
theorem dX10_link_128 : decode cX10_link 128 = .ok (.invokevirtual 107, 3) := by decide +kernel
theorem dX10_link_131 : decode cX10_link 131 = .ok (.aload_n 0, 1) := by decide +kernel
theorem dX10_link_132 : decode cX10_link 132 = .ok (.iload 7, 2) := by decide +kernel
theorem dX10_link_134 : decode cX10_link 134 = .ok (.iconst 1, 1) := by decide +kernel
theorem dX10_link_135 : decode cX10_link 135 = .ok (.iload_n 2, 1) := by decide +kernel
theorem dX10_link_136 : decode cX10_link 136 = .ok (.invokevirtual 107, 3) := by decide +kernel
theorem dX10_link_139 : decode cX10_link 139 = .ok (.aload_n 0, 1) := by decide +kernel
theorem dX10_link_140 : decode cX10_link 140 = .ok (.iload 7, 2) := by decide +kernel
theorem dX10_link_142 : decode cX10_link 142 = .ok (.iconst 2, 1) := by decide +kernel
theorem dX10_link_143 : decode cX10_link 143 = .ok (.iload_n 3, 1) := by decide +kernel
theorem dX10_link_144 : decode cX10_link 144 = .ok (.invokevirtual 107, 3) := by decide +kernel
theorem dX10_link_147 : decode cX10_link 147 = .ok (.aload_n 0, 1) := by decide +kernel
theorem dX10_link_148 : decode cX10_link 148 = .ok (.iload 7, 2) := by decide +kernel
theorem dX10_link_150 : decode cX10_link 150 = .ok (.iconst 3, 1) := by decide +kernel
theorem dX10_link_151 : decode cX10_link 151 = .ok (.iload 4, 2) := by decide +kernel
theorem dX10_link_153 : decode cX10_link 153 = .ok (.invokevirtual 107, 3) := by decide +kernel
theorem dX10_link_156 : decode cX10_link 156 = .ok (.aload_n 0, 1) := by decide +kernel
theorem dX10_link_157 : decode cX10_link 157 = .ok (.iload 7, 2) := by decide +kernel
theorem dX10_link_159 : decode cX10_link 159 = .ok (.iconst 4, 1) := by decide +kernel
theorem dX10_link_160 : decode cX10_link 160 = .ok (.iload 5, 2) := by decide +kernel
theorem dX10_link_162 : decode cX10_link 162 = .ok (.invokevirtual 107, 3) := by decide +kernel
theorem dX10_link_165 : decode cX10_link 165 = .ok (.aload_n 0, 1) := by decide +kernel
theorem dX10_link_166 : decode cX10_link 166 = .ok (.iload 7, 2) := by decide +kernel
theorem dX10_link_168 : decode cX10_link 168 = .ok (.iconst 5, 1) := by decide +kernel
theorem dX10_link_169 : decode cX10_link 169 = .ok (.iload 6, 2) := by decide +kernel
theorem dX10_link_171 : decode cX10_link 171 = .ok (.invokevirtual 107, 3) := by decide +kernel
theorem dX10_link_174 : decode cX10_link 174 = .ok (.aload_n 0, 1) := by decide +kernel
theorem dX10_link_175 : decode cX10_link 175 = .ok (.getfield 7, 3) := by decide +kernel
theorem dX10_link_178 : decode cX10_link 178 = .ok (.iconst 1, 1) := by decide +kernel
theorem dX10_link_179 : decode cX10_link 179 = .ok (.dup2, 1) := by decide +kernel
theorem dX10_link_180 : decode cX10_link 180 = .ok (.iaload, 1) := by decide +kernel
theorem dX10_link_181 : decode cX10_link 181 = .ok (.iconst 1, 1) := by decide +kernel
theorem dX10_link_182 : decode cX10_link 182 = .ok (.iadd, 1) := by decide +kernel
theorem dX10_link_183 : decode cX10_link 183 = .ok (.iastore, 1) := by decide +kernel
theorem dX10_link_184 : decode cX10_link 184 = .ok (.iload 7, 2) := by decide +kernel
theorem dX10_link_186 : decode cX10_link 186 = .ok (.ireturn, 1) := by decide +kernel
theorem dX10_drop_0 : decode cX10_drop 0 = .ok (.aload_n 0, 1) := by decide +kernel
theorem dX10_drop_1 : decode cX10_drop 1 = .ok (.iload_n 1, 1) := by decide +kernel
theorem dX10_drop_2 : decode cX10_drop 2 = .ok (.invokevirtual 111, 3) := by decide +kernel
theorem dX10_drop_5 : decode cX10_drop 5 = .ok (.ifCond .ne 7, 3) := by decide +kernel
theorem dX10_drop_8 : decode cX10_drop 8 = .ok (.sipush (-1001), 3) := by decide +kernel
theorem dX10_drop_11 : decode cX10_drop 11 = .ok (.ireturn, 1) := by decide +kernel
theorem dX10_drop_12 : decode cX10_drop 12 = .ok (.aload_n 0, 1) := by decide +kernel
theorem dX10_drop_13 : decode cX10_drop 13 = .ok (.invokevirtual 84, 3) := by decide +kernel
theorem dX10_drop_16 : decode cX10_drop 16 = .ok (.aload_n 0, 1) := by decide +kernel
theorem dX10_drop_17 : decode cX10_drop 17 = .ok (.getfield 7, 3) := by decide +kernel
theorem dX10_drop_20 : decode cX10_drop 20 = .ok (.iconst 1, 1) := by decide +kernel
theorem dX10_drop_21 : decode cX10_drop 21 = .ok (.dup2, 1) := by decide +kernel
theorem dX10_drop_22 : decode cX10_drop 22 = .ok (.iaload, 1) := by decide +kernel
theorem dX10_drop_23 : decode cX10_drop 23 = .ok (.iconst 1, 1) := by decide +kernel
theorem dX10_drop_24 : decode cX10_drop 24 = .ok (.isub, 1) := by decide +kernel
theorem dX10_drop_25 : decode cX10_drop 25 = .ok (.iastore, 1) := by decide +kernel
theorem dX10_drop_26 : decode cX10_drop 26 = .ok (.iload_n 1, 1) := by decide +kernel
theorem dX10_drop_27 : decode cX10_drop 27 = .ok (.istore_n 2, 1) := by decide +kernel
theorem dX10_drop_28 : decode cX10_drop 28 = .ok (.iload_n 2, 1) := by decide +kernel
theorem dX10_drop_29 : decode cX10_drop 29 = .ok (.aload_n 0, 1) := by decide +kernel
theorem dX10_drop_30 : decode cX10_drop 30 = .ok (.getfield 7, 3) := by decide +kernel
theorem dX10_drop_33 : decode cX10_drop 33 = .ok (.iconst 1, 1) := by decide +kernel
theorem dX10_drop_34 : decode cX10_drop 34 = .ok (.iaload, 1) := by decide +kernel
theorem dX10_drop_35 : decode cX10_drop 35 = .ok (.if_icmp .ge 38, 3) := by decide +kernel
theorem dX10_drop_38 : decode cX10_drop 38 = .ok (.iconst 0, 1) := by decide +kernel
theorem dX10_drop_39 : decode cX10_drop 39 = .ok (.istore_n 3, 1) := by decide +kernel
theorem dX10_drop_40 : decode cX10_drop 40 = .ok (.iload_n 3, 1) := by decide +kernel
theorem dX10_drop_41 : decode cX10_drop 41 = .ok (.sipush 169, 3) := by decide +kernel
theorem dX10_drop_44 : decode cX10_drop 44 = .ok (.if_icmp .ge 23, 3) := by decide +kernel
theorem dX10_drop_47 : decode cX10_drop 47 = .ok (.aload_n 0, 1) := by decide +kernel
theorem dX10_drop_48 : decode cX10_drop 48 = .ok (.iload_n 2, 1) := by decide +kernel
theorem dX10_drop_49 : decode cX10_drop 49 = .ok (.iload_n 3, 1) := by decide +kernel
theorem dX10_drop_50 : decode cX10_drop 50 = .ok (.aload_n 0, 1) := by decide +kernel
theorem dX10_drop_51 : decode cX10_drop 51 = .ok (.iload_n 2, 1) := by decide +kernel
theorem dX10_drop_52 : decode cX10_drop 52 = .ok (.iconst 1, 1) := by decide +kernel
theorem dX10_drop_53 : decode cX10_drop 53 = .ok (.iadd, 1) := by decide +kernel
theorem dX10_drop_54 : decode cX10_drop 54 = .ok (.iload_n 3, 1) := by decide +kernel
theorem dX10_drop_55 : decode cX10_drop 55 = .ok (.invokevirtual 95, 3) := by decide +kernel
theorem dX10_drop_58 : decode cX10_drop 58 = .ok (.invokevirtual 107, 3) := by decide +kernel
theorem dX10_drop_61 : decode cX10_drop 61 = .ok (.iinc 3 1, 3) := by decide +kernel
theorem dX10_drop_64 : decode cX10_drop 64 = .ok (.goto (-24), 3) := by decide +kernel
theorem dX10_drop_67 : decode cX10_drop 67 = .ok (.iinc 2 1, 3) := by decide +kernel
theorem dX10_drop_70 : decode cX10_drop 70 = .ok (.goto (-42), 3) := by decide +kernel
theorem dX10_drop_73 : decode cX10_drop 73 = .ok (.aload_n 0, 1) := by decide +kernel
theorem dX10_drop_74 : decode cX10_drop 74 = .ok (.getfield 7, 3) := by decide +kernel
theorem dX10_drop_77 : decode cX10_drop 77 = .ok (.iconst 1, 1) := by decide +kernel
theorem dX10_drop_78 : decode cX10_drop 78 = .ok (.iaload, 1) := by decide +kernel
theorem dX10_drop_79 : decode cX10_drop 79 = .ok (.ireturn, 1) := by decide +kernel
theorem dX10_setPenalty_0 : decode cX10_setPenalty 0 = .ok (.iload_n 1, 1) := by decide +kernel
theorem dX10_setPenalty_1 : decode cX10_setPenalty 1 = .ok (.iconst 0, 1) := by decide +kernel
theorem dX10_setPenalty_2 : decode cX10_setPenalty 2 = .ok (.bipush 50, 2) := by decide +kernel
theorem dX10_setPenalty_4 : decode cX10_setPenalty 4 = .ok (.invokestatic 68, 3) := by decide +kernel
theorem dX10_setPenalty_7 : decode cX10_setPenalty 7 = .ok (.ifCond .ne 7, 3) := by decide +kernel
theorem dX10_setPenalty_10 : decode cX10_setPenalty 10 = .ok (.sipush (-1002), 3) := by decide +kernel
theorem dX10_setPenalty_13 : decode cX10_setPenalty 13 = .ok (.ireturn, 1) := by decide +kernel
theorem dX10_setPenalty_14 : decode cX10_setPenalty 14 = .ok (.aload_n 0, 1) := by decide +kernel
theorem dX10_setPenalty_15 : decode cX10_setPenalty 15 = .ok (.invokevirtual 84, 3) := by decide +kernel
theorem dX10_setPenalty_18 : decode cX10_setPenalty 18 = .ok (.aload_n 0, 1) := by decide +kernel
theorem dX10_setPenalty_19 : decode cX10_setPenalty 19 = .ok (.getfield 7, 3) := by decide +kernel
theorem dX10_setPenalty_22 : decode cX10_setPenalty 22 = .ok (.iconst 2, 1) := by decide +kernel
theorem dX10_setPenalty_23 : decode cX10_setPenalty 23 = .ok (.iaload, 1) := by decide +kernel
theorem dX10_setPenalty_24 : decode cX10_setPenalty 24 = .ok (.istore_n 2, 1) := by decide +kernel
theorem dX10_setPenalty_25 : decode cX10_setPenalty 25 = .ok (.aload_n 0, 1) := by decide +kernel
theorem dX10_setPenalty_26 : decode cX10_setPenalty 26 = .ok (.getfield 7, 3) := by decide +kernel
theorem dX10_setPenalty_29 : decode cX10_setPenalty 29 = .ok (.iconst 2, 1) := by decide +kernel
theorem dX10_setPenalty_30 : decode cX10_setPenalty 30 = .ok (.iload_n 1, 1) := by decide +kernel
theorem dX10_setPenalty_31 : decode cX10_setPenalty 31 = .ok (.iastore, 1) := by decide +kernel
theorem dX10_setPenalty_32 : decode cX10_setPenalty 32 = .ok (.iload_n 2, 1) := by decide +kernel
theorem dX10_setPenalty_33 : decode cX10_setPenalty 33 = .ok (.ireturn, 1) := by decide +kernel
theorem dX10_portOf_0 : decode cX10_portOf 0 = .ok (.aload_n 0, 1) := by decide +kernel
theorem dX10_portOf_1 : decode cX10_portOf 1 = .ok (.iload_n 1, 1) := by decide +kernel
theorem dX10_portOf_2 : decode cX10_portOf 2 = .ok (.iconst 3, 1) := by decide +kernel
theorem dX10_portOf_3 : decode cX10_portOf 3 = .ok (.iload_n 2, 1) := by decide +kernel
theorem dX10_portOf_4 : decode cX10_portOf 4 = .ok (.imul, 1) := by decide +kernel
theorem dX10_portOf_5 : decode cX10_portOf 5 = .ok (.invokevirtual 95, 3) := by decide +kernel
theorem dX10_portOf_8 : decode cX10_portOf 8 = .ok (.istore 5, 2) := by decide +kernel
theorem dX10_portOf_10 : decode cX10_portOf 10 = .ok (.aload_n 0, 1) := by decide +kernel
theorem dX10_portOf_11 : decode cX10_portOf 11 = .ok (.iload_n 1, 1) := by decide +kernel
theorem dX10_portOf_12 : decode cX10_portOf 12 = .ok (.iconst 3, 1) := by decide +kernel
theorem dX10_portOf_13 : decode cX10_portOf 13 = .ok (.iload_n 2, 1) := by decide +kernel
theorem dX10_portOf_14 : decode cX10_portOf 14 = .ok (.imul, 1) := by decide +kernel
theorem dX10_portOf_15 : decode cX10_portOf 15 = .ok (.iconst 1, 1) := by decide +kernel
theorem dX10_portOf_16 : decode cX10_portOf 16 = .ok (.iadd, 1) := by decide +kernel
theorem dX10_portOf_17 : decode cX10_portOf 17 = .ok (.invokevirtual 95, 3) := by decide +kernel
theorem dX10_portOf_20 : decode cX10_portOf 20 = .ok (.istore 6, 2) := by decide +kernel
theorem dX10_portOf_22 : decode cX10_portOf 22 = .ok (.aload_n 0, 1) := by decide +kernel
theorem dX10_portOf_23 : decode cX10_portOf 23 = .ok (.iload_n 1, 1) := by decide +kernel
theorem dX10_portOf_24 : decode cX10_portOf 24 = .ok (.iconst 3, 1) := by decide +kernel
theorem dX10_portOf_25 : decode cX10_portOf 25 = .ok (.iload_n 2, 1) := by decide +kernel
theorem dX10_portOf_26 : decode cX10_portOf 26 = .ok (.imul, 1) := by decide +kernel
theorem dX10_portOf_27 : decode cX10_portOf 27 = .ok (.iconst 2, 1) := by decide +kernel
theorem dX10_portOf_28 : decode cX10_portOf 28 = .ok (.iadd, 1) := by decide +kernel
theorem dX10_portOf_29 : decode cX10_portOf 29 = .ok (.invokevirtual 95, 3) := by decide +kernel
theorem dX10_portOf_32 : decode cX10_portOf 32 = .ok (.istore 7, 2) := by decide +kernel
theorem dX10_portOf_34 : decode cX10_portOf 34 = .ok (.iload_n 3, 1) := by decide +kernel
theorem dX10_portOf_35 : decode cX10_portOf 35 = .ok (.ifCond .eq 52, 3) := by decide +kernel
theorem dX10_portOf_38 : decode cX10_portOf 38 = .ok (.iload 6, 2) := by decide +kernel
theorem dX10_portOf_40 : decode cX10_portOf 40 = .ok (.iconst 1, 1) := by decide +kernel
theorem dX10_portOf_41 : decode cX10_portOf 41 = .ok (.if_icmp .ne 16, 3) := by decide +kernel
theorem dX10_portOf_44 : decode cX10_portOf 44 = .ok (.aload_n 0, 1) := by decide +kernel
theorem dX10_portOf_45 : decode cX10_portOf 45 = .ok (.iload 5, 2) := by decide +kernel
theorem dX10_portOf_47 : decode cX10_portOf 47 = .ok (.iconst 2, 1) := by decide +kernel
theorem dX10_portOf_48 : decode cX10_portOf 48 = .ok (.invokevirtual 72, 3) := by decide +kernel
theorem dX10_portOf_51 : decode cX10_portOf 51 = .ok (.iload 4, 2) := by decide +kernel
theorem dX10_portOf_53 : decode cX10_portOf 53 = .ok (.iadd, 1) := by decide +kernel
theorem dX10_portOf_54 : decode cX10_portOf 54 = .ok (.goto 32, 3) := by decide +kernel
theorem dX10_portOf_57 : decode cX10_portOf 57 = .ok (.iload 6, 2) := by decide +kernel
theorem dX10_portOf_59 : decode cX10_portOf 59 = .ok (.iconst 3, 1) := by decide +kernel
theorem dX10_portOf_60 : decode cX10_portOf 60 = .ok (.if_icmp .ne 16, 3) := by decide +kernel
theorem dX10_portOf_63 : decode cX10_portOf 63 = .ok (.aload_n 0, 1) := by decide +kernel
theorem dX10_portOf_64 : decode cX10_portOf 64 = .ok (.iload 5, 2) := by decide +kernel
theorem dX10_portOf_66 : decode cX10_portOf 66 = .ok (.iconst 0, 1) := by decide +kernel
theorem dX10_portOf_67 : decode cX10_portOf 67 = .ok (.invokevirtual 72, 3) := by decide +kernel
theorem dX10_portOf_70 : decode cX10_portOf 70 = .ok (.iload 4, 2) := by decide +kernel
theorem dX10_portOf_72 : decode cX10_portOf 72 = .ok (.isub, 1) := by decide +kernel
theorem dX10_portOf_73 : decode cX10_portOf 73 = .ok (.goto 13, 3) := by decide +kernel
theorem dX10_portOf_76 : decode cX10_portOf 76 = .ok (.aload_n 0, 1) := by decide +kernel
theorem dX10_portOf_77 : decode cX10_portOf 77 = .ok (.iload 5, 2) := by decide +kernel
theorem dX10_portOf_79 : decode cX10_portOf 79 = .ok (.iconst 0, 1) := by decide +kernel
theorem dX10_portOf_80 : decode cX10_portOf 80 = .ok (.invokevirtual 72, 3) := by decide +kernel
theorem dX10_portOf_83 : decode cX10_portOf 83 = .ok (.iload 7, 2) := by decide +kernel
theorem dX10_portOf_85 : decode cX10_portOf 85 = .ok (.iadd, 1) := by decide +kernel
theorem dX10_portOf_86 : decode cX10_portOf 86 = .ok (.ireturn, 1) := by decide +kernel
theorem dX10_portOf_87 : decode cX10_portOf 87 = .ok (.iload 6, 2) := by decide +kernel
theorem dX10_portOf_89 : decode cX10_portOf 89 = .ok (.ifCond .ne 16, 3) := by decide +kernel
theorem dX10_portOf_92 : decode cX10_portOf 92 = .ok (.aload_n 0, 1) := by decide +kernel
theorem dX10_portOf_93 : decode cX10_portOf 93 = .ok (.iload 5, 2) := by decide +kernel
theorem dX10_portOf_95 : decode cX10_portOf 95 = .ok (.iconst 1, 1) := by decide +kernel
theorem dX10_portOf_96 : decode cX10_portOf 96 = .ok (.invokevirtual 72, 3) := by decide +kernel
theorem dX10_portOf_99 : decode cX10_portOf 99 = .ok (.iload 4, 2) := by decide +kernel
theorem dX10_portOf_101 : decode cX10_portOf 101 = .ok (.isub, 1) := by decide +kernel
theorem dX10_portOf_102 : decode cX10_portOf 102 = .ok (.goto 32, 3) := by decide +kernel
theorem dX10_portOf_105 : decode cX10_portOf 105 = .ok (.iload 6, 2) := by decide +kernel
theorem dX10_portOf_107 : decode cX10_portOf 107 = .ok (.iconst 2, 1) := by decide +kernel
theorem dX10_portOf_108 : decode cX10_portOf 108 = .ok (.if_icmp .ne 16, 3) := by decide +kernel
theorem dX10_portOf_111 : decode cX10_portOf 111 = .ok (.aload_n 0, 1) := by decide +kernel
theorem dX10_portOf_112 : decode cX10_portOf 112 = .ok (.iload 5, 2) := by decide +kernel
theorem dX10_portOf_114 : decode cX10_portOf 114 = .ok (.iconst 3, 1) := by decide +kernel
theorem dX10_portOf_115 : decode cX10_portOf 115 = .ok (.invokevirtual 72, 3) := by decide +kernel
theorem dX10_portOf_118 : decode cX10_portOf 118 = .ok (.iload 4, 2) := by decide +kernel
theorem dX10_portOf_120 : decode cX10_portOf 120 = .ok (.iadd, 1) := by decide +kernel
theorem dX10_portOf_121 : decode cX10_portOf 121 = .ok (.goto 13, 3) := by decide +kernel
theorem dX10_portOf_124 : decode cX10_portOf 124 = .ok (.aload_n 0, 1) := by decide +kernel
theorem dX10_portOf_125 : decode cX10_portOf 125 = .ok (.iload 5, 2) := by decide +kernel
theorem dX10_portOf_127 : decode cX10_portOf 127 = .ok (.iconst 1, 1) := by decide +kernel
theorem dX10_portOf_128 : decode cX10_portOf 128 = .ok (.invokevirtual 72, 3) := by decide +kernel
theorem dX10_portOf_131 : decode cX10_portOf 131 = .ok (.iload 7, 2) := by decide +kernel
theorem dX10_portOf_133 : decode cX10_portOf 133 = .ok (.iadd, 1) := by decide +kernel
theorem dX10_portOf_134 : decode cX10_portOf 134 = .ok (.ireturn, 1) := by decide +kernel
theorem dX10_isTouched_0 : decode cX10_isTouched 0 = .ok (.aload_n 0, 1) := by decide +kernel
theorem dX10_isTouched_1 : decode cX10_isTouched 1 = .ok (.iload_n 1, 1) := by decide +kernel
theorem dX10_isTouched_2 : decode cX10_isTouched 2 = .ok (.invokevirtual 114, 3) := by decide +kernel
theorem dX10_isTouched_5 : decode cX10_isTouched 5 = .ok (.ifCond .ne 5, 3) := by decide +kernel
theorem dX10_isTouched_8 : decode cX10_isTouched 8 = .ok (.iconst 1, 1) := by decide +kernel
theorem dX10_isTouched_9 : decode cX10_isTouched 9 = .ok (.ireturn, 1) := by decide +kernel
theorem dX10_isTouched_10 : decode cX10_isTouched 10 = .ok (.aload_n 0, 1) := by decide +kernel
theorem dX10_isTouched_11 : decode cX10_isTouched 11 = .ok (.iload_n 1, 1) := by decide +kernel
theorem dX10_isTouched_12 : decode cX10_isTouched 12 = .ok (.bipush 8, 2) := by decide +kernel
theorem dX10_isTouched_14 : decode cX10_isTouched 14 = .ok (.invokevirtual 95, 3) := by decide +kernel
theorem dX10_isTouched_17 : decode cX10_isTouched 17 = .ok (.iconst 1, 1) := by decide +kernel
theorem dX10_isTouched_18 : decode cX10_isTouched 18 = .ok (.isub, 1) := by decide +kernel
theorem dX10_isTouched_19 : decode cX10_isTouched 19 = .ok (.istore_n 2, 1) := by decide +kernel
theorem dX10_isTouched_20 : decode cX10_isTouched 20 = .ok (.aload_n 0, 1) := by decide +kernel
theorem dX10_isTouched_21 : decode cX10_isTouched 21 = .ok (.iload_n 1, 1) := by decide +kernel
theorem dX10_isTouched_22 : decode cX10_isTouched 22 = .ok (.iconst 0, 1) := by decide +kernel
theorem dX10_isTouched_23 : decode cX10_isTouched 23 = .ok (.invokevirtual 117, 3) := by decide +kernel
theorem dX10_isTouched_26 : decode cX10_isTouched 26 = .ok (.aload_n 0, 1) := by decide +kernel
theorem dX10_isTouched_27 : decode cX10_isTouched 27 = .ok (.iload_n 1, 1) := by decide +kernel
theorem dX10_isTouched_28 : decode cX10_isTouched 28 = .ok (.iconst 0, 1) := by decide +kernel
theorem dX10_isTouched_29 : decode cX10_isTouched 29 = .ok (.iconst 1, 1) := by decide +kernel
theorem dX10_isTouched_30 : decode cX10_isTouched 30 = .ok (.iconst 0, 1) := by decide +kernel
theorem dX10_isTouched_31 : decode cX10_isTouched 31 = .ok (.invokevirtual 120, 3) := by decide +kernel
theorem dX10_isTouched_34 : decode cX10_isTouched 34 = .ok (.if_icmp .ne 54, 3) := by decide +kernel
theorem dX10_isTouched_37 : decode cX10_isTouched 37 = .ok (.aload_n 0, 1) := by decide +kernel
theorem dX10_isTouched_38 : decode cX10_isTouched 38 = .ok (.iload_n 1, 1) := by decide +kernel
theorem dX10_isTouched_39 : decode cX10_isTouched 39 = .ok (.iconst 0, 1) := by decide +kernel
theorem dX10_isTouched_40 : decode cX10_isTouched 40 = .ok (.invokevirtual 124, 3) := by decide +kernel
theorem dX10_isTouched_43 : decode cX10_isTouched 43 = .ok (.aload_n 0, 1) := by decide +kernel
theorem dX10_isTouched_44 : decode cX10_isTouched 44 = .ok (.iload_n 1, 1) := by decide +kernel
theorem dX10_isTouched_45 : decode cX10_isTouched 45 = .ok (.iconst 0, 1) := by decide +kernel
theorem dX10_isTouched_46 : decode cX10_isTouched 46 = .ok (.iconst 0, 1) := by decide +kernel
theorem dX10_isTouched_47 : decode cX10_isTouched 47 = .ok (.iconst 0, 1) := by decide +kernel
theorem dX10_isTouched_48 : decode cX10_isTouched 48 = .ok (.invokevirtual 120, 3) := by decide +kernel
theorem dX10_isTouched_51 : decode cX10_isTouched 51 = .ok (.if_icmp .ne 37, 3) := by decide +kernel
theorem dX10_isTouched_54 : decode cX10_isTouched 54 = .ok (.aload_n 0, 1) := by decide +kernel
theorem dX10_isTouched_55 : decode cX10_isTouched 55 = .ok (.iload_n 1, 1) := by decide +kernel
theorem dX10_isTouched_56 : decode cX10_isTouched 56 = .ok (.iload_n 2, 1) := by decide +kernel
theorem dX10_isTouched_57 : decode cX10_isTouched 57 = .ok (.invokevirtual 117, 3) := by decide +kernel
theorem dX10_isTouched_60 : decode cX10_isTouched 60 = .ok (.aload_n 0, 1) := by decide +kernel
theorem dX10_isTouched_61 : decode cX10_isTouched 61 = .ok (.iload_n 1, 1) := by decide +kernel
theorem dX10_isTouched_62 : decode cX10_isTouched 62 = .ok (.iconst 1, 1) := by decide +kernel
theorem dX10_isTouched_63 : decode cX10_isTouched 63 = .ok (.iconst 1, 1) := by decide +kernel
theorem dX10_isTouched_64 : decode cX10_isTouched 64 = .ok (.iconst 0, 1) := by decide +kernel
theorem dX10_isTouched_65 : decode cX10_isTouched 65 = .ok (.invokevirtual 120, 3) := by decide +kernel
theorem dX10_isTouched_68 : decode cX10_isTouched 68 = .ok (.if_icmp .ne 20, 3) := by decide +kernel
theorem dX10_isTouched_71 : decode cX10_isTouched 71 = .ok (.aload_n 0, 1) := by decide +kernel
theorem dX10_isTouched_72 : decode cX10_isTouched 72 = .ok (.iload_n 1, 1) := by decide +kernel
theorem dX10_isTouched_73 : decode cX10_isTouched 73 = .ok (.iload_n 2, 1) := by decide +kernel
theorem dX10_isTouched_74 : decode cX10_isTouched 74 = .ok (.invokevirtual 124, 3) := by decide +kernel
theorem dX10_isTouched_77 : decode cX10_isTouched 77 = .ok (.aload_n 0, 1) := by decide +kernel
theorem dX10_isTouched_78 : decode cX10_isTouched 78 = .ok (.iload_n 1, 1) := by decide +kernel
theorem dX10_isTouched_79 : decode cX10_isTouched 79 = .ok (.iconst 1, 1) := by decide +kernel
theorem dX10_isTouched_80 : decode cX10_isTouched 80 = .ok (.iconst 0, 1) := by decide +kernel
theorem dX10_isTouched_81 : decode cX10_isTouched 81 = .ok (.iconst 0, 1) := by decide +kernel
theorem dX10_isTouched_82 : decode cX10_isTouched 82 = .ok (.invokevirtual 120, 3) := by decide +kernel
theorem dX10_isTouched_85 : decode cX10_isTouched 85 = .ok (.if_icmp .eq 7, 3) := by decide +kernel
theorem dX10_isTouched_88 : decode cX10_isTouched 88 = .ok (.iconst 1, 1) := by decide +kernel
theorem dX10_isTouched_89 : decode cX10_isTouched 89 = .ok (.goto 4, 3) := by decide +kernel
theorem dX10_isTouched_92 : decode cX10_isTouched 92 = .ok (.iconst 0, 1) := by decide +kernel
theorem dX10_isTouched_93 : decode cX10_isTouched 93 = .ok (.istore_n 3, 1) := by decide +kernel
theorem dX10_isTouched_94 : decode cX10_isTouched 94 = .ok (.iconst 0, 1) := by decide +kernel
theorem dX10_isTouched_95 : decode cX10_isTouched 95 = .ok (.istore 4, 2) := by decide +kernel
theorem dX10_isTouched_97 : decode cX10_isTouched 97 = .ok (.iload 4, 2) := by decide +kernel
theorem dX10_isTouched_99 : decode cX10_isTouched 99 = .ok (.iload_n 2, 1) := by decide +kernel
theorem dX10_isTouched_100 : decode cX10_isTouched 100 = .ok (.if_icmp .ge 154, 3) := by decide +kernel
theorem dX10_isTouched_103 : decode cX10_isTouched 103 = .ok (.iload_n 3, 1) := by decide +kernel
theorem dX10_isTouched_104 : decode cX10_isTouched 104 = .ok (.ifCond .ne 150, 3) := by decide +kernel
theorem dX10_isTouched_107 : decode cX10_isTouched 107 = .ok (.aload_n 0, 1) := by decide +kernel
theorem dX10_isTouched_108 : decode cX10_isTouched 108 = .ok (.iload_n 1, 1) := by decide +kernel
theorem dX10_isTouched_109 : decode cX10_isTouched 109 = .ok (.iload 4, 2) := by decide +kernel
theorem dX10_isTouched_111 : decode cX10_isTouched 111 = .ok (.invokevirtual 117, 3) := by decide +kernel
theorem dX10_isTouched_114 : decode cX10_isTouched 114 = .ok (.istore 5, 2) := by decide +kernel
theorem dX10_isTouched_116 : decode cX10_isTouched 116 = .ok (.aload_n 0, 1) := by decide +kernel
theorem dX10_isTouched_117 : decode cX10_isTouched 117 = .ok (.iload_n 1, 1) := by decide +kernel
theorem dX10_isTouched_118 : decode cX10_isTouched 118 = .ok (.iload 4, 2) := by decide +kernel
theorem dX10_isTouched_120 : decode cX10_isTouched 120 = .ok (.invokevirtual 124, 3) := by decide +kernel
theorem dX10_isTouched_123 : decode cX10_isTouched 123 = .ok (.istore 6, 2) := by decide +kernel
theorem dX10_isTouched_125 : decode cX10_isTouched 125 = .ok (.aload_n 0, 1) := by decide +kernel
theorem dX10_isTouched_126 : decode cX10_isTouched 126 = .ok (.iload_n 1, 1) := by decide +kernel
theorem dX10_isTouched_127 : decode cX10_isTouched 127 = .ok (.iload 4, 2) := by decide +kernel
theorem dX10_isTouched_129 : decode cX10_isTouched 129 = .ok (.iconst 1, 1) := by decide +kernel
theorem dX10_isTouched_130 : decode cX10_isTouched 130 = .ok (.iadd, 1) := by decide +kernel
theorem dX10_isTouched_131 : decode cX10_isTouched 131 = .ok (.invokevirtual 117, 3) := by decide +kernel
theorem dX10_isTouched_134 : decode cX10_isTouched 134 = .ok (.iload 5, 2) := by decide +kernel
theorem dX10_isTouched_136 : decode cX10_isTouched 136 = .ok (.isub, 1) := by decide +kernel
theorem dX10_isTouched_137 : decode cX10_isTouched 137 = .ok (.invokestatic 127, 3) := by decide +kernel
theorem dX10_isTouched_140 : decode cX10_isTouched 140 = .ok (.istore 7, 2) := by decide +kernel
theorem dX10_isTouched_142 : decode cX10_isTouched 142 = .ok (.aload_n 0, 1) := by decide +kernel
theorem dX10_isTouched_143 : decode cX10_isTouched 143 = .ok (.iload_n 1, 1) := by decide +kernel
theorem dX10_isTouched_144 : decode cX10_isTouched 144 = .ok (.iload 4, 2) := by decide +kernel
theorem dX10_isTouched_146 : decode cX10_isTouched 146 = .ok (.iconst 1, 1) := by decide +kernel
theorem dX10_isTouched_147 : decode cX10_isTouched 147 = .ok (.iadd, 1) := by decide +kernel
theorem dX10_isTouched_148 : decode cX10_isTouched 148 = .ok (.invokevirtual 124, 3) := by decide +kernel
theorem dX10_isTouched_151 : decode cX10_isTouched 151 = .ok (.iload 6, 2) := by decide +kernel
theorem dX10_isTouched_153 : decode cX10_isTouched 153 = .ok (.isub, 1) := by decide +kernel
theorem dX10_isTouched_154 : decode cX10_isTouched 154 = .ok (.invokestatic 127, 3) := by decide +kernel
theorem dX10_isTouched_157 : decode cX10_isTouched 157 = .ok (.istore 8, 2) := by decide +kernel
theorem dX10_isTouched_159 : decode cX10_isTouched 159 = .ok (.iload 4, 2) := by decide +kernel
theorem dX10_isTouched_161 : decode cX10_isTouched 161 = .ok (.ifCond .ne 7, 3) := by decide +kernel
theorem dX10_isTouched_164 : decode cX10_isTouched 164 = .ok (.iconst 1, 1) := by decide +kernel
theorem dX10_isTouched_165 : decode cX10_isTouched 165 = .ok (.goto 4, 3) := by decide +kernel
theorem dX10_isTouched_168 : decode cX10_isTouched 168 = .ok (.iconst 0, 1) := by decide +kernel
theorem dX10_isTouched_169 : decode cX10_isTouched 169 = .ok (.istore 9, 2) := by decide +kernel
theorem dX10_isTouched_171 : decode cX10_isTouched 171 = .ok (.iload_n 3, 1) := by decide +kernel
theorem dX10_isTouched_172 : decode cX10_isTouched 172 = .ok (.ifCond .ne 76, 3) := by decide +kernel
theorem dX10_isTouched_175 : decode cX10_isTouched 175 = .ok (.iload 5, 2) := by decide +kernel
theorem dX10_isTouched_177 : decode cX10_isTouched 177 = .ok (.aload_n 0, 1) := by decide +kernel
theorem dX10_isTouched_178 : decode cX10_isTouched 178 = .ok (.iload_n 1, 1) := by decide +kernel
theorem dX10_isTouched_179 : decode cX10_isTouched 179 = .ok (.iload 4, 2) := by decide +kernel
theorem dX10_isTouched_181 : decode cX10_isTouched 181 = .ok (.iconst 1, 1) := by decide +kernel
theorem dX10_isTouched_182 : decode cX10_isTouched 182 = .ok (.iadd, 1) := by decide +kernel
theorem dX10_isTouched_183 : decode cX10_isTouched 183 = .ok (.invokevirtual 117, 3) := by decide +kernel
theorem dX10_isTouched_186 : decode cX10_isTouched 186 = .ok (.if_icmp .ne 17, 3) := by decide +kernel
theorem dX10_isTouched_189 : decode cX10_isTouched 189 = .ok (.iload 6, 2) := by decide +kernel
theorem dX10_isTouched_191 : decode cX10_isTouched 191 = .ok (.aload_n 0, 1) := by decide +kernel
theorem dX10_isTouched_192 : decode cX10_isTouched 192 = .ok (.iload_n 1, 1) := by decide +kernel
theorem dX10_isTouched_193 : decode cX10_isTouched 193 = .ok (.iload 4, 2) := by decide +kernel
theorem dX10_isTouched_195 : decode cX10_isTouched 195 = .ok (.iconst 1, 1) := by decide +kernel
theorem dX10_isTouched_196 : decode cX10_isTouched 196 = .ok (.iadd, 1) := by decide +kernel
theorem dX10_isTouched_197 : decode cX10_isTouched 197 = .ok (.invokevirtual 124, 3) := by decide +kernel
theorem dX10_isTouched_200 : decode cX10_isTouched 200 = .ok (.if_icmp .eq 48, 3) := by decide +kernel
theorem dX10_isTouched_203 : decode cX10_isTouched 203 = .ok (.iload 9, 2) := by decide +kernel
theorem dX10_isTouched_205 : decode cX10_isTouched 205 = .ok (.ifCond .ne 21, 3) := by decide +kernel
theorem dX10_isTouched_208 : decode cX10_isTouched 208 = .ok (.aload_n 0, 1) := by decide +kernel
theorem dX10_isTouched_209 : decode cX10_isTouched 209 = .ok (.iload 5, 2) := by decide +kernel
theorem dX10_isTouched_211 : decode cX10_isTouched 211 = .ok (.iload 6, 2) := by decide +kernel
theorem dX10_isTouched_213 : decode cX10_isTouched 213 = .ok (.invokevirtual 101, 3) := by decide +kernel
theorem dX10_isTouched_216 : decode cX10_isTouched 216 = .ok (.sipush (-1000), 3) := by decide +kernel
theorem dX10_isTouched_219 : decode cX10_isTouched 219 = .ok (.if_icmp .eq 7, 3) := by decide +kernel
theorem dX10_isTouched_222 : decode cX10_isTouched 222 = .ok (.iconst 1, 1) := by decide +kernel
theorem dX10_isTouched_223 : decode cX10_isTouched 223 = .ok (.goto 4, 3) := by decide +kernel
theorem dX10_isTouched_226 : decode cX10_isTouched 226 = .ok (.iconst 0, 1) := by decide +kernel
theorem dX10_isTouched_227 : decode cX10_isTouched 227 = .ok (.istore_n 3, 1) := by decide +kernel
theorem dX10_isTouched_228 : decode cX10_isTouched 228 = .ok (.iconst 0, 1) := by decide +kernel
theorem dX10_isTouched_229 : decode cX10_isTouched 229 = .ok (.istore 9, 2) := by decide +kernel
theorem dX10_isTouched_231 : decode cX10_isTouched 231 = .ok (.iload 5, 2) := by decide +kernel
theorem dX10_isTouched_233 : decode cX10_isTouched 233 = .ok (.iload 7, 2) := by decide +kernel
theorem dX10_isTouched_235 : decode cX10_isTouched 235 = .ok (.iadd, 1) := by decide +kernel
theorem dX10_isTouched_236 : decode cX10_isTouched 236 = .ok (.istore 5, 2) := by decide +kernel
theorem dX10_isTouched_238 : decode cX10_isTouched 238 = .ok (.iload 6, 2) := by decide +kernel
theorem dX10_isTouched_240 : decode cX10_isTouched 240 = .ok (.iload 8, 2) := by decide +kernel
theorem dX10_isTouched_242 : decode cX10_isTouched 242 = .ok (.iadd, 1) := by decide +kernel
theorem dX10_isTouched_243 : decode cX10_isTouched 243 = .ok (.istore 6, 2) := by decide +kernel
theorem dX10_isTouched_245 : decode cX10_isTouched 245 = .ok (.goto (-74), 3) := by decide +kernel
theorem dX10_isTouched_248 : decode cX10_isTouched 248 = .ok (.iinc 4 1, 3) := by decide +kernel
theorem dX10_isTouched_251 : decode cX10_isTouched 251 = .ok (.goto (-154), 3) := by decide +kernel
theorem dX10_isTouched_254 : decode cX10_isTouched 254 = .ok (.iload_n 3, 1) := by decide +kernel
theorem dX10_isTouched_255 : decode cX10_isTouched 255 = .ok (.ireturn, 1) := by decide +kernel
theorem dX10_sign_0 : decode cX10_sign 0 = .ok (.iload_n 0, 1) := by decide +kernel
theorem dX10_sign_1 : decode cX10_sign 1 = .ok (.ifCond .le 7, 3) := by decide +kernel
theorem dX10_sign_4 : decode cX10_sign 4 = .ok (.iconst 1, 1) := by decide +kernel
theorem dX10_sign_5 : decode cX10_sign 5 = .ok (.goto 12, 3) := by decide +kernel
theorem dX10_sign_8 : decode cX10_sign 8 = .ok (.iload_n 0, 1) := by decide +kernel
theorem dX10_sign_9 : decode cX10_sign 9 = .ok (.ifCond .ge 7, 3) := by decide +kernel
theorem dX10_sign_12 : decode cX10_sign 12 = .ok (.iconst (-1), 1) := by decide +kernel
theorem dX10_sign_13 : decode cX10_sign 13 = .ok (.goto 4, 3) := by decide +kernel
theorem dX10_sign_16 : decode cX10_sign 16 = .ok (.iconst 0, 1) := by decide +kernel
theorem dX10_sign_17 : decode cX10_sign 17 = .ok (.ireturn, 1) := by decide +kernel
theorem dX10_lengthOf_0 : decode cX10_lengthOf 0 = .ok (.iconst 0, 1) := by decide +kernel
theorem dX10_lengthOf_1 : decode cX10_lengthOf 1 = .ok (.istore_n 2, 1) := by decide +kernel
theorem dX10_lengthOf_2 : decode cX10_lengthOf 2 = .ok (.iconst 1, 1) := by decide +kernel
theorem dX10_lengthOf_3 : decode cX10_lengthOf 3 = .ok (.istore_n 3, 1) := by decide +kernel
theorem dX10_lengthOf_4 : decode cX10_lengthOf 4 = .ok (.iload_n 3, 1) := by decide +kernel
theorem dX10_lengthOf_5 : decode cX10_lengthOf 5 = .ok (.aload_n 0, 1) := by decide +kernel
theorem dX10_lengthOf_6 : decode cX10_lengthOf 6 = .ok (.iload_n 1, 1) := by decide +kernel
theorem dX10_lengthOf_7 : decode cX10_lengthOf 7 = .ok (.bipush 8, 2) := by decide +kernel
theorem dX10_lengthOf_9 : decode cX10_lengthOf 9 = .ok (.invokevirtual 95, 3) := by decide +kernel
theorem dX10_lengthOf_12 : decode cX10_lengthOf 12 = .ok (.if_icmp .ge 73, 3) := by decide +kernel
theorem dX10_lengthOf_15 : decode cX10_lengthOf 15 = .ok (.aload_n 0, 1) := by decide +kernel
theorem dX10_lengthOf_16 : decode cX10_lengthOf 16 = .ok (.iload_n 1, 1) := by decide +kernel
theorem dX10_lengthOf_17 : decode cX10_lengthOf 17 = .ok (.iload_n 3, 1) := by decide +kernel
theorem dX10_lengthOf_18 : decode cX10_lengthOf 18 = .ok (.invokevirtual 117, 3) := by decide +kernel
theorem dX10_lengthOf_21 : decode cX10_lengthOf 21 = .ok (.aload_n 0, 1) := by decide +kernel
theorem dX10_lengthOf_22 : decode cX10_lengthOf 22 = .ok (.iload_n 1, 1) := by decide +kernel
theorem dX10_lengthOf_23 : decode cX10_lengthOf 23 = .ok (.iload_n 3, 1) := by decide +kernel
theorem dX10_lengthOf_24 : decode cX10_lengthOf 24 = .ok (.iconst 1, 1) := by decide +kernel
theorem dX10_lengthOf_25 : decode cX10_lengthOf 25 = .ok (.isub, 1) := by decide +kernel
theorem dX10_lengthOf_26 : decode cX10_lengthOf 26 = .ok (.invokevirtual 117, 3) := by decide +kernel
theorem dX10_lengthOf_29 : decode cX10_lengthOf 29 = .ok (.isub, 1) := by decide +kernel
theorem dX10_lengthOf_30 : decode cX10_lengthOf 30 = .ok (.istore 4, 2) := by decide +kernel
theorem dX10_lengthOf_32 : decode cX10_lengthOf 32 = .ok (.aload_n 0, 1) := by decide +kernel
theorem dX10_lengthOf_33 : decode cX10_lengthOf 33 = .ok (.iload_n 1, 1) := by decide +kernel
theorem dX10_lengthOf_34 : decode cX10_lengthOf 34 = .ok (.iload_n 3, 1) := by decide +kernel
theorem dX10_lengthOf_35 : decode cX10_lengthOf 35 = .ok (.invokevirtual 124, 3) := by decide +kernel
theorem dX10_lengthOf_38 : decode cX10_lengthOf 38 = .ok (.aload_n 0, 1) := by decide +kernel
theorem dX10_lengthOf_39 : decode cX10_lengthOf 39 = .ok (.iload_n 1, 1) := by decide +kernel
theorem dX10_lengthOf_40 : decode cX10_lengthOf 40 = .ok (.iload_n 3, 1) := by decide +kernel
theorem dX10_lengthOf_41 : decode cX10_lengthOf 41 = .ok (.iconst 1, 1) := by decide +kernel
theorem dX10_lengthOf_42 : decode cX10_lengthOf 42 = .ok (.isub, 1) := by decide +kernel
theorem dX10_lengthOf_43 : decode cX10_lengthOf 43 = .ok (.invokevirtual 124, 3) := by decide +kernel
theorem dX10_lengthOf_46 : decode cX10_lengthOf 46 = .ok (.isub, 1) := by decide +kernel
theorem dX10_lengthOf_47 : decode cX10_lengthOf 47 = .ok (.istore 5, 2) := by decide +kernel
theorem dX10_lengthOf_49 : decode cX10_lengthOf 49 = .ok (.iload_n 2, 1) := by decide +kernel
theorem dX10_lengthOf_50 : decode cX10_lengthOf 50 = .ok (.iload 4, 2) := by decide +kernel
theorem dX10_lengthOf_52 : decode cX10_lengthOf 52 = .ok (.ifCond .ge 9, 3) := by decide +kernel
theorem dX10_lengthOf_55 : decode cX10_lengthOf 55 = .ok (.iload 4, 2) := by decide +kernel
theorem dX10_lengthOf_57 : decode cX10_lengthOf 57 = .ok (.ineg, 1) := by decide +kernel
theorem dX10_lengthOf_58 : decode cX10_lengthOf 58 = .ok (.goto 5, 3) := by decide +kernel
theorem dX10_lengthOf_61 : decode cX10_lengthOf 61 = .ok (.iload 4, 2) := by decide +kernel
theorem dX10_lengthOf_63 : decode cX10_lengthOf 63 = .ok (.iload 5, 2) := by decide +kernel
theorem dX10_lengthOf_65 : decode cX10_lengthOf 65 = .ok (.ifCond .ge 9, 3) := by decide +kernel
theorem dX10_lengthOf_68 : decode cX10_lengthOf 68 = .ok (.iload 5, 2) := by decide +kernel
theorem dX10_lengthOf_70 : decode cX10_lengthOf 70 = .ok (.ineg, 1) := by decide +kernel
theorem dX10_lengthOf_71 : decode cX10_lengthOf 71 = .ok (.goto 5, 3) := by decide +kernel
theorem dX10_lengthOf_74 : decode cX10_lengthOf 74 = .ok (.iload 5, 2) := by decide +kernel
theorem dX10_lengthOf_76 : decode cX10_lengthOf 76 = .ok (.iadd, 1) := by decide +kernel
theorem dX10_lengthOf_77 : decode cX10_lengthOf 77 = .ok (.iadd, 1) := by decide +kernel
theorem dX10_lengthOf_78 : decode cX10_lengthOf 78 = .ok (.istore_n 2, 1) := by decide +kernel
theorem dX10_lengthOf_79 : decode cX10_lengthOf 79 = .ok (.iinc 3 1, 3) := by decide +kernel
theorem dX10_lengthOf_82 : decode cX10_lengthOf 82 = .ok (.goto (-78), 3) := by decide +kernel
theorem dX10_lengthOf_85 : decode cX10_lengthOf 85 = .ok (.iload_n 2, 1) := by decide +kernel
theorem dX10_lengthOf_86 : decode cX10_lengthOf 86 = .ok (.ireturn, 1) := by decide +kernel
theorem dX10_count_0 : decode cX10_count 0 = .ok (.iconst 0, 1) := by decide +kernel
theorem dX10_count_1 : decode cX10_count 1 = .ok (.istore_n 2, 1) := by decide +kernel
theorem dX10_count_2 : decode cX10_count 2 = .ok (.iconst 0, 1) := by decide +kernel
theorem dX10_count_3 : decode cX10_count 3 = .ok (.istore_n 3, 1) := by decide +kernel
theorem dX10_count_4 : decode cX10_count 4 = .ok (.iload_n 3, 1) := by decide +kernel
theorem dX10_count_5 : decode cX10_count 5 = .ok (.aload_n 0, 1) := by decide +kernel
theorem dX10_count_6 : decode cX10_count 6 = .ok (.getfield 7, 3) := by decide +kernel
theorem dX10_count_9 : decode cX10_count 9 = .ok (.iconst 1, 1) := by decide +kernel
theorem dX10_count_10 : decode cX10_count 10 = .ok (.iaload, 1) := by decide +kernel
theorem dX10_count_11 : decode cX10_count 11 = .ok (.if_icmp .ge 83, 3) := by decide +kernel
theorem dX10_count_14 : decode cX10_count 14 = .ok (.iload_n 2, 1) := by decide +kernel
theorem dX10_count_15 : decode cX10_count 15 = .ok (.iload_n 1, 1) := by decide +kernel
theorem dX10_count_16 : decode cX10_count 16 = .ok (.iconst 3, 1) := by decide +kernel
theorem dX10_count_17 : decode cX10_count 17 = .ok (.if_icmp .ne 15, 3) := by decide +kernel
theorem dX10_count_20 : decode cX10_count 20 = .ok (.aload_n 0, 1) := by decide +kernel
theorem dX10_count_21 : decode cX10_count 21 = .ok (.iload_n 3, 1) := by decide +kernel
theorem dX10_count_22 : decode cX10_count 22 = .ok (.invokevirtual 98, 3) := by decide +kernel
theorem dX10_count_25 : decode cX10_count 25 = .ok (.ifCond .eq 7, 3) := by decide +kernel
theorem dX10_count_28 : decode cX10_count 28 = .ok (.iconst 1, 1) := by decide +kernel
theorem dX10_count_29 : decode cX10_count 29 = .ok (.goto 27, 3) := by decide +kernel
theorem dX10_count_32 : decode cX10_count 32 = .ok (.iload_n 1, 1) := by decide +kernel
theorem dX10_count_33 : decode cX10_count 33 = .ok (.iconst 4, 1) := by decide +kernel
theorem dX10_count_34 : decode cX10_count 34 = .ok (.if_icmp .ne 21, 3) := by decide +kernel
theorem dX10_count_37 : decode cX10_count 37 = .ok (.aload_n 0, 1) := by decide +kernel
theorem dX10_count_38 : decode cX10_count 38 = .ok (.iload_n 3, 1) := by decide +kernel
theorem dX10_count_39 : decode cX10_count 39 = .ok (.invokevirtual 114, 3) := by decide +kernel
theorem dX10_count_42 : decode cX10_count 42 = .ok (.ifCond .eq 13, 3) := by decide +kernel
theorem dX10_count_45 : decode cX10_count 45 = .ok (.aload_n 0, 1) := by decide +kernel
theorem dX10_count_46 : decode cX10_count 46 = .ok (.iload_n 3, 1) := by decide +kernel
theorem dX10_count_47 : decode cX10_count 47 = .ok (.bipush 7, 2) := by decide +kernel
theorem dX10_count_49 : decode cX10_count 49 = .ok (.invokevirtual 95, 3) := by decide +kernel
theorem dX10_count_52 : decode cX10_count 52 = .ok (.goto 4, 3) := by decide +kernel
theorem dX10_count_55 : decode cX10_count 55 = .ok (.iconst 0, 1) := by decide +kernel
theorem dX10_count_56 : decode cX10_count 56 = .ok (.iadd, 1) := by decide +kernel
theorem dX10_count_57 : decode cX10_count 57 = .ok (.istore_n 2, 1) := by decide +kernel
theorem dX10_count_58 : decode cX10_count 58 = .ok (.iconst 0, 1) := by decide +kernel
theorem dX10_count_59 : decode cX10_count 59 = .ok (.istore 4, 2) := by decide +kernel
theorem dX10_count_61 : decode cX10_count 61 = .ok (.iload 4, 2) := by decide +kernel
theorem dX10_count_63 : decode cX10_count 63 = .ok (.iload_n 3, 1) := by decide +kernel
theorem dX10_count_64 : decode cX10_count 64 = .ok (.if_icmp .ge 24, 3) := by decide +kernel
theorem dX10_count_67 : decode cX10_count 67 = .ok (.iload_n 1, 1) := by decide +kernel
theorem dX10_count_68 : decode cX10_count 68 = .ok (.iconst 5, 1) := by decide +kernel
theorem dX10_count_69 : decode cX10_count 69 = .ok (.if_icmp .ne 19, 3) := by decide +kernel
theorem dX10_count_72 : decode cX10_count 72 = .ok (.iload_n 2, 1) := by decide +kernel
theorem dX10_count_73 : decode cX10_count 73 = .ok (.aload_n 0, 1) := by decide +kernel
theorem dX10_count_74 : decode cX10_count 74 = .ok (.iload_n 3, 1) := by decide +kernel
theorem dX10_count_75 : decode cX10_count 75 = .ok (.iload 4, 2) := by decide +kernel
theorem dX10_count_77 : decode cX10_count 77 = .ok (.invokevirtual 131, 3) := by decide +kernel
theorem dX10_count_80 : decode cX10_count 80 = .ok (.iadd, 1) := by decide +kernel
theorem dX10_count_81 : decode cX10_count 81 = .ok (.istore_n 2, 1) := by decide +kernel
theorem dX10_count_82 : decode cX10_count 82 = .ok (.iinc 4 1, 3) := by decide +kernel
theorem dX10_count_85 : decode cX10_count 85 = .ok (.goto (-24), 3) := by decide +kernel
theorem dX10_count_88 : decode cX10_count 88 = .ok (.iinc 3 1, 3) := by decide +kernel
theorem dX10_count_91 : decode cX10_count 91 = .ok (.goto (-87), 3) := by decide +kernel
theorem dX10_count_94 : decode cX10_count 94 = .ok (.iload_n 1, 1) := by decide +kernel
theorem dX10_count_95 : decode cX10_count 95 = .ok (.iconst 0, 1) := by decide +kernel
theorem dX10_count_96 : decode cX10_count 96 = .ok (.iconst 5, 1) := by decide +kernel
theorem dX10_count_97 : decode cX10_count 97 = .ok (.invokestatic 68, 3) := by decide +kernel
theorem dX10_count_100 : decode cX10_count 100 = .ok (.ifCond .ne 9, 3) := by decide +kernel
theorem dX10_count_103 : decode cX10_count 103 = .ok (.sipush (-1002), 3) := by decide +kernel
theorem dX10_count_106 : decode cX10_count 106 = .ok (.goto 45, 3) := by decide +kernel
theorem dX10_count_109 : decode cX10_count 109 = .ok (.iload_n 1, 1) := by decide +kernel
theorem dX10_count_110 : decode cX10_count 110 = .ok (.iconst 2, 1) := by decide +kernel
theorem dX10_count_111 : decode cX10_count 111 = .ok (.if_icmp .le 7, 3) := by decide +kernel
theorem dX10_count_114 : decode cX10_count 114 = .ok (.iload_n 2, 1) := by decide +kernel
theorem dX10_count_115 : decode cX10_count 115 = .ok (.goto 36, 3) := by decide +kernel
theorem dX10_count_118 : decode cX10_count 118 = .ok (.iload_n 1, 1) := by decide +kernel
theorem dX10_count_119 : decode cX10_count 119 = .ok (.ifCond .ne 12, 3) := by decide +kernel
theorem dX10_count_122 : decode cX10_count 122 = .ok (.aload_n 0, 1) := by decide +kernel
theorem dX10_count_123 : decode cX10_count 123 = .ok (.getfield 7, 3) := by decide +kernel
theorem dX10_count_126 : decode cX10_count 126 = .ok (.iconst 0, 1) := by decide +kernel
theorem dX10_count_127 : decode cX10_count 127 = .ok (.iaload, 1) := by decide +kernel
theorem dX10_count_128 : decode cX10_count 128 = .ok (.goto 23, 3) := by decide +kernel
theorem dX10_count_131 : decode cX10_count 131 = .ok (.iload_n 1, 1) := by decide +kernel
theorem dX10_count_132 : decode cX10_count 132 = .ok (.iconst 1, 1) := by decide +kernel
theorem dX10_count_133 : decode cX10_count 133 = .ok (.if_icmp .ne 12, 3) := by decide +kernel
theorem dX10_count_136 : decode cX10_count 136 = .ok (.aload_n 0, 1) := by decide +kernel
theorem dX10_count_137 : decode cX10_count 137 = .ok (.getfield 7, 3) := by decide +kernel
theorem dX10_count_140 : decode cX10_count 140 = .ok (.iconst 1, 1) := by decide +kernel
theorem dX10_count_141 : decode cX10_count 141 = .ok (.iaload, 1) := by decide +kernel
theorem dX10_count_142 : decode cX10_count 142 = .ok (.goto 9, 3) := by decide +kernel
theorem dX10_count_145 : decode cX10_count 145 = .ok (.aload_n 0, 1) := by decide +kernel
theorem dX10_count_146 : decode cX10_count 146 = .ok (.getfield 7, 3) := by decide +kernel
theorem dX10_count_149 : decode cX10_count 149 = .ok (.iconst 2, 1) := by decide +kernel
theorem dX10_count_150 : decode cX10_count 150 = .ok (.iaload, 1) := by decide +kernel
theorem dX10_count_151 : decode cX10_count 151 = .ok (.ireturn, 1) := by decide +kernel
theorem dX10_connector_0 : decode cX10_connector 0 = .ok (.aload_n 0, 1) := by decide +kernel
theorem dX10_connector_1 : decode cX10_connector 1 = .ok (.iload_n 1, 1) := by decide +kernel
theorem dX10_connector_2 : decode cX10_connector 2 = .ok (.invokevirtual 111, 3) := by decide +kernel
theorem dX10_connector_5 : decode cX10_connector 5 = .ok (.ifCond .ne 7, 3) := by decide +kernel
theorem dX10_connector_8 : decode cX10_connector 8 = .ok (.sipush (-1001), 3) := by decide +kernel
theorem dX10_connector_11 : decode cX10_connector 11 = .ok (.ireturn, 1) := by decide +kernel
theorem dX10_connector_12 : decode cX10_connector 12 = .ok (.iload_n 2, 1) := by decide +kernel
theorem dX10_connector_13 : decode cX10_connector 13 = .ok (.iconst 0, 1) := by decide +kernel
theorem dX10_connector_14 : decode cX10_connector 14 = .ok (.bipush 11, 2) := by decide +kernel
theorem dX10_connector_16 : decode cX10_connector 16 = .ok (.invokestatic 68, 3) := by decide +kernel
theorem dX10_connector_19 : decode cX10_connector 19 = .ok (.ifCond .ne 7, 3) := by decide +kernel
theorem dX10_connector_22 : decode cX10_connector 22 = .ok (.sipush (-1002), 3) := by decide +kernel
theorem dX10_connector_25 : decode cX10_connector 25 = .ok (.ireturn, 1) := by decide +kernel
theorem dX10_connector_26 : decode cX10_connector 26 = .ok (.iload_n 2, 1) := by decide +kernel
theorem dX10_connector_27 : decode cX10_connector 27 = .ok (.bipush 6, 2) := by decide +kernel
theorem dX10_connector_29 : decode cX10_connector 29 = .ok (.if_icmp .ge 10, 3) := by decide +kernel
theorem dX10_connector_32 : decode cX10_connector 32 = .ok (.aload_n 0, 1) := by decide +kernel
theorem dX10_connector_33 : decode cX10_connector 33 = .ok (.iload_n 1, 1) := by decide +kernel
theorem dX10_connector_34 : decode cX10_connector 34 = .ok (.iload_n 2, 1) := by decide +kernel
theorem dX10_connector_35 : decode cX10_connector 35 = .ok (.invokevirtual 95, 3) := by decide +kernel
theorem dX10_connector_38 : decode cX10_connector 38 = .ok (.ireturn, 1) := by decide +kernel
theorem dX10_connector_39 : decode cX10_connector 39 = .ok (.iload_n 2, 1) := by decide +kernel
theorem dX10_connector_40 : decode cX10_connector 40 = .ok (.bipush 10, 2) := by decide +kernel
theorem dX10_connector_42 : decode cX10_connector 42 = .ok (.if_icmp .ge 27, 3) := by decide +kernel
theorem dX10_connector_45 : decode cX10_connector 45 = .ok (.aload_n 0, 1) := by decide +kernel
theorem dX10_connector_46 : decode cX10_connector 46 = .ok (.iload_n 1, 1) := by decide +kernel
theorem dX10_connector_47 : decode cX10_connector 47 = .ok (.iload_n 2, 1) := by decide +kernel
theorem dX10_connector_48 : decode cX10_connector 48 = .ok (.bipush 6, 2) := by decide +kernel
theorem dX10_connector_50 : decode cX10_connector 50 = .ok (.isub, 1) := by decide +kernel
theorem dX10_connector_51 : decode cX10_connector 51 = .ok (.iconst 2, 1) := by decide +kernel
theorem dX10_connector_52 : decode cX10_connector 52 = .ok (.idiv, 1) := by decide +kernel
theorem dX10_connector_53 : decode cX10_connector 53 = .ok (.iload_n 2, 1) := by decide +kernel
theorem dX10_connector_54 : decode cX10_connector 54 = .ok (.iconst 2, 1) := by decide +kernel
theorem dX10_connector_55 : decode cX10_connector 55 = .ok (.irem, 1) := by decide +kernel
theorem dX10_connector_56 : decode cX10_connector 56 = .ok (.ifCond .ne 7, 3) := by decide +kernel
theorem dX10_connector_59 : decode cX10_connector 59 = .ok (.iconst 1, 1) := by decide +kernel
theorem dX10_connector_60 : decode cX10_connector 60 = .ok (.goto 4, 3) := by decide +kernel
theorem dX10_connector_63 : decode cX10_connector 63 = .ok (.iconst 0, 1) := by decide +kernel
theorem dX10_connector_64 : decode cX10_connector 64 = .ok (.iconst 0, 1) := by decide +kernel
theorem dX10_connector_65 : decode cX10_connector 65 = .ok (.invokevirtual 120, 3) := by decide +kernel
theorem dX10_connector_68 : decode cX10_connector 68 = .ok (.ireturn, 1) := by decide +kernel
theorem dX10_connector_69 : decode cX10_connector 69 = .ok (.iload_n 2, 1) := by decide +kernel
theorem dX10_connector_70 : decode cX10_connector 70 = .ok (.bipush 10, 2) := by decide +kernel
theorem dX10_connector_72 : decode cX10_connector 72 = .ok (.if_icmp .ne 13, 3) := by decide +kernel
theorem dX10_connector_75 : decode cX10_connector 75 = .ok (.aload_n 0, 1) := by decide +kernel
theorem dX10_connector_76 : decode cX10_connector 76 = .ok (.iload_n 1, 1) := by decide +kernel
theorem dX10_connector_77 : decode cX10_connector 77 = .ok (.bipush 6, 2) := by decide +kernel
theorem dX10_connector_79 : decode cX10_connector 79 = .ok (.invokevirtual 95, 3) := by decide +kernel
theorem dX10_connector_82 : decode cX10_connector 82 = .ok (.goto 16, 3) := by decide +kernel
theorem dX10_connector_85 : decode cX10_connector 85 = .ok (.aload_n 0, 1) := by decide +kernel
theorem dX10_connector_86 : decode cX10_connector 86 = .ok (.iload_n 1, 1) := by decide +kernel
theorem dX10_connector_87 : decode cX10_connector 87 = .ok (.invokevirtual 98, 3) := by decide +kernel
theorem dX10_connector_90 : decode cX10_connector 90 = .ok (.ifCond .eq 7, 3) := by decide +kernel
theorem dX10_connector_93 : decode cX10_connector 93 = .ok (.iconst 1, 1) := by decide +kernel
theorem dX10_connector_94 : decode cX10_connector 94 = .ok (.goto 4, 3) := by decide +kernel
theorem dX10_connector_97 : decode cX10_connector 97 = .ok (.iconst 0, 1) := by decide +kernel
theorem dX10_connector_98 : decode cX10_connector 98 = .ok (.ireturn, 1) := by decide +kernel
theorem dX10_addsX_0 : decode cX10_addsX 0 = .ok (.iconst 0, 1) := by decide +kernel
theorem dX10_addsX_1 : decode cX10_addsX 1 = .ok (.istore_n 2, 1) := by decide +kernel
theorem dX10_addsX_2 : decode cX10_addsX 2 = .ok (.iload_n 2, 1) := by decide +kernel
theorem dX10_addsX_3 : decode cX10_addsX 3 = .ok (.aload_n 0, 1) := by decide +kernel
theorem dX10_addsX_4 : decode cX10_addsX 4 = .ok (.getfield 134, 3) := by decide +kernel
theorem dX10_addsX_7 : decode cX10_addsX 7 = .ok (.if_icmp .ge 19, 3) := by decide +kernel
theorem dX10_addsX_10 : decode cX10_addsX 10 = .ok (.aload_n 0, 1) := by decide +kernel
theorem dX10_addsX_11 : decode cX10_addsX 11 = .ok (.getfield 13, 3) := by decide +kernel
theorem dX10_addsX_14 : decode cX10_addsX 14 = .ok (.iload_n 2, 1) := by decide +kernel
theorem dX10_addsX_15 : decode cX10_addsX 15 = .ok (.iaload, 1) := by decide +kernel
theorem dX10_addsX_16 : decode cX10_addsX 16 = .ok (.iload_n 1, 1) := by decide +kernel
theorem dX10_addsX_17 : decode cX10_addsX 17 = .ok (.if_icmp .ge 9, 3) := by decide +kernel
theorem dX10_addsX_20 : decode cX10_addsX 20 = .ok (.iinc 2 1, 3) := by decide +kernel
theorem dX10_addsX_23 : decode cX10_addsX 23 = .ok (.goto (-21), 3) := by decide +kernel
theorem dX10_addsX_26 : decode cX10_addsX 26 = .ok (.iload_n 2, 1) := by decide +kernel
theorem dX10_addsX_27 : decode cX10_addsX 27 = .ok (.aload_n 0, 1) := by decide +kernel
theorem dX10_addsX_28 : decode cX10_addsX 28 = .ok (.getfield 134, 3) := by decide +kernel
theorem dX10_addsX_31 : decode cX10_addsX 31 = .ok (.if_icmp .ge 14, 3) := by decide +kernel
theorem dX10_addsX_34 : decode cX10_addsX 34 = .ok (.aload_n 0, 1) := by decide +kernel
theorem dX10_addsX_35 : decode cX10_addsX 35 = .ok (.getfield 13, 3) := by decide +kernel
theorem dX10_addsX_38 : decode cX10_addsX 38 = .ok (.iload_n 2, 1) := by decide +kernel
theorem dX10_addsX_39 : decode cX10_addsX 39 = .ok (.iaload, 1) := by decide +kernel
theorem dX10_addsX_40 : decode cX10_addsX 40 = .ok (.iload_n 1, 1) := by decide +kernel
theorem dX10_addsX_41 : decode cX10_addsX 41 = .ok (.if_icmp .ne 4, 3) := by decide +kernel
theorem dX10_addsX_44 : decode cX10_addsX 44 = .ok (.return_, 1) := by decide +kernel
theorem dX10_addsX_45 : decode cX10_addsX 45 = .ok (.aload_n 0, 1) := by decide +kernel
theorem dX10_addsX_46 : decode cX10_addsX 46 = .ok (.getfield 134, 3) := by decide +kernel
theorem dX10_addsX_49 : decode cX10_addsX 49 = .ok (.istore_n 3, 1) := by decide +kernel
theorem dX10_addsX_50 : decode cX10_addsX 50 = .ok (.iload_n 3, 1) := by decide +kernel
theorem dX10_addsX_51 : decode cX10_addsX 51 = .ok (.iload_n 2, 1) := by decide +kernel
theorem dX10_addsX_52 : decode cX10_addsX 52 = .ok (.if_icmp .le 23, 3) := by decide +kernel
theorem dX10_addsX_55 : decode cX10_addsX 55 = .ok (.aload_n 0, 1) := by decide +kernel
theorem dX10_addsX_56 : decode cX10_addsX 56 = .ok (.getfield 13, 3) := by decide +kernel
theorem dX10_addsX_59 : decode cX10_addsX 59 = .ok (.iload_n 3, 1) := by decide +kernel
theorem dX10_addsX_60 : decode cX10_addsX 60 = .ok (.aload_n 0, 1) := by decide +kernel
theorem dX10_addsX_61 : decode cX10_addsX 61 = .ok (.getfield 13, 3) := by decide +kernel
theorem dX10_addsX_64 : decode cX10_addsX 64 = .ok (.iload_n 3, 1) := by decide +kernel
theorem dX10_addsX_65 : decode cX10_addsX 65 = .ok (.iconst 1, 1) := by decide +kernel
theorem dX10_addsX_66 : decode cX10_addsX 66 = .ok (.isub, 1) := by decide +kernel
theorem dX10_addsX_67 : decode cX10_addsX 67 = .ok (.iaload, 1) := by decide +kernel
theorem dX10_addsX_68 : decode cX10_addsX 68 = .ok (.iastore, 1) := by decide +kernel
theorem dX10_addsX_69 : decode cX10_addsX 69 = .ok (.iinc 3 (-1), 3) := by decide +kernel
theorem dX10_addsX_72 : decode cX10_addsX 72 = .ok (.goto (-22), 3) := by decide +kernel
theorem dX10_addsX_75 : decode cX10_addsX 75 = .ok (.aload_n 0, 1) := by decide +kernel
theorem dX10_addsX_76 : decode cX10_addsX 76 = .ok (.getfield 13, 3) := by decide +kernel
theorem dX10_addsX_79 : decode cX10_addsX 79 = .ok (.iload_n 2, 1) := by decide +kernel
theorem dX10_addsX_80 : decode cX10_addsX 80 = .ok (.iload_n 1, 1) := by decide +kernel
theorem dX10_addsX_81 : decode cX10_addsX 81 = .ok (.iastore, 1) := by decide +kernel
theorem dX10_addsX_82 : decode cX10_addsX 82 = .ok (.aload_n 0, 1) := by decide +kernel
theorem dX10_addsX_83 : decode cX10_addsX 83 = .ok (.dup, 1) := by decide +kernel
theorem dX10_addsX_84 : decode cX10_addsX 84 = .ok (.getfield 134, 3) := by decide +kernel
theorem dX10_addsX_87 : decode cX10_addsX 87 = .ok (.iconst 1, 1) := by decide +kernel
theorem dX10_addsX_88 : decode cX10_addsX 88 = .ok (.iadd, 1) := by decide +kernel
theorem dX10_addsX_89 : decode cX10_addsX 89 = .ok (.putfield 134, 3) := by decide +kernel
theorem dX10_addsX_92 : decode cX10_addsX 92 = .ok (.return_, 1) := by decide +kernel
theorem dX10_addsY_0 : decode cX10_addsY 0 = .ok (.iconst 0, 1) := by decide +kernel
theorem dX10_addsY_1 : decode cX10_addsY 1 = .ok (.istore_n 2, 1) := by decide +kernel
theorem dX10_addsY_2 : decode cX10_addsY 2 = .ok (.iload_n 2, 1) := by decide +kernel
theorem dX10_addsY_3 : decode cX10_addsY 3 = .ok (.aload_n 0, 1) := by decide +kernel
theorem dX10_addsY_4 : decode cX10_addsY 4 = .ok (.getfield 137, 3) := by decide +kernel
theorem dX10_addsY_7 : decode cX10_addsY 7 = .ok (.if_icmp .ge 19, 3) := by decide +kernel
theorem dX10_addsY_10 : decode cX10_addsY 10 = .ok (.aload_n 0, 1) := by decide +kernel
theorem dX10_addsY_11 : decode cX10_addsY 11 = .ok (.getfield 16, 3) := by decide +kernel
theorem dX10_addsY_14 : decode cX10_addsY 14 = .ok (.iload_n 2, 1) := by decide +kernel
theorem dX10_addsY_15 : decode cX10_addsY 15 = .ok (.iaload, 1) := by decide +kernel
theorem dX10_addsY_16 : decode cX10_addsY 16 = .ok (.iload_n 1, 1) := by decide +kernel
theorem dX10_addsY_17 : decode cX10_addsY 17 = .ok (.if_icmp .ge 9, 3) := by decide +kernel
theorem dX10_addsY_20 : decode cX10_addsY 20 = .ok (.iinc 2 1, 3) := by decide +kernel
theorem dX10_addsY_23 : decode cX10_addsY 23 = .ok (.goto (-21), 3) := by decide +kernel
theorem dX10_addsY_26 : decode cX10_addsY 26 = .ok (.iload_n 2, 1) := by decide +kernel
theorem dX10_addsY_27 : decode cX10_addsY 27 = .ok (.aload_n 0, 1) := by decide +kernel
theorem dX10_addsY_28 : decode cX10_addsY 28 = .ok (.getfield 137, 3) := by decide +kernel
theorem dX10_addsY_31 : decode cX10_addsY 31 = .ok (.if_icmp .ge 14, 3) := by decide +kernel
theorem dX10_addsY_34 : decode cX10_addsY 34 = .ok (.aload_n 0, 1) := by decide +kernel
theorem dX10_addsY_35 : decode cX10_addsY 35 = .ok (.getfield 16, 3) := by decide +kernel
theorem dX10_addsY_38 : decode cX10_addsY 38 = .ok (.iload_n 2, 1) := by decide +kernel
theorem dX10_addsY_39 : decode cX10_addsY 39 = .ok (.iaload, 1) := by decide +kernel
theorem dX10_addsY_40 : decode cX10_addsY 40 = .ok (.iload_n 1, 1) := by decide +kernel
theorem dX10_addsY_41 : decode cX10_addsY 41 = .ok (.if_icmp .ne 4, 3) := by decide +kernel
theorem dX10_addsY_44 : decode cX10_addsY 44 = .ok (.return_, 1) := by decide +kernel
theorem dX10_addsY_45 : decode cX10_addsY 45 = .ok (.aload_n 0, 1) := by decide +kernel
theorem dX10_addsY_46 : decode cX10_addsY 46 = .ok (.getfield 137, 3) := by decide +kernel
theorem dX10_addsY_49 : decode cX10_addsY 49 = .ok (.istore_n 3, 1) := by decide +kernel
theorem dX10_addsY_50 : decode cX10_addsY 50 = .ok (.iload_n 3, 1) := by decide +kernel
theorem dX10_addsY_51 : decode cX10_addsY 51 = .ok (.iload_n 2, 1) := by decide +kernel
theorem dX10_addsY_52 : decode cX10_addsY 52 = .ok (.if_icmp .le 23, 3) := by decide +kernel
theorem dX10_addsY_55 : decode cX10_addsY 55 = .ok (.aload_n 0, 1) := by decide +kernel
theorem dX10_addsY_56 : decode cX10_addsY 56 = .ok (.getfield 16, 3) := by decide +kernel
theorem dX10_addsY_59 : decode cX10_addsY 59 = .ok (.iload_n 3, 1) := by decide +kernel
theorem dX10_addsY_60 : decode cX10_addsY 60 = .ok (.aload_n 0, 1) := by decide +kernel
theorem dX10_addsY_61 : decode cX10_addsY 61 = .ok (.getfield 16, 3) := by decide +kernel
theorem dX10_addsY_64 : decode cX10_addsY 64 = .ok (.iload_n 3, 1) := by decide +kernel
theorem dX10_addsY_65 : decode cX10_addsY 65 = .ok (.iconst 1, 1) := by decide +kernel
theorem dX10_addsY_66 : decode cX10_addsY 66 = .ok (.isub, 1) := by decide +kernel
theorem dX10_addsY_67 : decode cX10_addsY 67 = .ok (.iaload, 1) := by decide +kernel
theorem dX10_addsY_68 : decode cX10_addsY 68 = .ok (.iastore, 1) := by decide +kernel
theorem dX10_addsY_69 : decode cX10_addsY 69 = .ok (.iinc 3 (-1), 3) := by decide +kernel
theorem dX10_addsY_72 : decode cX10_addsY 72 = .ok (.goto (-22), 3) := by decide +kernel
theorem dX10_addsY_75 : decode cX10_addsY 75 = .ok (.aload_n 0, 1) := by decide +kernel
theorem dX10_addsY_76 : decode cX10_addsY 76 = .ok (.getfield 16, 3) := by decide +kernel
theorem dX10_addsY_79 : decode cX10_addsY 79 = .ok (.iload_n 2, 1) := by decide +kernel
theorem dX10_addsY_80 : decode cX10_addsY 80 = .ok (.iload_n 1, 1) := by decide +kernel
theorem dX10_addsY_81 : decode cX10_addsY 81 = .ok (.iastore, 1) := by decide +kernel
theorem dX10_addsY_82 : decode cX10_addsY 82 = .ok (.aload_n 0, 1) := by decide +kernel
theorem dX10_addsY_83 : decode cX10_addsY 83 = .ok (.dup, 1) := by decide +kernel
theorem dX10_addsY_84 : decode cX10_addsY 84 = .ok (.getfield 137, 3) := by decide +kernel
theorem dX10_addsY_87 : decode cX10_addsY 87 = .ok (.iconst 1, 1) := by decide +kernel
theorem dX10_addsY_88 : decode cX10_addsY 88 = .ok (.iadd, 1) := by decide +kernel
theorem dX10_addsY_89 : decode cX10_addsY 89 = .ok (.putfield 137, 3) := by decide +kernel
theorem dX10_addsY_92 : decode cX10_addsY 92 = .ok (.return_, 1) := by decide +kernel
theorem dX10_makesGrid_0 : decode cX10_makesGrid 0 = .ok (.aload_n 0, 1) := by decide +kernel
theorem dX10_makesGrid_1 : decode cX10_makesGrid 1 = .ok (.iconst 0, 1) := by decide +kernel
theorem dX10_makesGrid_2 : decode cX10_makesGrid 2 = .ok (.putfield 134, 3) := by decide +kernel
theorem dX10_makesGrid_5 : decode cX10_makesGrid 5 = .ok (.aload_n 0, 1) := by decide +kernel
theorem dX10_makesGrid_6 : decode cX10_makesGrid 6 = .ok (.iconst 0, 1) := by decide +kernel
theorem dX10_makesGrid_7 : decode cX10_makesGrid 7 = .ok (.putfield 137, 3) := by decide +kernel
theorem dX10_makesGrid_10 : decode cX10_makesGrid 10 = .ok (.iconst 0, 1) := by decide +kernel
theorem dX10_makesGrid_11 : decode cX10_makesGrid 11 = .ok (.istore_n 2, 1) := by decide +kernel
theorem dX10_makesGrid_12 : decode cX10_makesGrid 12 = .ok (.iload_n 2, 1) := by decide +kernel
theorem dX10_makesGrid_13 : decode cX10_makesGrid 13 = .ok (.aload_n 0, 1) := by decide +kernel
theorem dX10_makesGrid_14 : decode cX10_makesGrid 14 = .ok (.getfield 7, 3) := by decide +kernel
theorem dX10_makesGrid_17 : decode cX10_makesGrid 17 = .ok (.iconst 0, 1) := by decide +kernel
theorem dX10_makesGrid_18 : decode cX10_makesGrid 18 = .ok (.iaload, 1) := by decide +kernel
theorem dX10_makesGrid_19 : decode cX10_makesGrid 19 = .ok (.if_icmp .ge 57, 3) := by decide +kernel
theorem dX10_makesGrid_22 : decode cX10_makesGrid 22 = .ok (.aload_n 0, 1) := by decide +kernel
theorem dX10_makesGrid_23 : decode cX10_makesGrid 23 = .ok (.aload_n 0, 1) := by decide +kernel
theorem dX10_makesGrid_24 : decode cX10_makesGrid 24 = .ok (.iload_n 2, 1) := by decide +kernel
theorem dX10_makesGrid_25 : decode cX10_makesGrid 25 = .ok (.iconst 0, 1) := by decide +kernel
theorem dX10_makesGrid_26 : decode cX10_makesGrid 26 = .ok (.invokevirtual 72, 3) := by decide +kernel
theorem dX10_makesGrid_29 : decode cX10_makesGrid 29 = .ok (.iconst 1, 1) := by decide +kernel
theorem dX10_makesGrid_30 : decode cX10_makesGrid 30 = .ok (.isub, 1) := by decide +kernel
theorem dX10_makesGrid_31 : decode cX10_makesGrid 31 = .ok (.invokevirtual 140, 3) := by decide +kernel
theorem dX10_makesGrid_34 : decode cX10_makesGrid 34 = .ok (.aload_n 0, 1) := by decide +kernel
theorem dX10_makesGrid_35 : decode cX10_makesGrid 35 = .ok (.aload_n 0, 1) := by decide +kernel
theorem dX10_makesGrid_36 : decode cX10_makesGrid 36 = .ok (.iload_n 2, 1) := by decide +kernel
theorem dX10_makesGrid_37 : decode cX10_makesGrid 37 = .ok (.iconst 2, 1) := by decide +kernel
theorem dX10_makesGrid_38 : decode cX10_makesGrid 38 = .ok (.invokevirtual 72, 3) := by decide +kernel
theorem dX10_makesGrid_41 : decode cX10_makesGrid 41 = .ok (.iconst 1, 1) := by decide +kernel
theorem dX10_makesGrid_42 : decode cX10_makesGrid 42 = .ok (.iadd, 1) := by decide +kernel
theorem dX10_makesGrid_43 : decode cX10_makesGrid 43 = .ok (.invokevirtual 140, 3) := by decide +kernel
theorem dX10_makesGrid_46 : decode cX10_makesGrid 46 = .ok (.aload_n 0, 1) := by decide +kernel
theorem dX10_makesGrid_47 : decode cX10_makesGrid 47 = .ok (.aload_n 0, 1) := by decide +kernel
theorem dX10_makesGrid_48 : decode cX10_makesGrid 48 = .ok (.iload_n 2, 1) := by decide +kernel
