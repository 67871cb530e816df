theorem dX10_common_33 : decode cX10_common 33 = .ok (.iload 4, 2) := by decide +kernel
theorem dX10_common_35 : decode cX10_common 35 = .ok (.invokevirtual 124, 3) := by decide +kernel
theorem dX10_common_38 : decode cX10_common 38 = .ok (.if_icmp .eq 24, 3) := by decide +kernel
theorem dX10_common_41 : decode cX10_common 41 = .ok (.goto 19, 3) := by decide +kernel
theorem dX10_common_44 : decode cX10_common 44 = .ok (.aload_n 0, 1) := by decide +kernel
theorem dX10_common_45 : decode cX10_common 45 = .ok (.iload_n 1, 1) := by decide +kernel
theorem dX10_common_46 : decode cX10_common 46 = .ok (.iload_n 2, 1) := by decide +kernel
theorem dX10_common_47 : decode cX10_common 47 = .ok (.invokevirtual 117, 3) := by decide +kernel
theorem dX10_common_50 : decode cX10_common 50 = .ok (.aload_n 0, 1) := by decide +kernel
theorem dX10_common_51 : decode cX10_common 51 = .ok (.iload_n 3, 1) := by decide +kernel
theorem dX10_common_52 : decode cX10_common 52 = .ok (.iload 4, 2) := by decide +kernel
theorem dX10_common_54 : decode cX10_common 54 = .ok (.invokevirtual 117, 3) := by decide +kernel
theorem dX10_common_57 : decode cX10_common 57 = .ok (.if_icmp .eq 5, 3) := by decide +kernel
theorem dX10_common_60 : decode cX10_common 60 = .ok (.iconst 0, 1) := by decide +kernel
theorem dX10_common_61 : decode cX10_common 61 = .ok (.ireturn, 1) := by decide +kernel
theorem dX10_common_62 : decode cX10_common 62 = .ok (.iload 5, 2) := by decide +kernel
theorem dX10_common_64 : decode cX10_common 64 = .ok (.ifCond .eq 22, 3) := by decide +kernel
theorem dX10_common_67 : decode cX10_common 67 = .ok (.aload_n 0, 1) := by decide +kernel
theorem dX10_common_68 : decode cX10_common 68 = .ok (.iload_n 1, 1) := by decide +kernel
theorem dX10_common_69 : decode cX10_common 69 = .ok (.iload_n 2, 1) := by decide +kernel
theorem dX10_common_70 : decode cX10_common 70 = .ok (.invokevirtual 201, 3) := by decide +kernel
theorem dX10_common_73 : decode cX10_common 73 = .ok (.aload_n 0, 1) := by decide +kernel
theorem dX10_common_74 : decode cX10_common 74 = .ok (.iload_n 3, 1) := by decide +kernel
theorem dX10_common_75 : decode cX10_common 75 = .ok (.iload 4, 2) := by decide +kernel
theorem dX10_common_77 : decode cX10_common 77 = .ok (.invokevirtual 201, 3) := by decide +kernel
theorem dX10_common_80 : decode cX10_common 80 = .ok (.invokestatic 219, 3) := by decide +kernel
theorem dX10_common_83 : decode cX10_common 83 = .ok (.goto 19, 3) := by decide +kernel
theorem dX10_common_86 : decode cX10_common 86 = .ok (.aload_n 0, 1) := by decide +kernel
theorem dX10_common_87 : decode cX10_common 87 = .ok (.iload_n 1, 1) := by decide +kernel
theorem dX10_common_88 : decode cX10_common 88 = .ok (.iload_n 2, 1) := by decide +kernel
theorem dX10_common_89 : decode cX10_common 89 = .ok (.invokevirtual 204, 3) := by decide +kernel
theorem dX10_common_92 : decode cX10_common 92 = .ok (.aload_n 0, 1) := by decide +kernel
theorem dX10_common_93 : decode cX10_common 93 = .ok (.iload_n 3, 1) := by decide +kernel
theorem dX10_common_94 : decode cX10_common 94 = .ok (.iload 4, 2) := by decide +kernel
theorem dX10_common_96 : decode cX10_common 96 = .ok (.invokevirtual 204, 3) := by decide +kernel
theorem dX10_common_99 : decode cX10_common 99 = .ok (.invokestatic 219, 3) := by decide +kernel
theorem dX10_common_102 : decode cX10_common 102 = .ok (.istore 6, 2) := by decide +kernel
theorem dX10_common_104 : decode cX10_common 104 = .ok (.iload 5, 2) := by decide +kernel
theorem dX10_common_106 : decode cX10_common 106 = .ok (.ifCond .eq 25, 3) := by decide +kernel
theorem dX10_common_109 : decode cX10_common 109 = .ok (.aload_n 0, 1) := by decide +kernel
theorem dX10_common_110 : decode cX10_common 110 = .ok (.iload_n 1, 1) := by decide +kernel
theorem dX10_common_111 : decode cX10_common 111 = .ok (.iload_n 2, 1) := by decide +kernel
theorem dX10_common_112 : decode cX10_common 112 = .ok (.invokevirtual 207, 3) := by decide +kernel
theorem dX10_common_115 : decode cX10_common 115 = .ok (.ineg, 1) := by decide +kernel
theorem dX10_common_116 : decode cX10_common 116 = .ok (.aload_n 0, 1) := by decide +kernel
theorem dX10_common_117 : decode cX10_common 117 = .ok (.iload_n 3, 1) := by decide +kernel
theorem dX10_common_118 : decode cX10_common 118 = .ok (.iload 4, 2) := by decide +kernel
theorem dX10_common_120 : decode cX10_common 120 = .ok (.invokevirtual 207, 3) := by decide +kernel
theorem dX10_common_123 : decode cX10_common 123 = .ok (.ineg, 1) := by decide +kernel
theorem dX10_common_124 : decode cX10_common 124 = .ok (.invokestatic 219, 3) := by decide +kernel
theorem dX10_common_127 : decode cX10_common 127 = .ok (.ineg, 1) := by decide +kernel
theorem dX10_common_128 : decode cX10_common 128 = .ok (.goto 22, 3) := by decide +kernel
theorem dX10_common_131 : decode cX10_common 131 = .ok (.aload_n 0, 1) := by decide +kernel
theorem dX10_common_132 : decode cX10_common 132 = .ok (.iload_n 1, 1) := by decide +kernel
theorem dX10_common_133 : decode cX10_common 133 = .ok (.iload_n 2, 1) := by decide +kernel
theorem dX10_common_134 : decode cX10_common 134 = .ok (.invokevirtual 210, 3) := by decide +kernel
theorem dX10_common_137 : decode cX10_common 137 = .ok (.ineg, 1) := by decide +kernel
theorem dX10_common_138 : decode cX10_common 138 = .ok (.aload_n 0, 1) := by decide +kernel
theorem dX10_common_139 : decode cX10_common 139 = .ok (.iload_n 3, 1) := by decide +kernel
theorem dX10_common_140 : decode cX10_common 140 = .ok (.iload 4, 2) := by decide +kernel
theorem dX10_common_142 : decode cX10_common 142 = .ok (.invokevirtual 210, 3) := by decide +kernel
theorem dX10_common_145 : decode cX10_common 145 = .ok (.ineg, 1) := by decide +kernel
theorem dX10_common_146 : decode cX10_common 146 = .ok (.invokestatic 219, 3) := by decide +kernel
theorem dX10_common_149 : decode cX10_common 149 = .ok (.ineg, 1) := by decide +kernel
theorem dX10_common_150 : decode cX10_common 150 = .ok (.istore 7, 2) := by decide +kernel
theorem dX10_common_152 : decode cX10_common 152 = .ok (.iload 7, 2) := by decide +kernel
theorem dX10_common_154 : decode cX10_common 154 = .ok (.iload 6, 2) := by decide +kernel
theorem dX10_common_156 : decode cX10_common 156 = .ok (.if_icmp .le 11, 3) := by decide +kernel
theorem dX10_common_159 : decode cX10_common 159 = .ok (.iload 7, 2) := by decide +kernel
theorem dX10_common_161 : decode cX10_common 161 = .ok (.iload 6, 2) := by decide +kernel
theorem dX10_common_163 : decode cX10_common 163 = .ok (.isub, 1) := by decide +kernel
theorem dX10_common_164 : decode cX10_common 164 = .ok (.goto 4, 3) := by decide +kernel
theorem dX10_common_167 : decode cX10_common 167 = .ok (.iconst 0, 1) := by decide +kernel
theorem dX10_common_168 : decode cX10_common 168 = .ok (.ireturn, 1) := by decide +kernel
theorem dX10_most_0 : decode cX10_most 0 = .ok (.iload_n 0, 1) := by decide +kernel
theorem dX10_most_1 : decode cX10_most 1 = .ok (.iload_n 1, 1) := by decide +kernel
theorem dX10_most_2 : decode cX10_most 2 = .ok (.if_icmp .le 7, 3) := by decide +kernel
theorem dX10_most_5 : decode cX10_most 5 = .ok (.iload_n 0, 1) := by decide +kernel
theorem dX10_most_6 : decode cX10_most 6 = .ok (.goto 4, 3) := by decide +kernel
theorem dX10_most_9 : decode cX10_most 9 = .ok (.iload_n 1, 1) := by decide +kernel
theorem dX10_most_10 : decode cX10_most 10 = .ok (.ireturn, 1) := by decide +kernel
theorem dX10_shared_0 : decode cX10_shared 0 = .ok (.aload_n 0, 1) := by decide +kernel
theorem dX10_shared_1 : decode cX10_shared 1 = .ok (.iload_n 1, 1) := by decide +kernel
theorem dX10_shared_2 : decode cX10_shared 2 = .ok (.invokevirtual 111, 3) := by decide +kernel
theorem dX10_shared_5 : decode cX10_shared 5 = .ok (.ifCond .eq 11, 3) := by decide +kernel
theorem dX10_shared_8 : decode cX10_shared 8 = .ok (.aload_n 0, 1) := by decide +kernel
theorem dX10_shared_9 : decode cX10_shared 9 = .ok (.iload_n 2, 1) := by decide +kernel
theorem dX10_shared_10 : decode cX10_shared 10 = .ok (.invokevirtual 111, 3) := by decide +kernel
theorem dX10_shared_13 : decode cX10_shared 13 = .ok (.ifCond .ne 7, 3) := by decide +kernel
theorem dX10_shared_16 : decode cX10_shared 16 = .ok (.sipush (-1001), 3) := by decide +kernel
theorem dX10_shared_19 : decode cX10_shared 19 = .ok (.ireturn, 1) := by decide +kernel
theorem dX10_shared_20 : decode cX10_shared 20 = .ok (.iload_n 1, 1) := by decide +kernel
theorem dX10_shared_21 : decode cX10_shared 21 = .ok (.iload_n 2, 1) := by decide +kernel
theorem dX10_shared_22 : decode cX10_shared 22 = .ok (.if_icmp .ne 21, 3) := by decide +kernel
theorem dX10_shared_25 : decode cX10_shared 25 = .ok (.aload_n 0, 1) := by decide +kernel
theorem dX10_shared_26 : decode cX10_shared 26 = .ok (.iload_n 1, 1) := by decide +kernel
theorem dX10_shared_27 : decode cX10_shared 27 = .ok (.invokevirtual 114, 3) := by decide +kernel
theorem dX10_shared_30 : decode cX10_shared 30 = .ok (.ifCond .eq 11, 3) := by decide +kernel
theorem dX10_shared_33 : decode cX10_shared 33 = .ok (.aload_n 0, 1) := by decide +kernel
theorem dX10_shared_34 : decode cX10_shared 34 = .ok (.iload_n 1, 1) := by decide +kernel
theorem dX10_shared_35 : decode cX10_shared 35 = .ok (.invokevirtual 195, 3) := by decide +kernel
theorem dX10_shared_38 : decode cX10_shared 38 = .ok (.goto 4, 3) := by decide +kernel
theorem dX10_shared_41 : decode cX10_shared 41 = .ok (.iconst 0, 1) := by decide +kernel
theorem dX10_shared_42 : decode cX10_shared 42 = .ok (.ireturn, 1) := by decide +kernel
theorem dX10_shared_43 : decode cX10_shared 43 = .ok (.iconst 0, 1) := by decide +kernel
theorem dX10_shared_44 : decode cX10_shared 44 = .ok (.istore_n 3, 1) := by decide +kernel
theorem dX10_shared_45 : decode cX10_shared 45 = .ok (.iconst 0, 1) := by decide +kernel
theorem dX10_shared_46 : decode cX10_shared 46 = .ok (.istore 4, 2) := by decide +kernel
theorem dX10_shared_48 : decode cX10_shared 48 = .ok (.iload 4, 2) := by decide +kernel
theorem dX10_shared_50 : decode cX10_shared 50 = .ok (.aload_n 0, 1) := by decide +kernel
theorem dX10_shared_51 : decode cX10_shared 51 = .ok (.iload_n 1, 1) := by decide +kernel
theorem dX10_shared_52 : decode cX10_shared 52 = .ok (.invokevirtual 213, 3) := by decide +kernel
theorem dX10_shared_55 : decode cX10_shared 55 = .ok (.if_icmp .ge 41, 3) := by decide +kernel
theorem dX10_shared_58 : decode cX10_shared 58 = .ok (.iconst 0, 1) := by decide +kernel
theorem dX10_shared_59 : decode cX10_shared 59 = .ok (.istore 5, 2) := by decide +kernel
theorem dX10_shared_61 : decode cX10_shared 61 = .ok (.iload 5, 2) := by decide +kernel
theorem dX10_shared_63 : decode cX10_shared 63 = .ok (.aload_n 0, 1) := by decide +kernel
theorem dX10_shared_64 : decode cX10_shared 64 = .ok (.iload_n 2, 1) := by decide +kernel
theorem dX10_shared_65 : decode cX10_shared 65 = .ok (.invokevirtual 213, 3) := by decide +kernel
theorem dX10_shared_68 : decode cX10_shared 68 = .ok (.if_icmp .ge 22, 3) := by decide +kernel
theorem dX10_shared_71 : decode cX10_shared 71 = .ok (.iload_n 3, 1) := by decide +kernel
theorem dX10_shared_72 : decode cX10_shared 72 = .ok (.aload_n 0, 1) := by decide +kernel
theorem dX10_shared_73 : decode cX10_shared 73 = .ok (.iload_n 1, 1) := by decide +kernel
theorem dX10_shared_74 : decode cX10_shared 74 = .ok (.iload 4, 2) := by decide +kernel
theorem dX10_shared_76 : decode cX10_shared 76 = .ok (.iload_n 2, 1) := by decide +kernel
theorem dX10_shared_77 : decode cX10_shared 77 = .ok (.iload 5, 2) := by decide +kernel
theorem dX10_shared_79 : decode cX10_shared 79 = .ok (.invokevirtual 222, 3) := by decide +kernel
theorem dX10_shared_82 : decode cX10_shared 82 = .ok (.iadd, 1) := by decide +kernel
theorem dX10_shared_83 : decode cX10_shared 83 = .ok (.istore_n 3, 1) := by decide +kernel
theorem dX10_shared_84 : decode cX10_shared 84 = .ok (.iinc 5 1, 3) := by decide +kernel
theorem dX10_shared_87 : decode cX10_shared 87 = .ok (.goto (-26), 3) := by decide +kernel
theorem dX10_shared_90 : decode cX10_shared 90 = .ok (.iinc 4 1, 3) := by decide +kernel
theorem dX10_shared_93 : decode cX10_shared 93 = .ok (.goto (-45), 3) := by decide +kernel
theorem dX10_shared_96 : decode cX10_shared 96 = .ok (.iload_n 3, 1) := by decide +kernel
theorem dX10_shared_97 : decode cX10_shared 97 = .ok (.ireturn, 1) := by decide +kernel
theorem dX10_pullOf_0 : decode cX10_pullOf 0 = .ok (.iload_n 1, 1) := by decide +kernel
theorem dX10_pullOf_1 : decode cX10_pullOf 1 = .ok (.bipush 100, 2) := by decide +kernel
theorem dX10_pullOf_3 : decode cX10_pullOf 3 = .ok (.idiv, 1) := by decide +kernel
theorem dX10_pullOf_4 : decode cX10_pullOf 4 = .ok (.istore_n 2, 1) := by decide +kernel
theorem dX10_pullOf_5 : decode cX10_pullOf 5 = .ok (.iload_n 1, 1) := by decide +kernel
theorem dX10_pullOf_6 : decode cX10_pullOf 6 = .ok (.bipush 100, 2) := by decide +kernel
theorem dX10_pullOf_8 : decode cX10_pullOf 8 = .ok (.irem, 1) := by decide +kernel
theorem dX10_pullOf_9 : decode cX10_pullOf 9 = .ok (.istore_n 3, 1) := by decide +kernel
theorem dX10_pullOf_10 : decode cX10_pullOf 10 = .ok (.aload_n 0, 1) := by decide +kernel
theorem dX10_pullOf_11 : decode cX10_pullOf 11 = .ok (.iload_n 2, 1) := by decide +kernel
theorem dX10_pullOf_12 : decode cX10_pullOf 12 = .ok (.iload_n 3, 1) := by decide +kernel
theorem dX10_pullOf_13 : decode cX10_pullOf 13 = .ok (.invokevirtual 216, 3) := by decide +kernel
theorem dX10_pullOf_16 : decode cX10_pullOf 16 = .ok (.ifCond .eq 32, 3) := by decide +kernel
theorem dX10_pullOf_19 : decode cX10_pullOf 19 = .ok (.aload_n 0, 1) := by decide +kernel
theorem dX10_pullOf_20 : decode cX10_pullOf 20 = .ok (.iload_n 2, 1) := by decide +kernel
theorem dX10_pullOf_21 : decode cX10_pullOf 21 = .ok (.iload_n 3, 1) := by decide +kernel
theorem dX10_pullOf_22 : decode cX10_pullOf 22 = .ok (.iconst 1, 1) := by decide +kernel
theorem dX10_pullOf_23 : decode cX10_pullOf 23 = .ok (.isub, 1) := by decide +kernel
theorem dX10_pullOf_24 : decode cX10_pullOf 24 = .ok (.invokevirtual 124, 3) := by decide +kernel
theorem dX10_pullOf_27 : decode cX10_pullOf 27 = .ok (.aload_n 0, 1) := by decide +kernel
theorem dX10_pullOf_28 : decode cX10_pullOf 28 = .ok (.iload_n 2, 1) := by decide +kernel
theorem dX10_pullOf_29 : decode cX10_pullOf 29 = .ok (.iload_n 3, 1) := by decide +kernel
theorem dX10_pullOf_30 : decode cX10_pullOf 30 = .ok (.iconst 2, 1) := by decide +kernel
theorem dX10_pullOf_31 : decode cX10_pullOf 31 = .ok (.iadd, 1) := by decide +kernel
theorem dX10_pullOf_32 : decode cX10_pullOf 32 = .ok (.invokevirtual 124, 3) := by decide +kernel
theorem dX10_pullOf_35 : decode cX10_pullOf 35 = .ok (.iadd, 1) := by decide +kernel
theorem dX10_pullOf_36 : decode cX10_pullOf 36 = .ok (.iconst 2, 1) := by decide +kernel
theorem dX10_pullOf_37 : decode cX10_pullOf 37 = .ok (.aload_n 0, 1) := by decide +kernel
theorem dX10_pullOf_38 : decode cX10_pullOf 38 = .ok (.iload_n 2, 1) := by decide +kernel
theorem dX10_pullOf_39 : decode cX10_pullOf 39 = .ok (.iload_n 3, 1) := by decide +kernel
theorem dX10_pullOf_40 : decode cX10_pullOf 40 = .ok (.invokevirtual 124, 3) := by decide +kernel
theorem dX10_pullOf_43 : decode cX10_pullOf 43 = .ok (.imul, 1) := by decide +kernel
theorem dX10_pullOf_44 : decode cX10_pullOf 44 = .ok (.isub, 1) := by decide +kernel
theorem dX10_pullOf_45 : decode cX10_pullOf 45 = .ok (.goto 29, 3) := by decide +kernel
theorem dX10_pullOf_48 : decode cX10_pullOf 48 = .ok (.aload_n 0, 1) := by decide +kernel
theorem dX10_pullOf_49 : decode cX10_pullOf 49 = .ok (.iload_n 2, 1) := by decide +kernel
theorem dX10_pullOf_50 : decode cX10_pullOf 50 = .ok (.iload_n 3, 1) := by decide +kernel
theorem dX10_pullOf_51 : decode cX10_pullOf 51 = .ok (.iconst 1, 1) := by decide +kernel
theorem dX10_pullOf_52 : decode cX10_pullOf 52 = .ok (.isub, 1) := by decide +kernel
theorem dX10_pullOf_53 : decode cX10_pullOf 53 = .ok (.invokevirtual 117, 3) := by decide +kernel
theorem dX10_pullOf_56 : decode cX10_pullOf 56 = .ok (.aload_n 0, 1) := by decide +kernel
theorem dX10_pullOf_57 : decode cX10_pullOf 57 = .ok (.iload_n 2, 1) := by decide +kernel
theorem dX10_pullOf_58 : decode cX10_pullOf 58 = .ok (.iload_n 3, 1) := by decide +kernel
theorem dX10_pullOf_59 : decode cX10_pullOf 59 = .ok (.iconst 2, 1) := by decide +kernel
theorem dX10_pullOf_60 : decode cX10_pullOf 60 = .ok (.iadd, 1) := by decide +kernel
theorem dX10_pullOf_61 : decode cX10_pullOf 61 = .ok (.invokevirtual 117, 3) := by decide +kernel
theorem dX10_pullOf_64 : decode cX10_pullOf 64 = .ok (.iadd, 1) := by decide +kernel
theorem dX10_pullOf_65 : decode cX10_pullOf 65 = .ok (.iconst 2, 1) := by decide +kernel
theorem dX10_pullOf_66 : decode cX10_pullOf 66 = .ok (.aload_n 0, 1) := by decide +kernel
theorem dX10_pullOf_67 : decode cX10_pullOf 67 = .ok (.iload_n 2, 1) := by decide +kernel
theorem dX10_pullOf_68 : decode cX10_pullOf 68 = .ok (.iload_n 3, 1) := by decide +kernel
theorem dX10_pullOf_69 : decode cX10_pullOf 69 = .ok (.invokevirtual 117, 3) := by decide +kernel
theorem dX10_pullOf_72 : decode cX10_pullOf 72 = .ok (.imul, 1) := by decide +kernel
theorem dX10_pullOf_73 : decode cX10_pullOf 73 = .ok (.isub, 1) := by decide +kernel
theorem dX10_pullOf_74 : decode cX10_pullOf 74 = .ok (.ireturn, 1) := by decide +kernel
theorem dX10_collide_0 : decode cX10_collide 0 = .ok (.iload_n 1, 1) := by decide +kernel
theorem dX10_collide_1 : decode cX10_collide 1 = .ok (.iload_n 2, 1) := by decide +kernel
theorem dX10_collide_2 : decode cX10_collide 2 = .ok (.if_icmp .eq 30, 3) := by decide +kernel
theorem dX10_collide_5 : decode cX10_collide 5 = .ok (.aload_n 0, 1) := by decide +kernel
theorem dX10_collide_6 : decode cX10_collide 6 = .ok (.iload_n 1, 1) := by decide +kernel
theorem dX10_collide_7 : decode cX10_collide 7 = .ok (.bipush 100, 2) := by decide +kernel
theorem dX10_collide_9 : decode cX10_collide 9 = .ok (.idiv, 1) := by decide +kernel
theorem dX10_collide_10 : decode cX10_collide 10 = .ok (.iload_n 1, 1) := by decide +kernel
theorem dX10_collide_11 : decode cX10_collide 11 = .ok (.bipush 100, 2) := by decide +kernel
theorem dX10_collide_13 : decode cX10_collide 13 = .ok (.irem, 1) := by decide +kernel
theorem dX10_collide_14 : decode cX10_collide 14 = .ok (.iload_n 2, 1) := by decide +kernel
theorem dX10_collide_15 : decode cX10_collide 15 = .ok (.bipush 100, 2) := by decide +kernel
theorem dX10_collide_17 : decode cX10_collide 17 = .ok (.idiv, 1) := by decide +kernel
theorem dX10_collide_18 : decode cX10_collide 18 = .ok (.iload_n 2, 1) := by decide +kernel
theorem dX10_collide_19 : decode cX10_collide 19 = .ok (.bipush 100, 2) := by decide +kernel
theorem dX10_collide_21 : decode cX10_collide 21 = .ok (.irem, 1) := by decide +kernel
theorem dX10_collide_22 : decode cX10_collide 22 = .ok (.invokevirtual 222, 3) := by decide +kernel
theorem dX10_collide_25 : decode cX10_collide 25 = .ok (.ifCond .le 7, 3) := by decide +kernel
theorem dX10_collide_28 : decode cX10_collide 28 = .ok (.iconst 1, 1) := by decide +kernel
theorem dX10_collide_29 : decode cX10_collide 29 = .ok (.goto 4, 3) := by decide +kernel
theorem dX10_collide_32 : decode cX10_collide 32 = .ok (.iconst 0, 1) := by decide +kernel
theorem dX10_collide_33 : decode cX10_collide 33 = .ok (.ireturn, 1) := by decide +kernel
theorem dX10_bundles_0 : decode cX10_bundles 0 = .ok (.aload_n 0, 1) := by decide +kernel
theorem dX10_bundles_1 : decode cX10_bundles 1 = .ok (.iconst 0, 1) := by decide +kernel
theorem dX10_bundles_2 : decode cX10_bundles 2 = .ok (.putfield 226, 3) := by decide +kernel
theorem dX10_bundles_5 : decode cX10_bundles 5 = .ok (.iconst 0, 1) := by decide +kernel
theorem dX10_bundles_6 : decode cX10_bundles 6 = .ok (.istore_n 2, 1) := by decide +kernel
theorem dX10_bundles_7 : decode cX10_bundles 7 = .ok (.iload_n 2, 1) := by decide +kernel
theorem dX10_bundles_8 : decode cX10_bundles 8 = .ok (.aload_n 0, 1) := by decide +kernel
theorem dX10_bundles_9 : decode cX10_bundles 9 = .ok (.getfield 7, 3) := by decide +kernel
theorem dX10_bundles_12 : decode cX10_bundles 12 = .ok (.iconst 1, 1) := by decide +kernel
theorem dX10_bundles_13 : decode cX10_bundles 13 = .ok (.iaload, 1) := by decide +kernel
theorem dX10_bundles_14 : decode cX10_bundles 14 = .ok (.if_icmp .ge 80, 3) := by decide +kernel
theorem dX10_bundles_17 : decode cX10_bundles 17 = .ok (.iconst 1, 1) := by decide +kernel
theorem dX10_bundles_18 : decode cX10_bundles 18 = .ok (.istore_n 3, 1) := by decide +kernel
theorem dX10_bundles_19 : decode cX10_bundles 19 = .ok (.iload_n 3, 1) := by decide +kernel
theorem dX10_bundles_20 : decode cX10_bundles 20 = .ok (.aload_n 0, 1) := by decide +kernel
theorem dX10_bundles_21 : decode cX10_bundles 21 = .ok (.iload_n 2, 1) := by decide +kernel
theorem dX10_bundles_22 : decode cX10_bundles 22 = .ok (.invokevirtual 213, 3) := by decide +kernel
theorem dX10_bundles_25 : decode cX10_bundles 25 = .ok (.iconst 1, 1) := by decide +kernel
theorem dX10_bundles_26 : decode cX10_bundles 26 = .ok (.isub, 1) := by decide +kernel
theorem dX10_bundles_27 : decode cX10_bundles 27 = .ok (.if_icmp .ge 61, 3) := by decide +kernel
theorem dX10_bundles_30 : decode cX10_bundles 30 = .ok (.aload_n 0, 1) := by decide +kernel
theorem dX10_bundles_31 : decode cX10_bundles 31 = .ok (.getfield 38, 3) := by decide +kernel
theorem dX10_bundles_34 : decode cX10_bundles 34 = .ok (.aload_n 0, 1) := by decide +kernel
theorem dX10_bundles_35 : decode cX10_bundles 35 = .ok (.getfield 226, 3) := by decide +kernel
theorem dX10_bundles_38 : decode cX10_bundles 38 = .ok (.bipush 100, 2) := by decide +kernel
theorem dX10_bundles_40 : decode cX10_bundles 40 = .ok (.iload_n 2, 1) := by decide +kernel
theorem dX10_bundles_41 : decode cX10_bundles 41 = .ok (.imul, 1) := by decide +kernel
theorem dX10_bundles_42 : decode cX10_bundles 42 = .ok (.iload_n 3, 1) := by decide +kernel
theorem dX10_bundles_43 : decode cX10_bundles 43 = .ok (.iadd, 1) := by decide +kernel
theorem dX10_bundles_44 : decode cX10_bundles 44 = .ok (.iastore, 1) := by decide +kernel
theorem dX10_bundles_45 : decode cX10_bundles 45 = .ok (.aload_n 0, 1) := by decide +kernel
theorem dX10_bundles_46 : decode cX10_bundles 46 = .ok (.getfield 44, 3) := by decide +kernel
theorem dX10_bundles_49 : decode cX10_bundles 49 = .ok (.aload_n 0, 1) := by decide +kernel
theorem dX10_bundles_50 : decode cX10_bundles 50 = .ok (.getfield 226, 3) := by decide +kernel
theorem dX10_bundles_53 : decode cX10_bundles 53 = .ok (.aload_n 0, 1) := by decide +kernel
theorem dX10_bundles_54 : decode cX10_bundles 54 = .ok (.getfield 38, 3) := by decide +kernel
theorem dX10_bundles_57 : decode cX10_bundles 57 = .ok (.aload_n 0, 1) := by decide +kernel
theorem dX10_bundles_58 : decode cX10_bundles 58 = .ok (.getfield 226, 3) := by decide +kernel
theorem dX10_bundles_61 : decode cX10_bundles 61 = .ok (.iaload, 1) := by decide +kernel
theorem dX10_bundles_62 : decode cX10_bundles 62 = .ok (.iload_n 1, 1) := by decide +kernel
theorem dX10_bundles_63 : decode cX10_bundles 63 = .ok (.if_icmp .ne 7, 3) := by decide +kernel
theorem dX10_bundles_66 : decode cX10_bundles 66 = .ok (.iconst 1, 1) := by decide +kernel
theorem dX10_bundles_67 : decode cX10_bundles 67 = .ok (.goto 4, 3) := by decide +kernel
theorem dX10_bundles_70 : decode cX10_bundles 70 = .ok (.iconst 0, 1) := by decide +kernel
theorem dX10_bundles_71 : decode cX10_bundles 71 = .ok (.bastore, 1) := by decide +kernel
theorem dX10_bundles_72 : decode cX10_bundles 72 = .ok (.aload_n 0, 1) := by decide +kernel
theorem dX10_bundles_73 : decode cX10_bundles 73 = .ok (.dup, 1) := by decide +kernel
theorem dX10_bundles_74 : decode cX10_bundles 74 = .ok (.getfield 226, 3) := by decide +kernel
theorem dX10_bundles_77 : decode cX10_bundles 77 = .ok (.iconst 1, 1) := by decide +kernel
theorem dX10_bundles_78 : decode cX10_bundles 78 = .ok (.iadd, 1) := by decide +kernel
theorem dX10_bundles_79 : decode cX10_bundles 79 = .ok (.putfield 226, 3) := by decide +kernel
theorem dX10_bundles_82 : decode cX10_bundles 82 = .ok (.iinc 3 1, 3) := by decide +kernel
theorem dX10_bundles_85 : decode cX10_bundles 85 = .ok (.goto (-66), 3) := by decide +kernel
theorem dX10_bundles_88 : decode cX10_bundles 88 = .ok (.iinc 2 1, 3) := by decide +kernel
theorem dX10_bundles_91 : decode cX10_bundles 91 = .ok (.goto (-84), 3) := by decide +kernel
theorem dX10_bundles_94 : decode cX10_bundles 94 = .ok (.iconst 1, 1) := by decide +kernel
theorem dX10_bundles_95 : decode cX10_bundles 95 = .ok (.istore_n 2, 1) := by decide +kernel
theorem dX10_bundles_96 : decode cX10_bundles 96 = .ok (.iload_n 2, 1) := by decide +kernel
theorem dX10_bundles_97 : decode cX10_bundles 97 = .ok (.ifCond .eq 90, 3) := by decide +kernel
theorem dX10_bundles_100 : decode cX10_bundles 100 = .ok (.iconst 0, 1) := by decide +kernel
theorem dX10_bundles_101 : decode cX10_bundles 101 = .ok (.istore_n 2, 1) := by decide +kernel
theorem dX10_bundles_102 : decode cX10_bundles 102 = .ok (.iconst 0, 1) := by decide +kernel
theorem dX10_bundles_103 : decode cX10_bundles 103 = .ok (.istore_n 3, 1) := by decide +kernel
theorem dX10_bundles_104 : decode cX10_bundles 104 = .ok (.iload_n 3, 1) := by decide +kernel
theorem dX10_bundles_105 : decode cX10_bundles 105 = .ok (.aload_n 0, 1) := by decide +kernel
theorem dX10_bundles_106 : decode cX10_bundles 106 = .ok (.getfield 226, 3) := by decide +kernel
theorem dX10_bundles_109 : decode cX10_bundles 109 = .ok (.if_icmp .ge 75, 3) := by decide +kernel
theorem dX10_bundles_112 : decode cX10_bundles 112 = .ok (.iconst 0, 1) := by decide +kernel
theorem dX10_bundles_113 : decode cX10_bundles 113 = .ok (.istore 4, 2) := by decide +kernel
theorem dX10_bundles_115 : decode cX10_bundles 115 = .ok (.iload 4, 2) := by decide +kernel
theorem dX10_bundles_117 : decode cX10_bundles 117 = .ok (.aload_n 0, 1) := by decide +kernel
theorem dX10_bundles_118 : decode cX10_bundles 118 = .ok (.getfield 226, 3) := by decide +kernel
theorem dX10_bundles_121 : decode cX10_bundles 121 = .ok (.if_icmp .ge 57, 3) := by decide +kernel
theorem dX10_bundles_124 : decode cX10_bundles 124 = .ok (.aload_n 0, 1) := by decide +kernel
theorem dX10_bundles_125 : decode cX10_bundles 125 = .ok (.getfield 44, 3) := by decide +kernel
theorem dX10_bundles_128 : decode cX10_bundles 128 = .ok (.iload_n 3, 1) := by decide +kernel
theorem dX10_bundles_129 : decode cX10_bundles 129 = .ok (.baload, 1) := by decide +kernel
theorem dX10_bundles_130 : decode cX10_bundles 130 = .ok (.ifCond .ne 48, 3) := by decide +kernel
theorem dX10_bundles_133 : decode cX10_bundles 133 = .ok (.aload_n 0, 1) := by decide +kernel
theorem dX10_bundles_134 : decode cX10_bundles 134 = .ok (.getfield 44, 3) := by decide +kernel
theorem dX10_bundles_137 : decode cX10_bundles 137 = .ok (.iload 4, 2) := by decide +kernel
theorem dX10_bundles_139 : decode cX10_bundles 139 = .ok (.baload, 1) := by decide +kernel
theorem dX10_bundles_140 : decode cX10_bundles 140 = .ok (.ifCond .eq 32, 3) := by decide +kernel
theorem dX10_bundles_143 : decode cX10_bundles 143 = .ok (.aload_n 0, 1) := by decide +kernel
theorem dX10_bundles_144 : decode cX10_bundles 144 = .ok (.aload_n 0, 1) := by decide +kernel
theorem dX10_bundles_145 : decode cX10_bundles 145 = .ok (.getfield 38, 3) := by decide +kernel
theorem dX10_bundles_148 : decode cX10_bundles 148 = .ok (.iload_n 3, 1) := by decide +kernel
theorem dX10_bundles_149 : decode cX10_bundles 149 = .ok (.iaload, 1) := by decide +kernel
theorem dX10_bundles_150 : decode cX10_bundles 150 = .ok (.aload_n 0, 1) := by decide +kernel
theorem dX10_bundles_151 : decode cX10_bundles 151 = .ok (.getfield 38, 3) := by decide +kernel
theorem dX10_bundles_154 : decode cX10_bundles 154 = .ok (.iload 4, 2) := by decide +kernel
theorem dX10_bundles_156 : decode cX10_bundles 156 = .ok (.iaload, 1) := by decide +kernel
theorem dX10_bundles_157 : decode cX10_bundles 157 = .ok (.invokevirtual 229, 3) := by decide +kernel
theorem dX10_bundles_160 : decode cX10_bundles 160 = .ok (.ifCond .eq 12, 3) := by decide +kernel
theorem dX10_bundles_163 : decode cX10_bundles 163 = .ok (.aload_n 0, 1) := by decide +kernel
theorem dX10_bundles_164 : decode cX10_bundles 164 = .ok (.getfield 44, 3) := by decide +kernel
theorem dX10_bundles_167 : decode cX10_bundles 167 = .ok (.iload_n 3, 1) := by decide +kernel
theorem dX10_bundles_168 : decode cX10_bundles 168 = .ok (.iconst 1, 1) := by decide +kernel
theorem dX10_bundles_169 : decode cX10_bundles 169 = .ok (.bastore, 1) := by decide +kernel
theorem dX10_bundles_170 : decode cX10_bundles 170 = .ok (.iconst 1, 1) := by decide +kernel
theorem dX10_bundles_171 : decode cX10_bundles 171 = .ok (.istore_n 2, 1) := by decide +kernel
theorem dX10_bundles_172 : decode cX10_bundles 172 = .ok (.iinc 4 1, 3) := by decide +kernel
theorem dX10_bundles_175 : decode cX10_bundles 175 = .ok (.goto (-60), 3) := by decide +kernel
theorem dX10_bundles_178 : decode cX10_bundles 178 = .ok (.iinc 3 1, 3) := by decide +kernel
theorem dX10_bundles_181 : decode cX10_bundles 181 = .ok (.goto (-77), 3) := by decide +kernel
theorem dX10_bundles_184 : decode cX10_bundles 184 = .ok (.goto (-88), 3) := by decide +kernel
theorem dX10_bundles_187 : decode cX10_bundles 187 = .ok (.aload_n 0, 1) := by decide +kernel
theorem dX10_bundles_188 : decode cX10_bundles 188 = .ok (.invokevirtual 232, 3) := by decide +kernel
theorem dX10_bundles_191 : decode cX10_bundles 191 = .ok (.ireturn, 1) := by decide +kernel
theorem dX10_lays__0 : decode cX10_lays_ 0 = .ok (.iconst 0, 1) := by decide +kernel
theorem dX10_lays__1 : decode cX10_lays_ 1 = .ok (.istore_n 1, 1) := by decide +kernel
theorem dX10_lays__2 : decode cX10_lays_ 2 = .ok (.iconst 0, 1) := by decide +kernel
theorem dX10_lays__3 : decode cX10_lays_ 3 = .ok (.istore_n 2, 1) := by decide +kernel
theorem dX10_lays__4 : decode cX10_lays_ 4 = .ok (.iload_n 2, 1) := by decide +kernel
theorem dX10_lays__5 : decode cX10_lays_ 5 = .ok (.aload_n 0, 1) := by decide +kernel
theorem dX10_lays__6 : decode cX10_lays_ 6 = .ok (.getfield 226, 3) := by decide +kernel
theorem dX10_lays__9 : decode cX10_lays_ 9 = .ok (.if_icmp .ge 18, 3) := by decide +kernel
theorem dX10_lays__12 : decode cX10_lays_ 12 = .ok (.aload_n 0, 1) := by decide +kernel
theorem dX10_lays__13 : decode cX10_lays_ 13 = .ok (.getfield 41, 3) := by decide +kernel
theorem dX10_lays__16 : decode cX10_lays_ 16 = .ok (.iload_n 2, 1) := by decide +kernel
theorem dX10_lays__17 : decode cX10_lays_ 17 = .ok (.sipush (-1000), 3) := by decide +kernel
theorem dX10_lays__20 : decode cX10_lays_ 20 = .ok (.iastore, 1) := by decide +kernel
theorem dX10_lays__21 : decode cX10_lays_ 21 = .ok (.iinc 2 1, 3) := by decide +kernel
theorem dX10_lays__24 : decode cX10_lays_ 24 = .ok (.goto (-20), 3) := by decide +kernel
theorem dX10_lays__27 : decode cX10_lays_ 27 = .ok (.iconst 1, 1) := by decide +kernel
theorem dX10_lays__28 : decode cX10_lays_ 28 = .ok (.istore_n 2, 1) := by decide +kernel
theorem dX10_lays__29 : decode cX10_lays_ 29 = .ok (.iload_n 2, 1) := by decide +kernel
theorem dX10_lays__30 : decode cX10_lays_ 30 = .ok (.ifCond .eq 231, 3) := by decide +kernel
theorem dX10_lays__33 : decode cX10_lays_ 33 = .ok (.sipush (-1000), 3) := by decide +kernel
theorem dX10_lays__36 : decode cX10_lays_ 36 = .ok (.istore_n 3, 1) := by decide +kernel
theorem dX10_lays__37 : decode cX10_lays_ 37 = .ok (.iconst 0, 1) := by decide +kernel
theorem dX10_lays__38 : decode cX10_lays_ 38 = .ok (.istore 4, 2) := by decide +kernel
theorem dX10_lays__40 : decode cX10_lays_ 40 = .ok (.iload 4, 2) := by decide +kernel
theorem dX10_lays__42 : decode cX10_lays_ 42 = .ok (.aload_n 0, 1) := by decide +kernel
theorem dX10_lays__43 : decode cX10_lays_ 43 = .ok (.getfield 226, 3) := by decide +kernel
theorem dX10_lays__46 : decode cX10_lays_ 46 = .ok (.if_icmp .ge 66, 3) := by decide +kernel
theorem dX10_lays__49 : decode cX10_lays_ 49 = .ok (.aload_n 0, 1) := by decide +kernel
theorem dX10_lays__50 : decode cX10_lays_ 50 = .ok (.getfield 44, 3) := by decide +kernel
theorem dX10_lays__53 : decode cX10_lays_ 53 = .ok (.iload 4, 2) := by decide +kernel
theorem dX10_lays__55 : decode cX10_lays_ 55 = .ok (.baload, 1) := by decide +kernel
theorem dX10_lays__56 : decode cX10_lays_ 56 = .ok (.ifCond .eq 50, 3) := by decide +kernel
theorem dX10_lays__59 : decode cX10_lays_ 59 = .ok (.aload_n 0, 1) := by decide +kernel
theorem dX10_lays__60 : decode cX10_lays_ 60 = .ok (.getfield 41, 3) := by decide +kernel
theorem dX10_lays__63 : decode cX10_lays_ 63 = .ok (.iload 4, 2) := by decide +kernel
theorem dX10_lays__65 : decode cX10_lays_ 65 = .ok (.iaload, 1) := by decide +kernel
theorem dX10_lays__66 : decode cX10_lays_ 66 = .ok (.sipush (-1000), 3) := by decide +kernel
theorem dX10_lays__69 : decode cX10_lays_ 69 = .ok (.if_icmp .ne 37, 3) := by decide +kernel
theorem dX10_lays__72 : decode cX10_lays_ 72 = .ok (.iload_n 3, 1) := by decide +kernel
theorem dX10_lays__73 : decode cX10_lays_ 73 = .ok (.sipush (-1000), 3) := by decide +kernel
theorem dX10_lays__76 : decode cX10_lays_ 76 = .ok (.if_icmp .eq 27, 3) := by decide +kernel
theorem dX10_lays__79 : decode cX10_lays_ 79 = .ok (.aload_n 0, 1) := by decide +kernel
theorem dX10_lays__80 : decode cX10_lays_ 80 = .ok (.aload_n 0, 1) := by decide +kernel
theorem dX10_lays__81 : decode cX10_lays_ 81 = .ok (.getfield 38, 3) := by decide +kernel
theorem dX10_lays__84 : decode cX10_lays_ 84 = .ok (.iload 4, 2) := by decide +kernel
theorem dX10_lays__86 : decode cX10_lays_ 86 = .ok (.iaload, 1) := by decide +kernel
theorem dX10_lays__87 : decode cX10_lays_ 87 = .ok (.invokevirtual 235, 3) := by decide +kernel
theorem dX10_lays__90 : decode cX10_lays_ 90 = .ok (.aload_n 0, 1) := by decide +kernel
theorem dX10_lays__91 : decode cX10_lays_ 91 = .ok (.aload_n 0, 1) := by decide +kernel
theorem dX10_lays__92 : decode cX10_lays_ 92 = .ok (.getfield 38, 3) := by decide +kernel
theorem dX10_lays__95 : decode cX10_lays_ 95 = .ok (.iload_n 3, 1) := by decide +kernel
theorem dX10_lays__96 : decode cX10_lays_ 96 = .ok (.iaload, 1) := by decide +kernel
theorem dX10_lays__97 : decode cX10_lays_ 97 = .ok (.invokevirtual 235, 3) := by decide +kernel
theorem dX10_lays__100 : decode cX10_lays_ 100 = .ok (.if_icmp .ge 6, 3) := by decide +kernel
theorem dX10_lays__103 : decode cX10_lays_ 103 = .ok (.iload 4, 2) := by decide +kernel
theorem dX10_lays__105 : decode cX10_lays_ 105 = .ok (.istore_n 3, 1) := by decide +kernel
theorem dX10_lays__106 : decode cX10_lays_ 106 = .ok (.iinc 4 1, 3) := by decide +kernel
theorem dX10_lays__109 : decode cX10_lays_ 109 = .ok (.goto (-69), 3) := by decide +kernel
theorem dX10_lays__112 : decode cX10_lays_ 112 = .ok (.iload_n 3, 1) := by decide +kernel
theorem dX10_lays__113 : decode cX10_lays_ 113 = .ok (.sipush (-1000), 3) := by decide +kernel
theorem dX10_lays__116 : decode cX10_lays_ 116 = .ok (.if_icmp .eq 7, 3) := by decide +kernel
theorem dX10_lays__119 : decode cX10_lays_ 119 = .ok (.iconst 1, 1) := by decide +kernel
theorem dX10_lays__120 : decode cX10_lays_ 120 = .ok (.goto 4, 3) := by decide +kernel
theorem dX10_lays__123 : decode cX10_lays_ 123 = .ok (.iconst 0, 1) := by decide +kernel
theorem dX10_lays__124 : decode cX10_lays_ 124 = .ok (.istore_n 2, 1) := by decide +kernel
theorem dX10_lays__125 : decode cX10_lays_ 125 = .ok (.iload_n 2, 1) := by decide +kernel
theorem dX10_lays__126 : decode cX10_lays_ 126 = .ok (.ifCond .eq 132, 3) := by decide +kernel
theorem dX10_lays__129 : decode cX10_lays_ 129 = .ok (.iconst 0, 1) := by decide +kernel
theorem dX10_lays__130 : decode cX10_lays_ 130 = .ok (.istore 4, 2) := by decide +kernel
theorem dX10_lays__132 : decode cX10_lays_ 132 = .ok (.iconst 0, 1) := by decide +kernel
theorem dX10_lays__133 : decode cX10_lays_ 133 = .ok (.istore 5, 2) := by decide +kernel
theorem dX10_lays__135 : decode cX10_lays_ 135 = .ok (.iload 5, 2) := by decide +kernel
theorem dX10_lays__137 : decode cX10_lays_ 137 = .ok (.aload_n 0, 1) := by decide +kernel
theorem dX10_lays__138 : decode cX10_lays_ 138 = .ok (.getfield 226, 3) := by decide +kernel
theorem dX10_lays__141 : decode cX10_lays_ 141 = .ok (.if_icmp .ge 92, 3) := by decide +kernel
theorem dX10_lays__144 : decode cX10_lays_ 144 = .ok (.aload_n 0, 1) := by decide +kernel
theorem dX10_lays__145 : decode cX10_lays_ 145 = .ok (.getfield 44, 3) := by decide +kernel
theorem dX10_lays__148 : decode cX10_lays_ 148 = .ok (.iload 5, 2) := by decide +kernel
theorem dX10_lays__150 : decode cX10_lays_ 150 = .ok (.baload, 1) := by decide +kernel
theorem dX10_lays__151 : decode cX10_lays_ 151 = .ok (.ifCond .eq 40, 3) := by decide +kernel
theorem dX10_lays__154 : decode cX10_lays_ 154 = .ok (.aload_n 0, 1) := by decide +kernel
theorem dX10_lays__155 : decode cX10_lays_ 155 = .ok (.getfield 41, 3) := by decide +kernel
theorem dX10_lays__158 : decode cX10_lays_ 158 = .ok (.iload 5, 2) := by decide +kernel
theorem dX10_lays__160 : decode cX10_lays_ 160 = .ok (.iaload, 1) := by decide +kernel
theorem dX10_lays__161 : decode cX10_lays_ 161 = .ok (.sipush (-1000), 3) := by decide +kernel
theorem dX10_lays__164 : decode cX10_lays_ 164 = .ok (.if_icmp .eq 27, 3) := by decide +kernel
theorem dX10_lays__167 : decode cX10_lays_ 167 = .ok (.aload_n 0, 1) := by decide +kernel
theorem dX10_lays__168 : decode cX10_lays_ 168 = .ok (.aload_n 0, 1) := by decide +kernel
theorem dX10_lays__169 : decode cX10_lays_ 169 = .ok (.getfield 38, 3) := by decide +kernel
theorem dX10_lays__172 : decode cX10_lays_ 172 = .ok (.iload 5, 2) := by decide +kernel
theorem dX10_lays__174 : decode cX10_lays_ 174 = .ok (.iaload, 1) := by decide +kernel
theorem dX10_lays__175 : decode cX10_lays_ 175 = .ok (.aload_n 0, 1) := by decide +kernel
theorem dX10_lays__176 : decode cX10_lays_ 176 = .ok (.getfield 38, 3) := by decide +kernel
theorem dX10_lays__179 : decode cX10_lays_ 179 = .ok (.iload_n 3, 1) := by decide +kernel
theorem dX10_lays__180 : decode cX10_lays_ 180 = .ok (.iaload, 1) := by decide +kernel
theorem dX10_lays__181 : decode cX10_lays_ 181 = .ok (.invokevirtual 229, 3) := by decide +kernel
theorem dX10_lays__184 : decode cX10_lays_ 184 = .ok (.ifCond .eq 7, 3) := by decide +kernel
theorem dX10_lays__187 : decode cX10_lays_ 187 = .ok (.iconst 1, 1) := by decide +kernel
theorem dX10_lays__188 : decode cX10_lays_ 188 = .ok (.goto 4, 3) := by decide +kernel
theorem dX10_lays__191 : decode cX10_lays_ 191 = .ok (.iconst 0, 1) := by decide +kernel
theorem dX10_lays__192 : decode cX10_lays_ 192 = .ok (.istore 6, 2) := by decide +kernel
theorem dX10_lays__194 : decode cX10_lays_ 194 = .ok (.iload 6, 2) := by decide +kernel
theorem dX10_lays__196 : decode cX10_lays_ 196 = .ok (.ifCond .eq 27, 3) := by decide +kernel
theorem dX10_lays__199 : decode cX10_lays_ 199 = .ok (.aload_n 0, 1) := by decide +kernel
theorem dX10_lays__200 : decode cX10_lays_ 200 = .ok (.getfield 41, 3) := by decide +kernel
theorem dX10_lays__203 : decode cX10_lays_ 203 = .ok (.iload 5, 2) := by decide +kernel
theorem dX10_lays__205 : decode cX10_lays_ 205 = .ok (.iaload, 1) := by decide +kernel
theorem dX10_lays__206 : decode cX10_lays_ 206 = .ok (.iload 4, 2) := by decide +kernel
theorem dX10_lays__208 : decode cX10_lays_ 208 = .ok (.if_icmp .lt 15, 3) := by decide +kernel
theorem dX10_lays__211 : decode cX10_lays_ 211 = .ok (.aload_n 0, 1) := by decide +kernel
theorem dX10_lays__212 : decode cX10_lays_ 212 = .ok (.getfield 41, 3) := by decide +kernel
theorem dX10_lays__215 : decode cX10_lays_ 215 = .ok (.iload 5, 2) := by decide +kernel
theorem dX10_lays__217 : decode cX10_lays_ 217 = .ok (.iaload, 1) := by decide +kernel
theorem dX10_lays__218 : decode cX10_lays_ 218 = .ok (.iconst 1, 1) := by decide +kernel
theorem dX10_lays__219 : decode cX10_lays_ 219 = .ok (.iadd, 1) := by decide +kernel
theorem dX10_lays__220 : decode cX10_lays_ 220 = .ok (.goto 5, 3) := by decide +kernel
theorem dX10_lays__223 : decode cX10_lays_ 223 = .ok (.iload 4, 2) := by decide +kernel
theorem dX10_lays__225 : decode cX10_lays_ 225 = .ok (.istore 4, 2) := by decide +kernel
theorem dX10_lays__227 : decode cX10_lays_ 227 = .ok (.iinc 5 1, 3) := by decide +kernel
theorem dX10_lays__230 : decode cX10_lays_ 230 = .ok (.goto (-95), 3) := by decide +kernel
theorem dX10_lays__233 : decode cX10_lays_ 233 = .ok (.aload_n 0, 1) := by decide +kernel
theorem dX10_lays__234 : decode cX10_lays_ 234 = .ok (.getfield 41, 3) := by decide +kernel
theorem dX10_lays__237 : decode cX10_lays_ 237 = .ok (.iload_n 3, 1) := by decide +kernel
theorem dX10_lays__238 : decode cX10_lays_ 238 = .ok (.iload 4, 2) := by decide +kernel
theorem dX10_lays__240 : decode cX10_lays_ 240 = .ok (.iastore, 1) := by decide +kernel
theorem dX10_lays__241 : decode cX10_lays_ 241 = .ok (.iload 4, 2) := by decide +kernel
theorem dX10_lays__243 : decode cX10_lays_ 243 = .ok (.iconst 1, 1) := by decide +kernel
theorem dX10_lays__244 : decode cX10_lays_ 244 = .ok (.iadd, 1) := by decide +kernel
theorem dX10_lays__245 : decode cX10_lays_ 245 = .ok (.iload_n 1, 1) := by decide +kernel
theorem dX10_lays__246 : decode cX10_lays_ 246 = .ok (.if_icmp .le 10, 3) := by decide +kernel
theorem dX10_lays__249 : decode cX10_lays_ 249 = .ok (.iload 4, 2) := by decide +kernel
theorem dX10_lays__251 : decode cX10_lays_ 251 = .ok (.iconst 1, 1) := by decide +kernel
theorem dX10_lays__252 : decode cX10_lays_ 252 = .ok (.iadd, 1) := by decide +kernel
theorem dX10_lays__253 : decode cX10_lays_ 253 = .ok (.goto 4, 3) := by decide +kernel
theorem dX10_lays__256 : decode cX10_lays_ 256 = .ok (.iload_n 1, 1) := by decide +kernel
theorem dX10_lays__257 : decode cX10_lays_ 257 = .ok (.istore_n 1, 1) := by decide +kernel
theorem dX10_lays__258 : decode cX10_lays_ 258 = .ok (.goto (-229), 3) := by decide +kernel
theorem dX10_lays__261 : decode cX10_lays_ 261 = .ok (.iload_n 1, 1) := by decide +kernel
theorem dX10_lays__262 : decode cX10_lays_ 262 = .ok (.ireturn, 1) := by decide +kernel
theorem dX10_lane_0 : decode cX10_lane 0 = .ok (.aload_n 0, 1) := by decide +kernel
theorem dX10_lane_1 : decode cX10_lane 1 = .ok (.iload_n 1, 1) := by decide +kernel
theorem dX10_lane_2 : decode cX10_lane 2 = .ok (.invokevirtual 111, 3) := by decide +kernel
theorem dX10_lane_5 : decode cX10_lane 5 = .ok (.ifCond .eq 18, 3) := by decide +kernel
theorem dX10_lane_8 : decode cX10_lane 8 = .ok (.iload_n 2, 1) := by decide +kernel
theorem dX10_lane_9 : decode cX10_lane 9 = .ok (.iconst 1, 1) := by decide +kernel
theorem dX10_lane_10 : decode cX10_lane 10 = .ok (.aload_n 0, 1) := by decide +kernel
theorem dX10_lane_11 : decode cX10_lane 11 = .ok (.iload_n 1, 1) := by decide +kernel
theorem dX10_lane_12 : decode cX10_lane 12 = .ok (.invokevirtual 213, 3) := by decide +kernel
theorem dX10_lane_15 : decode cX10_lane 15 = .ok (.iconst 2, 1) := by decide +kernel
theorem dX10_lane_16 : decode cX10_lane 16 = .ok (.isub, 1) := by decide +kernel
theorem dX10_lane_17 : decode cX10_lane 17 = .ok (.invokestatic 68, 3) := by decide +kernel
theorem dX10_lane_20 : decode cX10_lane 20 = .ok (.ifCond .ne 7, 3) := by decide +kernel
theorem dX10_lane_23 : decode cX10_lane 23 = .ok (.sipush (-1001), 3) := by decide +kernel
theorem dX10_lane_26 : decode cX10_lane 26 = .ok (.ireturn, 1) := by decide +kernel
theorem dX10_lane_27 : decode cX10_lane 27 = .ok (.iload_n 3, 1) := by decide +kernel
theorem dX10_lane_28 : decode cX10_lane 28 = .ok (.iconst 0, 1) := by decide +kernel
theorem dX10_lane_29 : decode cX10_lane 29 = .ok (.iconst 3, 1) := by decide +kernel
theorem dX10_lane_30 : decode cX10_lane 30 = .ok (.invokestatic 68, 3) := by decide +kernel
theorem dX10_lane_33 : decode cX10_lane 33 = .ok (.ifCond .ne 7, 3) := by decide +kernel
theorem dX10_lane_36 : decode cX10_lane 36 = .ok (.sipush (-1002), 3) := by decide +kernel
theorem dX10_lane_39 : decode cX10_lane 39 = .ok (.ireturn, 1) := by decide +kernel
theorem dX10_lane_40 : decode cX10_lane 40 = .ok (.bipush 100, 2) := by decide +kernel
theorem dX10_lane_42 : decode cX10_lane 42 = .ok (.iload_n 1, 1) := by decide +kernel
theorem dX10_lane_43 : decode cX10_lane 43 = .ok (.imul, 1) := by decide +kernel
theorem dX10_lane_44 : decode cX10_lane 44 = .ok (.iload_n 2, 1) := by decide +kernel
theorem dX10_lane_45 : decode cX10_lane 45 = .ok (.iadd, 1) := by decide +kernel
theorem dX10_lane_46 : decode cX10_lane 46 = .ok (.istore 4, 2) := by decide +kernel
theorem dX10_lane_48 : decode cX10_lane 48 = .ok (.aload_n 0, 1) := by decide +kernel
theorem dX10_lane_49 : decode cX10_lane 49 = .ok (.iload 4, 2) := by decide +kernel
theorem dX10_lane_51 : decode cX10_lane 51 = .ok (.invokevirtual 238, 3) := by decide +kernel
theorem dX10_lane_54 : decode cX10_lane 54 = .ok (.istore 5, 2) := by decide +kernel
theorem dX10_lane_56 : decode cX10_lane 56 = .ok (.iconst 0, 1) := by decide +kernel
theorem dX10_lane_57 : decode cX10_lane 57 = .ok (.istore 6, 2) := by decide +kernel
theorem dX10_lane_59 : decode cX10_lane 59 = .ok (.iconst 0, 1) := by decide +kernel
theorem dX10_lane_60 : decode cX10_lane 60 = .ok (.istore 7, 2) := by decide +kernel
theorem dX10_lane_62 : decode cX10_lane 62 = .ok (.iload 7, 2) := by decide +kernel
theorem dX10_lane_64 : decode cX10_lane 64 = .ok (.aload_n 0, 1) := by decide +kernel
theorem dX10_lane_65 : decode cX10_lane 65 = .ok (.getfield 226, 3) := by decide +kernel
theorem dX10_lane_68 : decode cX10_lane 68 = .ok (.if_icmp .ge 35, 3) := by decide +kernel
theorem dX10_lane_71 : decode cX10_lane 71 = .ok (.aload_n 0, 1) := by decide +kernel
theorem dX10_lane_72 : decode cX10_lane 72 = .ok (.getfield 38, 3) := by decide +kernel
theorem dX10_lane_75 : decode cX10_lane 75 = .ok (.iload 7, 2) := by decide +kernel
theorem dX10_lane_77 : decode cX10_lane 77 = .ok (.iaload, 1) := by decide +kernel
theorem dX10_lane_78 : decode cX10_lane 78 = .ok (.iload 4, 2) := by decide +kernel
theorem dX10_lane_80 : decode cX10_lane 80 = .ok (.if_icmp .ne 13, 3) := by decide +kernel
theorem dX10_lane_83 : decode cX10_lane 83 = .ok (.aload_n 0, 1) := by decide +kernel
theorem dX10_lane_84 : decode cX10_lane 84 = .ok (.getfield 41, 3) := by decide +kernel
theorem dX10_lane_87 : decode cX10_lane 87 = .ok (.iload 7, 2) := by decide +kernel
theorem dX10_lane_89 : decode cX10_lane 89 = .ok (.iaload, 1) := by decide +kernel
theorem dX10_lane_90 : decode cX10_lane 90 = .ok (.goto 5, 3) := by decide +kernel
theorem dX10_lane_93 : decode cX10_lane 93 = .ok (.iload 6, 2) := by decide +kernel
theorem dX10_lane_95 : decode cX10_lane 95 = .ok (.istore 6, 2) := by decide +kernel
theorem dX10_lane_97 : decode cX10_lane 97 = .ok (.iinc 7 1, 3) := by decide +kernel
theorem dX10_lane_100 : decode cX10_lane 100 = .ok (.goto (-38), 3) := by decide +kernel
theorem dX10_lane_103 : decode cX10_lane 103 = .ok (.aload_n 0, 1) := by decide +kernel
theorem dX10_lane_104 : decode cX10_lane 104 = .ok (.iload_n 1, 1) := by decide +kernel
theorem dX10_lane_105 : decode cX10_lane 105 = .ok (.iload_n 2, 1) := by decide +kernel
theorem dX10_lane_106 : decode cX10_lane 106 = .ok (.invokevirtual 216, 3) := by decide +kernel
theorem dX10_lane_109 : decode cX10_lane 109 = .ok (.ifCond .eq 12, 3) := by decide +kernel
theorem dX10_lane_112 : decode cX10_lane 112 = .ok (.aload_n 0, 1) := by decide +kernel
theorem dX10_lane_113 : decode cX10_lane 113 = .ok (.iload_n 1, 1) := by decide +kernel
theorem dX10_lane_114 : decode cX10_lane 114 = .ok (.iload_n 2, 1) := by decide +kernel
theorem dX10_lane_115 : decode cX10_lane 115 = .ok (.invokevirtual 124, 3) := by decide +kernel
theorem dX10_lane_118 : decode cX10_lane 118 = .ok (.goto 9, 3) := by decide +kernel
theorem dX10_lane_121 : decode cX10_lane 121 = .ok (.aload_n 0, 1) := by decide +kernel
theorem dX10_lane_122 : decode cX10_lane 122 = .ok (.iload_n 1, 1) := by decide +kernel
theorem dX10_lane_123 : decode cX10_lane 123 = .ok (.iload_n 2, 1) := by decide +kernel
theorem dX10_lane_124 : decode cX10_lane 124 = .ok (.invokevirtual 117, 3) := by decide +kernel
theorem dX10_lane_127 : decode cX10_lane 127 = .ok (.istore 7, 2) := by decide +kernel
theorem dX10_lane_129 : decode cX10_lane 129 = .ok (.iload_n 3, 1) := by decide +kernel
theorem dX10_lane_130 : decode cX10_lane 130 = .ok (.ifCond .ne 12, 3) := by decide +kernel
theorem dX10_lane_133 : decode cX10_lane 133 = .ok (.aload_n 0, 1) := by decide +kernel
theorem dX10_lane_134 : decode cX10_lane 134 = .ok (.iload 4, 2) := by decide +kernel
theorem dX10_lane_136 : decode cX10_lane 136 = .ok (.invokevirtual 235, 3) := by decide +kernel
theorem dX10_lane_139 : decode cX10_lane 139 = .ok (.goto 40, 3) := by decide +kernel
theorem dX10_lane_142 : decode cX10_lane 142 = .ok (.iload_n 3, 1) := by decide +kernel
theorem dX10_lane_143 : decode cX10_lane 143 = .ok (.iconst 1, 1) := by decide +kernel
theorem dX10_lane_144 : decode cX10_lane 144 = .ok (.if_icmp .ne 8, 3) := by decide +kernel
theorem dX10_lane_147 : decode cX10_lane 147 = .ok (.iload 6, 2) := by decide +kernel
theorem dX10_lane_149 : decode cX10_lane 149 = .ok (.goto 30, 3) := by decide +kernel
theorem dX10_lane_152 : decode cX10_lane 152 = .ok (.iload_n 3, 1) := by decide +kernel
theorem dX10_lane_153 : decode cX10_lane 153 = .ok (.iconst 2, 1) := by decide +kernel
theorem dX10_lane_154 : decode cX10_lane 154 = .ok (.if_icmp .ne 8, 3) := by decide +kernel
theorem dX10_lane_157 : decode cX10_lane 157 = .ok (.iload 5, 2) := by decide +kernel
theorem dX10_lane_159 : decode cX10_lane 159 = .ok (.goto 20, 3) := by decide +kernel
theorem dX10_lane_162 : decode cX10_lane 162 = .ok (.bipush 20, 2) := by decide +kernel
theorem dX10_lane_164 : decode cX10_lane 164 = .ok (.iload 7, 2) := by decide +kernel
theorem dX10_lane_166 : decode cX10_lane 166 = .ok (.imul, 1) := by decide +kernel
theorem dX10_lane_167 : decode cX10_lane 167 = .ok (.iconst 2, 1) := by decide +kernel
theorem dX10_lane_168 : decode cX10_lane 168 = .ok (.iload 6, 2) := by decide +kernel
theorem dX10_lane_170 : decode cX10_lane 170 = .ok (.imul, 1) := by decide +kernel
theorem dX10_lane_171 : decode cX10_lane 171 = .ok (.iload 5, 2) := by decide +kernel
theorem dX10_lane_173 : decode cX10_lane 173 = .ok (.iconst 1, 1) := by decide +kernel
theorem dX10_lane_174 : decode cX10_lane 174 = .ok (.isub, 1) := by decide +kernel
theorem dX10_lane_175 : decode cX10_lane 175 = .ok (.isub, 1) := by decide +kernel
theorem dX10_lane_176 : decode cX10_lane 176 = .ok (.iconst 4, 1) := by decide +kernel
theorem dX10_lane_177 : decode cX10_lane 177 = .ok (.imul, 1) := by decide +kernel
theorem dX10_lane_178 : decode cX10_lane 178 = .ok (.iadd, 1) := by decide +kernel
theorem dX10_lane_179 : decode cX10_lane 179 = .ok (.ireturn, 1) := by decide +kernel
theorem dX10_writes_0 : decode cX10_writes 0 = .ok (.aload_n 0, 1) := by decide +kernel
theorem dX10_writes_1 : decode cX10_writes 1 = .ok (.getfield 47, 3) := by decide +kernel
theorem dX10_writes_4 : decode cX10_writes 4 = .ok (.aload_n 0, 1) := by decide +kernel
theorem dX10_writes_5 : decode cX10_writes 5 = .ok (.getfield 241, 3) := by decide +kernel
theorem dX10_writes_8 : decode cX10_writes 8 = .ok (.iload_n 1, 1) := by decide +kernel
theorem dX10_writes_9 : decode cX10_writes 9 = .ok (.iastore, 1) := by decide +kernel
theorem dX10_writes_10 : decode cX10_writes 10 = .ok (.aload_n 0, 1) := by decide +kernel
theorem dX10_writes_11 : decode cX10_writes 11 = .ok (.dup, 1) := by decide +kernel
theorem dX10_writes_12 : decode cX10_writes 12 = .ok (.getfield 241, 3) := by decide +kernel
theorem dX10_writes_15 : decode cX10_writes 15 = .ok (.iconst 1, 1) := by decide +kernel
theorem dX10_writes_16 : decode cX10_writes 16 = .ok (.iadd, 1) := by decide +kernel
theorem dX10_writes_17 : decode cX10_writes 17 = .ok (.putfield 241, 3) := by decide +kernel
theorem dX10_writes_20 : decode cX10_writes 20 = .ok (.return_, 1) := by decide +kernel
theorem dX10_number_0 : decode cX10_number 0 = .ok (.iload_n 1, 1) := by decide +kernel
theorem dX10_number_1 : decode cX10_number 1 = .ok (.bipush 9, 2) := by decide +kernel
theorem dX10_number_3 : decode cX10_number 3 = .ok (.if_icmp .le 14, 3) := by decide +kernel
theorem dX10_number_6 : decode cX10_number 6 = .ok (.aload_n 0, 1) := by decide +kernel
theorem dX10_number_7 : decode cX10_number 7 = .ok (.bipush 48, 2) := by decide +kernel
theorem dX10_number_9 : decode cX10_number 9 = .ok (.iload_n 1, 1) := by decide +kernel
theorem dX10_number_10 : decode cX10_number 10 = .ok (.bipush 10, 2) := by decide +kernel
theorem dX10_number_12 : decode cX10_number 12 = .ok (.idiv, 1) := by decide +kernel
theorem dX10_number_13 : decode cX10_number 13 = .ok (.iadd, 1) := by decide +kernel
theorem dX10_number_14 : decode cX10_number 14 = .ok (.invokevirtual 244, 3) := by decide +kernel
theorem dX10_number_17 : decode cX10_number 17 = .ok (.aload_n 0, 1) := by decide +kernel
theorem dX10_number_18 : decode cX10_number 18 = .ok (.bipush 48, 2) := by decide +kernel
theorem dX10_number_20 : decode cX10_number 20 = .ok (.iload_n 1, 1) := by decide +kernel
theorem dX10_number_21 : decode cX10_number 21 = .ok (.bipush 10, 2) := by decide +kernel
theorem dX10_number_23 : decode cX10_number 23 = .ok (.irem, 1) := by decide +kernel
theorem dX10_number_24 : decode cX10_number 24 = .ok (.iadd, 1) := by decide +kernel
theorem dX10_number_25 : decode cX10_number 25 = .ok (.invokevirtual 244, 3) := by decide +kernel
theorem dX10_number_28 : decode cX10_number 28 = .ok (.return_, 1) := by decide +kernel
theorem dX10_write_0 : decode cX10_write 0 = .ok (.aload_n 0, 1) := by decide +kernel
theorem dX10_write_1 : decode cX10_write 1 = .ok (.iload_n 1, 1) := by decide +kernel
theorem dX10_write_2 : decode cX10_write 2 = .ok (.invokevirtual 111, 3) := by decide +kernel
theorem dX10_write_5 : decode cX10_write 5 = .ok (.ifCond .ne 7, 3) := by decide +kernel
theorem dX10_write_8 : decode cX10_write 8 = .ok (.sipush (-1001), 3) := by decide +kernel
theorem dX10_write_11 : decode cX10_write 11 = .ok (.ireturn, 1) := by decide +kernel
theorem dX10_write_12 : decode cX10_write 12 = .ok (.aload_n 0, 1) := by decide +kernel
theorem dX10_write_13 : decode cX10_write 13 = .ok (.iload_n 1, 1) := by decide +kernel
theorem dX10_write_14 : decode cX10_write 14 = .ok (.invokevirtual 114, 3) := by decide +kernel
theorem dX10_write_17 : decode cX10_write 17 = .ok (.ifCond .ne 7, 3) := by decide +kernel
theorem dX10_write_20 : decode cX10_write 20 = .ok (.sipush (-1003), 3) := by decide +kernel
theorem dX10_write_23 : decode cX10_write 23 = .ok (.ireturn, 1) := by decide +kernel
theorem dX10_write_24 : decode cX10_write 24 = .ok (.aload_n 0, 1) := by decide +kernel
theorem dX10_write_25 : decode cX10_write 25 = .ok (.iconst 0, 1) := by decide +kernel
theorem dX10_write_26 : decode cX10_write 26 = .ok (.putfield 241, 3) := by decide +kernel
theorem dX10_write_29 : decode cX10_write 29 = .ok (.aload_n 0, 1) := by decide +kernel
theorem dX10_write_30 : decode cX10_write 30 = .ok (.bipush 77, 2) := by decide +kernel
theorem dX10_write_32 : decode cX10_write 32 = .ok (.invokevirtual 244, 3) := by decide +kernel
theorem dX10_write_35 : decode cX10_write 35 = .ok (.aload_n 0, 1) := by decide +kernel
theorem dX10_write_36 : decode cX10_write 36 = .ok (.aload_n 0, 1) := by decide +kernel
theorem dX10_write_37 : decode cX10_write 37 = .ok (.iload_n 1, 1) := by decide +kernel
theorem dX10_write_38 : decode cX10_write 38 = .ok (.iconst 0, 1) := by decide +kernel
theorem dX10_write_39 : decode cX10_write 39 = .ok (.invokevirtual 117, 3) := by decide +kernel
theorem dX10_write_42 : decode cX10_write 42 = .ok (.invokevirtual 247, 3) := by decide +kernel
theorem dX10_write_45 : decode cX10_write 45 = .ok (.aload_n 0, 1) := by decide +kernel
theorem dX10_write_46 : decode cX10_write 46 = .ok (.bipush 44, 2) := by decide +kernel
theorem dX10_write_48 : decode cX10_write 48 = .ok (.invokevirtual 244, 3) := by decide +kernel
theorem dX10_write_51 : decode cX10_write 51 = .ok (.aload_n 0, 1) := by decide +kernel
theorem dX10_write_52 : decode cX10_write 52 = .ok (.aload_n 0, 1) := by decide +kernel
theorem dX10_write_53 : decode cX10_write 53 = .ok (.iload_n 1, 1) := by decide +kernel
theorem dX10_write_54 : decode cX10_write 54 = .ok (.iconst 0, 1) := by decide +kernel
theorem dX10_write_55 : decode cX10_write 55 = .ok (.invokevirtual 124, 3) := by decide +kernel
theorem dX10_write_58 : decode cX10_write 58 = .ok (.invokevirtual 247, 3) := by decide +kernel
theorem dX10_write_61 : decode cX10_write 61 = .ok (.iconst 0, 1) := by decide +kernel
theorem dX10_write_62 : decode cX10_write 62 = .ok (.istore_n 2, 1) := by decide +kernel
theorem dX10_write_63 : decode cX10_write 63 = .ok (.iload_n 2, 1) := by decide +kernel
theorem dX10_write_64 : decode cX10_write 64 = .ok (.aload_n 0, 1) := by decide +kernel
theorem dX10_write_65 : decode cX10_write 65 = .ok (.iload_n 1, 1) := by decide +kernel
theorem dX10_write_66 : decode cX10_write 66 = .ok (.invokevirtual 213, 3) := by decide +kernel
theorem dX10_write_69 : decode cX10_write 69 = .ok (.if_icmp .ge 58, 3) := by decide +kernel
theorem dX10_write_72 : decode cX10_write 72 = .ok (.aload_n 0, 1) := by decide +kernel
theorem dX10_write_73 : decode cX10_write 73 = .ok (.iload_n 1, 1) := by decide +kernel
theorem dX10_write_74 : decode cX10_write 74 = .ok (.iload_n 2, 1) := by decide +kernel
theorem dX10_write_75 : decode cX10_write 75 = .ok (.invokevirtual 216, 3) := by decide +kernel
theorem dX10_write_78 : decode cX10_write 78 = .ok (.istore_n 3, 1) := by decide +kernel
theorem dX10_write_79 : decode cX10_write 79 = .ok (.aload_n 0, 1) := by decide +kernel
theorem dX10_write_80 : decode cX10_write 80 = .ok (.iload_n 3, 1) := by decide +kernel
theorem dX10_write_81 : decode cX10_write 81 = .ok (.ifCond .eq 8, 3) := by decide +kernel
theorem dX10_write_84 : decode cX10_write 84 = .ok (.bipush 72, 2) := by decide +kernel
theorem dX10_write_86 : decode cX10_write 86 = .ok (.goto 5, 3) := by decide +kernel
theorem dX10_write_89 : decode cX10_write 89 = .ok (.bipush 86, 2) := by decide +kernel
theorem dX10_write_91 : decode cX10_write 91 = .ok (.invokevirtual 244, 3) := by decide +kernel
theorem dX10_write_94 : decode cX10_write 94 = .ok (.aload_n 0, 1) := by decide +kernel
theorem dX10_write_95 : decode cX10_write 95 = .ok (.iload_n 3, 1) := by decide +kernel
theorem dX10_write_96 : decode cX10_write 96 = .ok (.ifCond .eq 14, 3) := by decide +kernel
theorem dX10_write_99 : decode cX10_write 99 = .ok (.aload_n 0, 1) := by decide +kernel
theorem dX10_write_100 : decode cX10_write 100 = .ok (.iload_n 1, 1) := by decide +kernel
theorem dX10_write_101 : decode cX10_write 101 = .ok (.iload_n 2, 1) := by decide +kernel
theorem dX10_write_102 : decode cX10_write 102 = .ok (.iconst 1, 1) := by decide +kernel
theorem dX10_write_103 : decode cX10_write 103 = .ok (.iadd, 1) := by decide +kernel
theorem dX10_write_104 : decode cX10_write 104 = .ok (.invokevirtual 117, 3) := by decide +kernel
theorem dX10_write_107 : decode cX10_write 107 = .ok (.goto 11, 3) := by decide +kernel
theorem dX10_write_110 : decode cX10_write 110 = .ok (.aload_n 0, 1) := by decide +kernel
theorem dX10_write_111 : decode cX10_write 111 = .ok (.iload_n 1, 1) := by decide +kernel
theorem dX10_write_112 : decode cX10_write 112 = .ok (.iload_n 2, 1) := by decide +kernel
theorem dX10_write_113 : decode cX10_write 113 = .ok (.iconst 1, 1) := by decide +kernel
theorem dX10_write_114 : decode cX10_write 114 = .ok (.iadd, 1) := by decide +kernel
theorem dX10_write_115 : decode cX10_write 115 = .ok (.invokevirtual 124, 3) := by decide +kernel
theorem dX10_write_118 : decode cX10_write 118 = .ok (.invokevirtual 247, 3) := by decide +kernel
theorem dX10_write_121 : decode cX10_write 121 = .ok (.iinc 2 1, 3) := by decide +kernel
theorem dX10_write_124 : decode cX10_write 124 = .ok (.goto (-61), 3) := by decide +kernel
theorem dX10_write_127 : decode cX10_write 127 = .ok (.aload_n 0, 1) := by decide +kernel
theorem dX10_write_128 : decode cX10_write 128 = .ok (.getfield 241, 3) := by decide +kernel
theorem dX10_write_131 : decode cX10_write 131 = .ok (.ireturn, 1) := by decide +kernel
theorem dX10_written_0 : decode cX10_written 0 = .ok (.iload_n 1, 1) := by decide +kernel
theorem dX10_written_1 : decode cX10_written 1 = .ok (.iconst 0, 1) := by decide +kernel
theorem dX10_written_2 : decode cX10_written 2 = .ok (.aload_n 0, 1) := by decide +kernel
theorem dX10_written_3 : decode cX10_written 3 = .ok (.getfield 241, 3) := by decide +kernel
theorem dX10_written_6 : decode cX10_written 6 = .ok (.iconst 1, 1) := by decide +kernel
theorem dX10_written_7 : decode cX10_written 7 = .ok (.isub, 1) := by decide +kernel
theorem dX10_written_8 : decode cX10_written 8 = .ok (.invokestatic 68, 3) := by decide +kernel
theorem dX10_written_11 : decode cX10_written 11 = .ok (.ifCond .eq 12, 3) := by decide +kernel
theorem dX10_written_14 : decode cX10_written 14 = .ok (.aload_n 0, 1) := by decide +kernel
theorem dX10_written_15 : decode cX10_written 15 = .ok (.getfield 47, 3) := by decide +kernel
theorem dX10_written_18 : decode cX10_written 18 = .ok (.iload_n 1, 1) := by decide +kernel
theorem dX10_written_19 : decode cX10_written 19 = .ok (.iaload, 1) := by decide +kernel
theorem dX10_written_20 : decode cX10_written 20 = .ok (.goto 6, 3) := by decide +kernel
theorem dX10_written_23 : decode cX10_written 23 = .ok (.sipush (-1001), 3) := by decide +kernel
theorem dX10_written_26 : decode cX10_written 26 = .ok (.ireturn, 1) := by decide +kernel
theorem dX10_type_0 : decode cX10_type 0 = .ok (.iload_n 1, 1) := by decide +kernel
theorem dX10_type_1 : decode cX10_type 1 = .ok (.iconst 0, 1) := by decide +kernel
theorem dX10_type_2 : decode cX10_type 2 = .ok (.sipush 255, 3) := by decide +kernel
theorem dX10_type_5 : decode cX10_type 5 = .ok (.invokestatic 68, 3) := by decide +kernel
theorem dX10_type_8 : decode cX10_type 8 = .ok (.ifCond .ne 7, 3) := by decide +kernel
theorem dX10_type_11 : decode cX10_type 11 = .ok (.sipush (-1002), 3) := by decide +kernel
theorem dX10_type_14 : decode cX10_type 14 = .ok (.ireturn, 1) := by decide +kernel
theorem dX10_type_15 : decode cX10_type 15 = .ok (.aload_n 0, 1) := by decide +kernel
theorem dX10_type_16 : decode cX10_type 16 = .ok (.getfield 249, 3) := by decide +kernel
theorem dX10_type_19 : decode cX10_type 19 = .ok (.bipush 120, 2) := by decide +kernel
theorem dX10_type_21 : decode cX10_type 21 = .ok (.if_icmp .ne 7, 3) := by decide +kernel
theorem dX10_type_24 : decode cX10_type 24 = .ok (.sipush (-1004), 3) := by decide +kernel
theorem dX10_type_27 : decode cX10_type 27 = .ok (.ireturn, 1) := by decide +kernel
theorem dX10_type_28 : decode cX10_type 28 = .ok (.aload_n 0, 1) := by decide +kernel
theorem dX10_type_29 : decode cX10_type 29 = .ok (.getfield 50, 3) := by decide +kernel
theorem dX10_type_32 : decode cX10_type 32 = .ok (.aload_n 0, 1) := by decide +kernel
theorem dX10_type_33 : decode cX10_type 33 = .ok (.getfield 249, 3) := by decide +kernel
theorem dX10_type_36 : decode cX10_type 36 = .ok (.iload_n 1, 1) := by decide +kernel
theorem dX10_type_37 : decode cX10_type 37 = .ok (.iastore, 1) := by decide +kernel
theorem dX10_type_38 : decode cX10_type 38 = .ok (.aload_n 0, 1) := by decide +kernel
theorem dX10_type_39 : decode cX10_type 39 = .ok (.dup, 1) := by decide +kernel
theorem dX10_type_40 : decode cX10_type 40 = .ok (.getfield 249, 3) := by decide +kernel
theorem dX10_type_43 : decode cX10_type 43 = .ok (.iconst 1, 1) := by decide +kernel
theorem dX10_type_44 : decode cX10_type 44 = .ok (.iadd, 1) := by decide +kernel
theorem dX10_type_45 : decode cX10_type 45 = .ok (.putfield 249, 3) := by decide +kernel
theorem dX10_type_48 : decode cX10_type 48 = .ok (.aload_n 0, 1) := by decide +kernel
theorem dX10_type_49 : decode cX10_type 49 = .ok (.getfield 249, 3) := by decide +kernel
theorem dX10_type_52 : decode cX10_type 52 = .ok (.ireturn, 1) := by decide +kernel
theorem dX10_clearText_0 : decode cX10_clearText 0 = .ok (.aload_n 0, 1) := by decide +kernel
theorem dX10_clearText_1 : decode cX10_clearText 1 = .ok (.getfield 249, 3) := by decide +kernel
theorem dX10_clearText_4 : decode cX10_clearText 4 = .ok (.istore_n 1, 1) := by decide +kernel
theorem dX10_clearText_5 : decode cX10_clearText 5 = .ok (.aload_n 0, 1) := by decide +kernel
theorem dX10_clearText_6 : decode cX10_clearText 6 = .ok (.iconst 0, 1) := by decide +kernel
theorem dX10_clearText_7 : decode cX10_clearText 7 = .ok (.putfield 249, 3) := by decide +kernel
theorem dX10_clearText_10 : decode cX10_clearText 10 = .ok (.iload_n 1, 1) := by decide +kernel
theorem dX10_clearText_11 : decode cX10_clearText 11 = .ok (.ireturn, 1) := by decide +kernel
theorem dX10_here_0 : decode cX10_here 0 = .ok (.aload_n 0, 1) := by decide +kernel
theorem dX10_here_1 : decode cX10_here 1 = .ok (.getfield 252, 3) := by decide +kernel
theorem dX10_here_4 : decode cX10_here 4 = .ok (.aload_n 0, 1) := by decide +kernel
theorem dX10_here_5 : decode cX10_here 5 = .ok (.getfield 249, 3) := by decide +kernel
theorem dX10_here_8 : decode cX10_here 8 = .ok (.if_icmp .ge 30, 3) := by decide +kernel
theorem dX10_here_11 : decode cX10_here 11 = .ok (.aload_n 0, 1) := by decide +kernel
theorem dX10_here_12 : decode cX10_here 12 = .ok (.getfield 50, 3) := by decide +kernel
theorem dX10_here_15 : decode cX10_here 15 = .ok (.aload_n 0, 1) := by decide +kernel
theorem dX10_here_16 : decode cX10_here 16 = .ok (.getfield 252, 3) := by decide +kernel
theorem dX10_here_19 : decode cX10_here 19 = .ok (.iaload, 1) := by decide +kernel
theorem dX10_here_20 : decode cX10_here 20 = .ok (.bipush 32, 2) := by decide +kernel
theorem dX10_here_22 : decode cX10_here 22 = .ok (.if_icmp .ne 16, 3) := by decide +kernel
theorem dX10_here_25 : decode cX10_here 25 = .ok (.aload_n 0, 1) := by decide +kernel
theorem dX10_here_26 : decode cX10_here 26 = .ok (.dup, 1) := by decide +kernel
theorem dX10_here_27 : decode cX10_here 27 = .ok (.getfield 252, 3) := by decide +kernel
theorem dX10_here_30 : decode cX10_here 30 = .ok (.iconst 1, 1) := by decide +kernel
theorem dX10_here_31 : decode cX10_here 31 = .ok (.iadd, 1) := by decide +kernel
theorem dX10_here_32 : decode cX10_here 32 = .ok (.putfield 252, 3) := by decide +kernel
theorem dX10_here_35 : decode cX10_here 35 = .ok (.goto (-35), 3) := by decide +kernel
theorem dX10_here_38 : decode cX10_here 38 = .ok (.aload_n 0, 1) := by decide +kernel
theorem dX10_here_39 : decode cX10_here 39 = .ok (.getfield 252, 3) := by decide +kernel
theorem dX10_here_42 : decode cX10_here 42 = .ok (.aload_n 0, 1) := by decide +kernel
theorem dX10_here_43 : decode cX10_here 43 = .ok (.getfield 249, 3) := by decide +kernel
theorem dX10_here_46 : decode cX10_here 46 = .ok (.if_icmp .ge 15, 3) := by decide +kernel
theorem dX10_here_49 : decode cX10_here 49 = .ok (.aload_n 0, 1) := by decide +kernel
theorem dX10_here_50 : decode cX10_here 50 = .ok (.getfield 50, 3) := by decide +kernel
theorem dX10_here_53 : decode cX10_here 53 = .ok (.aload_n 0, 1) := by decide +kernel
theorem dX10_here_54 : decode cX10_here 54 = .ok (.getfield 252, 3) := by decide +kernel
theorem dX10_here_57 : decode cX10_here 57 = .ok (.iaload, 1) := by decide +kernel
theorem dX10_here_58 : decode cX10_here 58 = .ok (.goto 6, 3) := by decide +kernel
theorem dX10_here_61 : decode cX10_here 61 = .ok (.sipush (-1000), 3) := by decide +kernel
theorem dX10_here_64 : decode cX10_here 64 = .ok (.ireturn, 1) := by decide +kernel
theorem dX10_readsNumber_0 : decode cX10_readsNumber 0 = .ok (.aload_n 0, 1) := by decide +kernel
theorem dX10_readsNumber_1 : decode cX10_readsNumber 1 = .ok (.aload_n 0, 1) := by decide +kernel
theorem dX10_readsNumber_2 : decode cX10_readsNumber 2 = .ok (.getfield 255, 3) := by decide +kernel
theorem dX10_readsNumber_5 : decode cX10_readsNumber 5 = .ok (.ifCond .eq 21, 3) := by decide +kernel
theorem dX10_readsNumber_8 : decode cX10_readsNumber 8 = .ok (.aload_n 0, 1) := by decide +kernel
theorem dX10_readsNumber_9 : decode cX10_readsNumber 9 = .ok (.invokevirtual 258, 3) := by decide +kernel
theorem dX10_readsNumber_12 : decode cX10_readsNumber 12 = .ok (.bipush 48, 2) := by decide +kernel
theorem dX10_readsNumber_14 : decode cX10_readsNumber 14 = .ok (.bipush 57, 2) := by decide +kernel
theorem dX10_readsNumber_16 : decode cX10_readsNumber 16 = .ok (.invokestatic 68, 3) := by decide +kernel
theorem dX10_readsNumber_19 : decode cX10_readsNumber 19 = .ok (.ifCond .eq 7, 3) := by decide +kernel
theorem dX10_readsNumber_22 : decode cX10_readsNumber 22 = .ok (.iconst 1, 1) := by decide +kernel
theorem dX10_readsNumber_23 : decode cX10_readsNumber 23 = .ok (.goto 4, 3) := by decide +kernel
theorem dX10_readsNumber_26 : decode cX10_readsNumber 26 = .ok (.iconst 0, 1) := by decide +kernel
theorem dX10_readsNumber_27 : decode cX10_readsNumber 27 = .ok (.putfield 255, 3) := by decide +kernel
theorem dX10_readsNumber_30 : decode cX10_readsNumber 30 = .ok (.aload_n 0, 1) := by decide +kernel
theorem dX10_readsNumber_31 : decode cX10_readsNumber 31 = .ok (.getfield 252, 3) := by decide +kernel
theorem dX10_readsNumber_34 : decode cX10_readsNumber 34 = .ok (.istore_n 1, 1) := by decide +kernel
theorem dX10_readsNumber_35 : decode cX10_readsNumber 35 = .ok (.iconst 0, 1) := by decide +kernel
theorem dX10_readsNumber_36 : decode cX10_readsNumber 36 = .ok (.istore_n 2, 1) := by decide +kernel
theorem dX10_readsNumber_37 : decode cX10_readsNumber 37 = .ok (.aload_n 0, 1) := by decide +kernel
theorem dX10_readsNumber_38 : decode cX10_readsNumber 38 = .ok (.getfield 255, 3) := by decide +kernel
theorem dX10_readsNumber_41 : decode cX10_readsNumber 41 = .ok (.ifCond .eq 62, 3) := by decide +kernel
theorem dX10_readsNumber_44 : decode cX10_readsNumber 44 = .ok (.iload_n 1, 1) := by decide +kernel
theorem dX10_readsNumber_45 : decode cX10_readsNumber 45 = .ok (.aload_n 0, 1) := by decide +kernel
theorem dX10_readsNumber_46 : decode cX10_readsNumber 46 = .ok (.getfield 249, 3) := by decide +kernel
theorem dX10_readsNumber_49 : decode cX10_readsNumber 49 = .ok (.if_icmp .ge 54, 3) := by decide +kernel
theorem dX10_readsNumber_52 : decode cX10_readsNumber 52 = .ok (.aload_n 0, 1) := by decide +kernel
theorem dX10_readsNumber_53 : decode cX10_readsNumber 53 = .ok (.getfield 50, 3) := by decide +kernel
theorem dX10_readsNumber_56 : decode cX10_readsNumber 56 = .ok (.iload_n 1, 1) := by decide +kernel
theorem dX10_readsNumber_57 : decode cX10_readsNumber 57 = .ok (.iaload, 1) := by decide +kernel
theorem dX10_readsNumber_58 : decode cX10_readsNumber 58 = .ok (.bipush 48, 2) := by decide +kernel
theorem dX10_readsNumber_60 : decode cX10_readsNumber 60 = .ok (.bipush 57, 2) := by decide +kernel
theorem dX10_readsNumber_62 : decode cX10_readsNumber 62 = .ok (.invokestatic 68, 3) := by decide +kernel
theorem dX10_readsNumber_65 : decode cX10_readsNumber 65 = .ok (.ifCond .eq 38, 3) := by decide +kernel
theorem dX10_readsNumber_68 : decode cX10_readsNumber 68 = .ok (.iload_n 1, 1) := by decide +kernel
theorem dX10_readsNumber_69 : decode cX10_readsNumber 69 = .ok (.aload_n 0, 1) := by decide +kernel
theorem dX10_readsNumber_70 : decode cX10_readsNumber 70 = .ok (.getfield 252, 3) := by decide +kernel
theorem dX10_readsNumber_73 : decode cX10_readsNumber 73 = .ok (.isub, 1) := by decide +kernel
theorem dX10_readsNumber_74 : decode cX10_readsNumber 74 = .ok (.iconst 3, 1) := by decide +kernel
theorem dX10_readsNumber_75 : decode cX10_readsNumber 75 = .ok (.if_icmp .ge 20, 3) := by decide +kernel
theorem dX10_readsNumber_78 : decode cX10_readsNumber 78 = .ok (.bipush 10, 2) := by decide +kernel
theorem dX10_readsNumber_80 : decode cX10_readsNumber 80 = .ok (.iload_n 2, 1) := by decide +kernel
theorem dX10_readsNumber_81 : decode cX10_readsNumber 81 = .ok (.imul, 1) := by decide +kernel
theorem dX10_readsNumber_82 : decode cX10_readsNumber 82 = .ok (.aload_n 0, 1) := by decide +kernel
theorem dX10_readsNumber_83 : decode cX10_readsNumber 83 = .ok (.getfield 50, 3) := by decide +kernel
theorem dX10_readsNumber_86 : decode cX10_readsNumber 86 = .ok (.iload_n 1, 1) := by decide +kernel
theorem dX10_readsNumber_87 : decode cX10_readsNumber 87 = .ok (.iaload, 1) := by decide +kernel
theorem dX10_readsNumber_88 : decode cX10_readsNumber 88 = .ok (.iadd, 1) := by decide +kernel
theorem dX10_readsNumber_89 : decode cX10_readsNumber 89 = .ok (.bipush 48, 2) := by decide +kernel
theorem dX10_readsNumber_91 : decode cX10_readsNumber 91 = .ok (.isub, 1) := by decide +kernel
theorem dX10_readsNumber_92 : decode cX10_readsNumber 92 = .ok (.goto 4, 3) := by decide +kernel
theorem dX10_readsNumber_95 : decode cX10_readsNumber 95 = .ok (.iload_n 2, 1) := by decide +kernel
theorem dX10_readsNumber_96 : decode cX10_readsNumber 96 = .ok (.istore_n 2, 1) := by decide +kernel
theorem dX10_readsNumber_97 : decode cX10_readsNumber 97 = .ok (.iinc 1 1, 3) := by decide +kernel
theorem dX10_readsNumber_100 : decode cX10_readsNumber 100 = .ok (.goto (-63), 3) := by decide +kernel
theorem dX10_readsNumber_103 : decode cX10_readsNumber 103 = .ok (.aload_n 0, 1) := by decide +kernel
theorem dX10_readsNumber_104 : decode cX10_readsNumber 104 = .ok (.aload_n 0, 1) := by decide +kernel
theorem dX10_readsNumber_105 : decode cX10_readsNumber 105 = .ok (.getfield 255, 3) := by decide +kernel
theorem dX10_readsNumber_108 : decode cX10_readsNumber 108 = .ok (.ifCond .eq 17, 3) := by decide +kernel
theorem dX10_readsNumber_111 : decode cX10_readsNumber 111 = .ok (.iload_n 1, 1) := by decide +kernel
theorem dX10_readsNumber_112 : decode cX10_readsNumber 112 = .ok (.aload_n 0, 1) := by decide +kernel
theorem dX10_readsNumber_113 : decode cX10_readsNumber 113 = .ok (.getfield 252, 3) := by decide +kernel
theorem dX10_readsNumber_116 : decode cX10_readsNumber 116 = .ok (.isub, 1) := by decide +kernel
theorem dX10_readsNumber_117 : decode cX10_readsNumber 117 = .ok (.iconst 3, 1) := by decide +kernel
theorem dX10_readsNumber_118 : decode cX10_readsNumber 118 = .ok (.if_icmp .gt 7, 3) := by decide +kernel
theorem dX10_readsNumber_121 : decode cX10_readsNumber 121 = .ok (.iconst 1, 1) := by decide +kernel
theorem dX10_readsNumber_122 : decode cX10_readsNumber 122 = .ok (.goto 4, 3) := by decide +kernel
theorem dX10_readsNumber_125 : decode cX10_readsNumber 125 = .ok (.iconst 0, 1) := by decide +kernel
theorem dX10_readsNumber_126 : decode cX10_readsNumber 126 = .ok (.putfield 255, 3) := by decide +kernel
theorem dX10_readsNumber_129 : decode cX10_readsNumber 129 = .ok (.aload_n 0, 1) := by decide +kernel
theorem dX10_readsNumber_130 : decode cX10_readsNumber 130 = .ok (.aload_n 0, 1) := by decide +kernel
theorem dX10_readsNumber_131 : decode cX10_readsNumber 131 = .ok (.getfield 255, 3) := by decide +kernel
theorem dX10_readsNumber_134 : decode cX10_readsNumber 134 = .ok (.ifCond .eq 7, 3) := by decide +kernel
theorem dX10_readsNumber_137 : decode cX10_readsNumber 137 = .ok (.iload_n 1, 1) := by decide +kernel
theorem dX10_readsNumber_138 : decode cX10_readsNumber 138 = .ok (.goto 7, 3) := by decide +kernel
theorem dX10_readsNumber_141 : decode cX10_readsNumber 141 = .ok (.aload_n 0, 1) := by decide +kernel
theorem dX10_readsNumber_142 : decode cX10_readsNumber 142 = .ok (.getfield 252, 3) := by decide +kernel
theorem dX10_readsNumber_145 : decode cX10_readsNumber 145 = .ok (.putfield 252, 3) := by decide +kernel
theorem dX10_readsNumber_148 : decode cX10_readsNumber 148 = .ok (.iload_n 2, 1) := by decide +kernel
theorem dX10_readsNumber_149 : decode cX10_readsNumber 149 = .ok (.ireturn, 1) := by decide +kernel
theorem dX10_word_0 : decode cX10_word 0 = .ok (.aload_n 0, 1) := by decide +kernel
theorem dX10_word_1 : decode cX10_word 1 = .ok (.invokevirtual 258, 3) := by decide +kernel
theorem dX10_word_4 : decode cX10_word 4 = .ok (.istore_n 1, 1) := by decide +kernel
theorem dX10_word_5 : decode cX10_word 5 = .ok (.aload_n 0, 1) := by decide +kernel
theorem dX10_word_6 : decode cX10_word 6 = .ok (.getfield 252, 3) := by decide +kernel
theorem dX10_word_9 : decode cX10_word 9 = .ok (.istore_n 2, 1) := by decide +kernel
theorem dX10_word_10 : decode cX10_word 10 = .ok (.iload_n 2, 1) := by decide +kernel
theorem dX10_word_11 : decode cX10_word 11 = .ok (.aload_n 0, 1) := by decide +kernel
theorem dX10_word_12 : decode cX10_word 12 = .ok (.getfield 249, 3) := by decide +kernel
theorem dX10_word_15 : decode cX10_word 15 = .ok (.if_icmp .ge 25, 3) := by decide +kernel
theorem dX10_word_18 : decode cX10_word 18 = .ok (.aload_n 0, 1) := by decide +kernel
theorem dX10_word_19 : decode cX10_word 19 = .ok (.getfield 50, 3) := by decide +kernel
theorem dX10_word_22 : decode cX10_word 22 = .ok (.iload_n 2, 1) := by decide +kernel
theorem dX10_word_23 : decode cX10_word 23 = .ok (.iaload, 1) := by decide +kernel
theorem dX10_word_24 : decode cX10_word 24 = .ok (.bipush 97, 2) := by decide +kernel
theorem dX10_word_26 : decode cX10_word 26 = .ok (.bipush 122, 2) := by decide +kernel
theorem dX10_word_28 : decode cX10_word 28 = .ok (.invokestatic 68, 3) := by decide +kernel
theorem dX10_word_31 : decode cX10_word 31 = .ok (.ifCond .eq 9, 3) := by decide +kernel
theorem dX10_word_34 : decode cX10_word 34 = .ok (.iinc 2 1, 3) := by decide +kernel
theorem dX10_word_37 : decode cX10_word 37 = .ok (.goto (-27), 3) := by decide +kernel
theorem dX10_word_40 : decode cX10_word 40 = .ok (.iload_n 2, 1) := by decide +kernel
theorem dX10_word_41 : decode cX10_word 41 = .ok (.aload_n 0, 1) := by decide +kernel
theorem dX10_word_42 : decode cX10_word 42 = .ok (.getfield 252, 3) := by decide +kernel
theorem dX10_word_45 : decode cX10_word 45 = .ok (.isub, 1) := by decide +kernel
theorem dX10_word_46 : decode cX10_word 46 = .ok (.istore_n 3, 1) := by decide +kernel
theorem dX10_word_47 : decode cX10_word 47 = .ok (.aload_n 0, 1) := by decide +kernel
theorem dX10_word_48 : decode cX10_word 48 = .ok (.iload_n 3, 1) := by decide +kernel
theorem dX10_word_49 : decode cX10_word 49 = .ok (.bipush 98, 2) := by decide +kernel
theorem dX10_word_51 : decode cX10_word 51 = .ok (.bipush 111, 2) := by decide +kernel
theorem dX10_word_53 : decode cX10_word 53 = .ok (.bipush 120, 2) := by decide +kernel
theorem dX10_word_55 : decode cX10_word 55 = .ok (.iconst 0, 1) := by decide +kernel
theorem dX10_word_56 : decode cX10_word 56 = .ok (.iconst 0, 1) := by decide +kernel
theorem dX10_word_57 : decode cX10_word 57 = .ok (.iconst 0, 1) := by decide +kernel
theorem dX10_word_58 : decode cX10_word 58 = .ok (.iconst 0, 1) := by decide +kernel
theorem dX10_word_59 : decode cX10_word 59 = .ok (.invokevirtual 261, 3) := by decide +kernel
theorem dX10_word_62 : decode cX10_word 62 = .ok (.ifCond .eq 7, 3) := by decide +kernel
theorem dX10_word_65 : decode cX10_word 65 = .ok (.iconst 1, 1) := by decide +kernel
theorem dX10_word_66 : decode cX10_word 66 = .ok (.goto 123, 3) := by decide +kernel
theorem dX10_word_69 : decode cX10_word 69 = .ok (.aload_n 0, 1) := by decide +kernel
theorem dX10_word_70 : decode cX10_word 70 = .ok (.iload_n 3, 1) := by decide +kernel
theorem dX10_word_71 : decode cX10_word 71 = .ok (.bipush 108, 2) := by decide +kernel
theorem dX10_word_73 : decode cX10_word 73 = .ok (.bipush 105, 2) := by decide +kernel
theorem dX10_word_75 : decode cX10_word 75 = .ok (.bipush 110, 2) := by decide +kernel
theorem dX10_word_77 : decode cX10_word 77 = .ok (.bipush 107, 2) := by decide +kernel
theorem dX10_word_79 : decode cX10_word 79 = .ok (.iconst 0, 1) := by decide +kernel
theorem dX10_word_80 : decode cX10_word 80 = .ok (.iconst 0, 1) := by decide +kernel
theorem dX10_word_81 : decode cX10_word 81 = .ok (.iconst 0, 1) := by decide +kernel
theorem dX10_word_82 : decode cX10_word 82 = .ok (.invokevirtual 261, 3) := by decide +kernel
theorem dX10_word_85 : decode cX10_word 85 = .ok (.ifCond .eq 7, 3) := by decide +kernel
theorem dX10_word_88 : decode cX10_word 88 = .ok (.iconst 2, 1) := by decide +kernel
theorem dX10_word_89 : decode cX10_word 89 = .ok (.goto 100, 3) := by decide +kernel
theorem dX10_word_92 : decode cX10_word 92 = .ok (.aload_n 0, 1) := by decide +kernel
theorem dX10_word_93 : decode cX10_word 93 = .ok (.iload_n 3, 1) := by decide +kernel
theorem dX10_word_94 : decode cX10_word 94 = .ok (.bipush 114, 2) := by decide +kernel
theorem dX10_word_96 : decode cX10_word 96 = .ok (.bipush 111, 2) := by decide +kernel
theorem dX10_word_98 : decode cX10_word 98 = .ok (.bipush 117, 2) := by decide +kernel
theorem dX10_word_100 : decode cX10_word 100 = .ok (.bipush 116, 2) := by decide +kernel
theorem dX10_word_102 : decode cX10_word 102 = .ok (.bipush 101, 2) := by decide +kernel
theorem dX10_word_104 : decode cX10_word 104 = .ok (.iconst 0, 1) := by decide +kernel
theorem dX10_word_105 : decode cX10_word 105 = .ok (.iconst 0, 1) := by decide +kernel
theorem dX10_word_106 : decode cX10_word 106 = .ok (.invokevirtual 261, 3) := by decide +kernel
theorem dX10_word_109 : decode cX10_word 109 = .ok (.ifCond .eq 7, 3) := by decide +kernel
theorem dX10_word_112 : decode cX10_word 112 = .ok (.iconst 3, 1) := by decide +kernel
theorem dX10_word_113 : decode cX10_word 113 = .ok (.goto 76, 3) := by decide +kernel
theorem dX10_word_116 : decode cX10_word 116 = .ok (.aload_n 0, 1) := by decide +kernel
theorem dX10_word_117 : decode cX10_word 117 = .ok (.iload_n 3, 1) := by decide +kernel
theorem dX10_word_118 : decode cX10_word 118 = .ok (.bipush 100, 2) := by decide +kernel
theorem dX10_word_120 : decode cX10_word 120 = .ok (.bipush 114, 2) := by decide +kernel
theorem dX10_word_122 : decode cX10_word 122 = .ok (.bipush 111, 2) := by decide +kernel
theorem dX10_word_124 : decode cX10_word 124 = .ok (.bipush 112, 2) := by decide +kernel
theorem dX10_word_126 : decode cX10_word 126 = .ok (.iconst 0, 1) := by decide +kernel
theorem dX10_word_127 : decode cX10_word 127 = .ok (.iconst 0, 1) := by decide +kernel
theorem dX10_word_128 : decode cX10_word 128 = .ok (.iconst 0, 1) := by decide +kernel
theorem dX10_word_129 : decode cX10_word 129 = .ok (.invokevirtual 261, 3) := by decide +kernel
theorem dX10_word_132 : decode cX10_word 132 = .ok (.ifCond .eq 7, 3) := by decide +kernel
theorem dX10_word_135 : decode cX10_word 135 = .ok (.iconst 4, 1) := by decide +kernel
theorem dX10_word_136 : decode cX10_word 136 = .ok (.goto 53, 3) := by decide +kernel
theorem dX10_word_139 : decode cX10_word 139 = .ok (.aload_n 0, 1) := by decide +kernel
theorem dX10_word_140 : decode cX10_word 140 = .ok (.iload_n 3, 1) := by decide +kernel
theorem dX10_word_141 : decode cX10_word 141 = .ok (.bipush 112, 2) := by decide +kernel
theorem dX10_word_143 : decode cX10_word 143 = .ok (.bipush 101, 2) := by decide +kernel
theorem dX10_word_145 : decode cX10_word 145 = .ok (.bipush 110, 2) := by decide +kernel
theorem dX10_word_147 : decode cX10_word 147 = .ok (.bipush 97, 2) := by decide +kernel
theorem dX10_word_149 : decode cX10_word 149 = .ok (.bipush 108, 2) := by decide +kernel
theorem dX10_word_151 : decode cX10_word 151 = .ok (.bipush 116, 2) := by decide +kernel
theorem dX10_word_153 : decode cX10_word 153 = .ok (.bipush 121, 2) := by decide +kernel
theorem dX10_word_155 : decode cX10_word 155 = .ok (.invokevirtual 261, 3) := by decide +kernel
theorem dX10_word_158 : decode cX10_word 158 = .ok (.ifCond .eq 7, 3) := by decide +kernel
theorem dX10_word_161 : decode cX10_word 161 = .ok (.iconst 5, 1) := by decide +kernel
theorem dX10_word_162 : decode cX10_word 162 = .ok (.goto 27, 3) := by decide +kernel
theorem dX10_word_165 : decode cX10_word 165 = .ok (.aload_n 0, 1) := by decide +kernel
theorem dX10_word_166 : decode cX10_word 166 = .ok (.iload_n 3, 1) := by decide +kernel
theorem dX10_word_167 : decode cX10_word 167 = .ok (.bipush 97, 2) := by decide +kernel
theorem dX10_word_169 : decode cX10_word 169 = .ok (.bipush 108, 2) := by decide +kernel
theorem dX10_word_171 : decode cX10_word 171 = .ok (.bipush 108, 2) := by decide +kernel
theorem dX10_word_173 : decode cX10_word 173 = .ok (.iconst 0, 1) := by decide +kernel
theorem dX10_word_174 : decode cX10_word 174 = .ok (.iconst 0, 1) := by decide +kernel
theorem dX10_word_175 : decode cX10_word 175 = .ok (.iconst 0, 1) := by decide +kernel
theorem dX10_word_176 : decode cX10_word 176 = .ok (.iconst 0, 1) := by decide +kernel
theorem dX10_word_177 : decode cX10_word 177 = .ok (.invokevirtual 261, 3) := by decide +kernel
theorem dX10_word_180 : decode cX10_word 180 = .ok (.ifCond .eq 8, 3) := by decide +kernel
theorem dX10_word_183 : decode cX10_word 183 = .ok (.bipush 6, 2) := by decide +kernel
theorem dX10_word_185 : decode cX10_word 185 = .ok (.goto 4, 3) := by decide +kernel
theorem dX10_word_188 : decode cX10_word 188 = .ok (.iconst 0, 1) := by decide +kernel
theorem dX10_word_189 : decode cX10_word 189 = .ok (.istore 4, 2) := by decide +kernel
theorem dX10_word_191 : decode cX10_word 191 = .ok (.aload_n 0, 1) := by decide +kernel
theorem dX10_word_192 : decode cX10_word 192 = .ok (.iload 4, 2) := by decide +kernel
theorem dX10_word_194 : decode cX10_word 194 = .ok (.ifCond .le 7, 3) := by decide +kernel
theorem dX10_word_197 : decode cX10_word 197 = .ok (.iload_n 2, 1) := by decide +kernel
theorem dX10_word_198 : decode cX10_word 198 = .ok (.goto 7, 3) := by decide +kernel
theorem dX10_word_201 : decode cX10_word 201 = .ok (.aload_n 0, 1) := by decide +kernel
theorem dX10_word_202 : decode cX10_word 202 = .ok (.getfield 252, 3) := by decide +kernel
theorem dX10_word_205 : decode cX10_word 205 = .ok (.putfield 252, 3) := by decide +kernel
theorem dX10_word_208 : decode cX10_word 208 = .ok (.iload 4, 2) := by decide +kernel
theorem dX10_word_210 : decode cX10_word 210 = .ok (.ireturn, 1) := by decide +kernel
theorem dX10_is_0 : decode cX10_is 0 = .ok (.iload 5, 2) := by decide +kernel
theorem dX10_is_2 : decode cX10_is 2 = .ok (.ifCond .ne 7, 3) := by decide +kernel
theorem dX10_is_5 : decode cX10_is 5 = .ok (.iconst 3, 1) := by decide +kernel
theorem dX10_is_6 : decode cX10_is 6 = .ok (.goto 23, 3) := by decide +kernel
theorem dX10_is_9 : decode cX10_is 9 = .ok (.iload 6, 2) := by decide +kernel
theorem dX10_is_11 : decode cX10_is 11 = .ok (.ifCond .ne 7, 3) := by decide +kernel
theorem dX10_is_14 : decode cX10_is 14 = .ok (.iconst 4, 1) := by decide +kernel
theorem dX10_is_15 : decode cX10_is 15 = .ok (.goto 14, 3) := by decide +kernel
theorem dX10_is_18 : decode cX10_is 18 = .ok (.iload 7, 2) := by decide +kernel
theorem dX10_is_20 : decode cX10_is 20 = .ok (.ifCond .ne 7, 3) := by decide +kernel
theorem dX10_is_23 : decode cX10_is 23 = .ok (.iconst 5, 1) := by decide +kernel
theorem dX10_is_24 : decode cX10_is 24 = .ok (.goto 5, 3) := by decide +kernel
theorem dX10_is_27 : decode cX10_is 27 = .ok (.bipush 7, 2) := by decide +kernel
theorem dX10_is_29 : decode cX10_is 29 = .ok (.istore 9, 2) := by decide +kernel
theorem dX10_is_31 : decode cX10_is 31 = .ok (.iload_n 1, 1) := by decide +kernel
theorem dX10_is_32 : decode cX10_is 32 = .ok (.iload 9, 2) := by decide +kernel
theorem dX10_is_34 : decode cX10_is 34 = .ok (.if_icmp .ne 135, 3) := by decide +kernel
theorem dX10_is_37 : decode cX10_is 37 = .ok (.aload_n 0, 1) := by decide +kernel
theorem dX10_is_38 : decode cX10_is 38 = .ok (.getfield 50, 3) := by decide +kernel
theorem dX10_is_41 : decode cX10_is 41 = .ok (.aload_n 0, 1) := by decide +kernel
theorem dX10_is_42 : decode cX10_is 42 = .ok (.getfield 252, 3) := by decide +kernel
theorem dX10_is_45 : decode cX10_is 45 = .ok (.iaload, 1) := by decide +kernel
theorem dX10_is_46 : decode cX10_is 46 = .ok (.iload_n 2, 1) := by decide +kernel
theorem dX10_is_47 : decode cX10_is 47 = .ok (.if_icmp .ne 122, 3) := by decide +kernel
theorem dX10_is_50 : decode cX10_is 50 = .ok (.aload_n 0, 1) := by decide +kernel
theorem dX10_is_51 : decode cX10_is 51 = .ok (.getfield 50, 3) := by decide +kernel
theorem dX10_is_54 : decode cX10_is 54 = .ok (.aload_n 0, 1) := by decide +kernel
theorem dX10_is_55 : decode cX10_is 55 = .ok (.getfield 252, 3) := by decide +kernel
theorem dX10_is_58 : decode cX10_is 58 = .ok (.iconst 1, 1) := by decide +kernel
theorem dX10_is_59 : decode cX10_is 59 = .ok (.iadd, 1) := by decide +kernel
theorem dX10_is_60 : decode cX10_is 60 = .ok (.iaload, 1) := by decide +kernel
theorem dX10_is_61 : decode cX10_is 61 = .ok (.iload_n 3, 1) := by decide +kernel
theorem dX10_is_62 : decode cX10_is 62 = .ok (.if_icmp .ne 107, 3) := by decide +kernel
theorem dX10_is_65 : decode cX10_is 65 = .ok (.aload_n 0, 1) := by decide +kernel
theorem dX10_is_66 : decode cX10_is 66 = .ok (.getfield 50, 3) := by decide +kernel
theorem dX10_is_69 : decode cX10_is 69 = .ok (.aload_n 0, 1) := by decide +kernel
theorem dX10_is_70 : decode cX10_is 70 = .ok (.getfield 252, 3) := by decide +kernel
theorem dX10_is_73 : decode cX10_is 73 = .ok (.iconst 2, 1) := by decide +kernel
theorem dX10_is_74 : decode cX10_is 74 = .ok (.iadd, 1) := by decide +kernel
theorem dX10_is_75 : decode cX10_is 75 = .ok (.iaload, 1) := by decide +kernel
theorem dX10_is_76 : decode cX10_is 76 = .ok (.iload 4, 2) := by decide +kernel
theorem dX10_is_78 : decode cX10_is 78 = .ok (.if_icmp .ne 91, 3) := by decide +kernel
theorem dX10_is_81 : decode cX10_is 81 = .ok (.iload 9, 2) := by decide +kernel
theorem dX10_is_83 : decode cX10_is 83 = .ok (.iconst 4, 1) := by decide +kernel
theorem dX10_is_84 : decode cX10_is 84 = .ok (.if_icmp .lt 19, 3) := by decide +kernel
theorem dX10_is_87 : decode cX10_is 87 = .ok (.aload_n 0, 1) := by decide +kernel
theorem dX10_is_88 : decode cX10_is 88 = .ok (.getfield 50, 3) := by decide +kernel
theorem dX10_is_91 : decode cX10_is 91 = .ok (.aload_n 0, 1) := by decide +kernel
theorem dX10_is_92 : decode cX10_is 92 = .ok (.getfield 252, 3) := by decide +kernel
theorem dX10_is_95 : decode cX10_is 95 = .ok (.iconst 3, 1) := by decide +kernel
theorem dX10_is_96 : decode cX10_is 96 = .ok (.iadd, 1) := by decide +kernel
theorem dX10_is_97 : decode cX10_is 97 = .ok (.iaload, 1) := by decide +kernel
theorem dX10_is_98 : decode cX10_is 98 = .ok (.iload 5, 2) := by decide +kernel
theorem dX10_is_100 : decode cX10_is 100 = .ok (.if_icmp .ne 69, 3) := by decide +kernel
theorem dX10_is_103 : decode cX10_is 103 = .ok (.iload 9, 2) := by decide +kernel
theorem dX10_is_105 : decode cX10_is 105 = .ok (.iconst 5, 1) := by decide +kernel
theorem dX10_is_106 : decode cX10_is 106 = .ok (.if_icmp .lt 19, 3) := by decide +kernel
theorem dX10_is_109 : decode cX10_is 109 = .ok (.aload_n 0, 1) := by decide +kernel
theorem dX10_is_110 : decode cX10_is 110 = .ok (.getfield 50, 3) := by decide +kernel
theorem dX10_is_113 : decode cX10_is 113 = .ok (.aload_n 0, 1) := by decide +kernel
theorem dX10_is_114 : decode cX10_is 114 = .ok (.getfield 252, 3) := by decide +kernel
theorem dX10_is_117 : decode cX10_is 117 = .ok (.iconst 4, 1) := by decide +kernel
theorem dX10_is_118 : decode cX10_is 118 = .ok (.iadd, 1) := by decide +kernel
theorem dX10_is_119 : decode cX10_is 119 = .ok (.iaload, 1) := by decide +kernel
theorem dX10_is_120 : decode cX10_is 120 = .ok (.iload 6, 2) := by decide +kernel
theorem dX10_is_122 : decode cX10_is 122 = .ok (.if_icmp .ne 47, 3) := by decide +kernel
theorem dX10_is_125 : decode cX10_is 125 = .ok (.iload 9, 2) := by decide +kernel
theorem dX10_is_127 : decode cX10_is 127 = .ok (.bipush 7, 2) := by decide +kernel
theorem dX10_is_129 : decode cX10_is 129 = .ok (.if_icmp .lt 36, 3) := by decide +kernel
theorem dX10_is_132 : decode cX10_is 132 = .ok (.aload_n 0, 1) := by decide +kernel
theorem dX10_is_133 : decode cX10_is 133 = .ok (.getfield 50, 3) := by decide +kernel
theorem dX10_is_136 : decode cX10_is 136 = .ok (.aload_n 0, 1) := by decide +kernel
theorem dX10_is_137 : decode cX10_is 137 = .ok (.getfield 252, 3) := by decide +kernel
theorem dX10_is_140 : decode cX10_is 140 = .ok (.iconst 5, 1) := by decide +kernel
theorem dX10_is_141 : decode cX10_is 141 = .ok (.iadd, 1) := by decide +kernel
theorem dX10_is_142 : decode cX10_is 142 = .ok (.iaload, 1) := by decide +kernel
theorem dX10_is_143 : decode cX10_is 143 = .ok (.iload 7, 2) := by decide +kernel
theorem dX10_is_145 : decode cX10_is 145 = .ok (.if_icmp .ne 24, 3) := by decide +kernel
theorem dX10_is_148 : decode cX10_is 148 = .ok (.aload_n 0, 1) := by decide +kernel
theorem dX10_is_149 : decode cX10_is 149 = .ok (.getfield 50, 3) := by decide +kernel
theorem dX10_is_152 : decode cX10_is 152 = .ok (.aload_n 0, 1) := by decide +kernel
theorem dX10_is_153 : decode cX10_is 153 = .ok (.getfield 252, 3) := by decide +kernel
theorem dX10_is_156 : decode cX10_is 156 = .ok (.bipush 6, 2) := by decide +kernel
theorem dX10_is_158 : decode cX10_is 158 = .ok (.iadd, 1) := by decide +kernel
theorem dX10_is_159 : decode cX10_is 159 = .ok (.iaload, 1) := by decide +kernel
theorem dX10_is_160 : decode cX10_is 160 = .ok (.iload 8, 2) := by decide +kernel
theorem dX10_is_162 : decode cX10_is 162 = .ok (.if_icmp .ne 7, 3) := by decide +kernel
theorem dX10_is_165 : decode cX10_is 165 = .ok (.iconst 1, 1) := by decide +kernel
theorem dX10_is_166 : decode cX10_is 166 = .ok (.goto 4, 3) := by decide +kernel
theorem dX10_is_169 : decode cX10_is 169 = .ok (.iconst 0, 1) := by decide +kernel
theorem dX10_is_170 : decode cX10_is 170 = .ok (.ireturn, 1) := by decide +kernel
theorem dX10_command_0 : decode cX10_command 0 = .ok (.aload_n 0, 1) := by decide +kernel
theorem dX10_command_1 : decode cX10_command 1 = .ok (.invokevirtual 265, 3) := by decide +kernel
theorem dX10_command_4 : decode cX10_command 4 = .ok (.istore_n 2, 1) := by decide +kernel
theorem dX10_command_5 : decode cX10_command 5 = .ok (.iload_n 2, 1) := by decide +kernel
theorem dX10_command_6 : decode cX10_command 6 = .ok (.iconst 1, 1) := by decide +kernel
theorem dX10_command_7 : decode cX10_command 7 = .ok (.if_icmp .ne 7, 3) := by decide +kernel
theorem dX10_command_10 : decode cX10_command 10 = .ok (.iconst 4, 1) := by decide +kernel
theorem dX10_command_11 : decode cX10_command 11 = .ok (.goto 28, 3) := by decide +kernel
theorem dX10_command_14 : decode cX10_command 14 = .ok (.iload_n 2, 1) := by decide +kernel
theorem dX10_command_15 : decode cX10_command 15 = .ok (.iconst 2, 1) := by decide +kernel
theorem dX10_command_16 : decode cX10_command 16 = .ok (.if_icmp .ne 8, 3) := by decide +kernel
theorem dX10_command_19 : decode cX10_command 19 = .ok (.bipush 6, 2) := by decide +kernel
theorem dX10_command_21 : decode cX10_command 21 = .ok (.goto 18, 3) := by decide +kernel
theorem dX10_command_24 : decode cX10_command 24 = .ok (.iload_n 2, 1) := by decide +kernel
theorem dX10_command_25 : decode cX10_command 25 = .ok (.ifCond .eq 9, 3) := by decide +kernel
theorem dX10_command_28 : decode cX10_command 28 = .ok (.iload_n 2, 1) := by decide +kernel
theorem dX10_command_29 : decode cX10_command 29 = .ok (.bipush 6, 2) := by decide +kernel
theorem dX10_command_31 : decode cX10_command 31 = .ok (.if_icmp .ne 7, 3) := by decide +kernel
theorem dX10_command_34 : decode cX10_command 34 = .ok (.iconst 0, 1) := by decide +kernel
theorem dX10_command_35 : decode cX10_command 35 = .ok (.goto 4, 3) := by decide +kernel
theorem dX10_command_38 : decode cX10_command 38 = .ok (.iconst 1, 1) := by decide +kernel
theorem dX10_command_39 : decode cX10_command 39 = .ok (.istore_n 3, 1) := by decide +kernel
theorem dX10_command_40 : decode cX10_command 40 = .ok (.aload_n 0, 1) := by decide +kernel
theorem dX10_command_41 : decode cX10_command 41 = .ok (.iload_n 2, 1) := by decide +kernel
theorem dX10_command_42 : decode cX10_command 42 = .ok (.ifCond .le 7, 3) := by decide +kernel
theorem dX10_command_45 : decode cX10_command 45 = .ok (.iconst 1, 1) := by decide +kernel
theorem dX10_command_46 : decode cX10_command 46 = .ok (.goto 4, 3) := by decide +kernel
theorem dX10_command_49 : decode cX10_command 49 = .ok (.iconst 0, 1) := by decide +kernel
theorem dX10_command_50 : decode cX10_command 50 = .ok (.putfield 255, 3) := by decide +kernel
theorem dX10_command_53 : decode cX10_command 53 = .ok (.iconst 0, 1) := by decide +kernel
theorem dX10_command_54 : decode cX10_command 54 = .ok (.istore 4, 2) := by decide +kernel
theorem dX10_command_56 : decode cX10_command 56 = .ok (.iload 4, 2) := by decide +kernel
theorem dX10_command_58 : decode cX10_command 58 = .ok (.iload_n 3, 1) := by decide +kernel
theorem dX10_command_59 : decode cX10_command 59 = .ok (.if_icmp .ge 20, 3) := by decide +kernel
theorem dX10_command_62 : decode cX10_command 62 = .ok (.aload_n 0, 1) := by decide +kernel
theorem dX10_command_63 : decode cX10_command 63 = .ok (.getfield 53, 3) := by decide +kernel
theorem dX10_command_66 : decode cX10_command 66 = .ok (.iload 4, 2) := by decide +kernel
theorem dX10_command_68 : decode cX10_command 68 = .ok (.aload_n 0, 1) := by decide +kernel
theorem dX10_command_69 : decode cX10_command 69 = .ok (.invokevirtual 268, 3) := by decide +kernel
theorem dX10_command_72 : decode cX10_command 72 = .ok (.iastore, 1) := by decide +kernel
theorem dX10_command_73 : decode cX10_command 73 = .ok (.iinc 4 1, 3) := by decide +kernel
theorem dX10_command_76 : decode cX10_command 76 = .ok (.goto (-20), 3) := by decide +kernel
theorem dX10_command_79 : decode cX10_command 79 = .ok (.aload_n 0, 1) := by decide +kernel
theorem dX10_command_80 : decode cX10_command 80 = .ok (.getfield 255, 3) := by decide +kernel
theorem dX10_command_83 : decode cX10_command 83 = .ok (.ifCond .eq 7, 3) := by decide +kernel
theorem dX10_command_86 : decode cX10_command 86 = .ok (.iload_n 1, 1) := by decide +kernel
theorem dX10_command_87 : decode cX10_command 87 = .ok (.ifCond .ne 5, 3) := by decide +kernel
theorem dX10_command_90 : decode cX10_command 90 = .ok (.iconst 0, 1) := by decide +kernel
theorem dX10_command_91 : decode cX10_command 91 = .ok (.ireturn, 1) := by decide +kernel
theorem dX10_command_92 : decode cX10_command 92 = .ok (.iload_n 2, 1) := by decide +kernel
theorem dX10_command_93 : decode cX10_command 93 = .ok (.tableswitch 138 1 5 #[35, 64, 105, 116, 127], 35) := by decide +kernel
theorem dX10_command_128 : decode cX10_command 128 = .ok (.aload_n 0, 1) := by decide +kernel
theorem dX10_command_129 : decode cX10_command 129 = .ok (.aload_n 0, 1) := by decide +kernel
theorem dX10_command_130 : decode cX10_command 130 = .ok (.getfield 53, 3) := by decide +kernel
theorem dX10_command_133 : decode cX10_command 133 = .ok (.iconst 0, 1) := by decide +kernel
theorem dX10_command_134 : decode cX10_command 134 = .ok (.iaload, 1) := by decide +kernel
theorem dX10_command_135 : decode cX10_command 135 = .ok (.aload_n 0, 1) := by decide +kernel
theorem dX10_command_136 : decode cX10_command 136 = .ok (.getfield 53, 3) := by decide +kernel
theorem dX10_command_139 : decode cX10_command 139 = .ok (.iconst 1, 1) := by decide +kernel
theorem dX10_command_140 : decode cX10_command 140 = .ok (.iaload, 1) := by decide +kernel
theorem dX10_command_141 : decode cX10_command 141 = .ok (.aload_n 0, 1) := by decide +kernel
theorem dX10_command_142 : decode cX10_command 142 = .ok (.getfield 53, 3) := by decide +kernel
theorem dX10_command_145 : decode cX10_command 145 = .ok (.iconst 2, 1) := by decide +kernel
theorem dX10_command_146 : decode cX10_command 146 = .ok (.iaload, 1) := by decide +kernel
theorem dX10_command_147 : decode cX10_command 147 = .ok (.aload_n 0, 1) := by decide +kernel
theorem dX10_command_148 : decode cX10_command 148 = .ok (.getfield 53, 3) := by decide +kernel
theorem dX10_command_151 : decode cX10_command 151 = .ok (.iconst 3, 1) := by decide +kernel
theorem dX10_command_152 : decode cX10_command 152 = .ok (.iaload, 1) := by decide +kernel
theorem dX10_command_153 : decode cX10_command 153 = .ok (.invokevirtual 271, 3) := by decide +kernel
theorem dX10_command_156 : decode cX10_command 156 = .ok (.ireturn, 1) := by decide +kernel
theorem dX10_command_157 : decode cX10_command 157 = .ok (.aload_n 0, 1) := by decide +kernel
theorem dX10_command_158 : decode cX10_command 158 = .ok (.aload_n 0, 1) := by decide +kernel
theorem dX10_command_159 : decode cX10_command 159 = .ok (.getfield 53, 3) := by decide +kernel
theorem dX10_command_162 : decode cX10_command 162 = .ok (.iconst 0, 1) := by decide +kernel
theorem dX10_command_163 : decode cX10_command 163 = .ok (.iaload, 1) := by decide +kernel
theorem dX10_command_164 : decode cX10_command 164 = .ok (.aload_n 0, 1) := by decide +kernel
theorem dX10_command_165 : decode cX10_command 165 = .ok (.getfield 53, 3) := by decide +kernel
theorem dX10_command_168 : decode cX10_command 168 = .ok (.iconst 1, 1) := by decide +kernel
theorem dX10_command_169 : decode cX10_command 169 = .ok (.iaload, 1) := by decide +kernel
theorem dX10_command_170 : decode cX10_command 170 = .ok (.aload_n 0, 1) := by decide +kernel
theorem dX10_command_171 : decode cX10_command 171 = .ok (.getfield 53, 3) := by decide +kernel
theorem dX10_command_174 : decode cX10_command 174 = .ok (.iconst 2, 1) := by decide +kernel
theorem dX10_command_175 : decode cX10_command 175 = .ok (.iaload, 1) := by decide +kernel
theorem dX10_command_176 : decode cX10_command 176 = .ok (.aload_n 0, 1) := by decide +kernel
theorem dX10_command_177 : decode cX10_command 177 = .ok (.getfield 53, 3) := by decide +kernel
theorem dX10_command_180 : decode cX10_command 180 = .ok (.iconst 3, 1) := by decide +kernel
theorem dX10_command_181 : decode cX10_command 181 = .ok (.iaload, 1) := by decide +kernel
theorem dX10_command_182 : decode cX10_command 182 = .ok (.aload_n 0, 1) := by decide +kernel
theorem dX10_command_183 : decode cX10_command 183 = .ok (.getfield 53, 3) := by decide +kernel
theorem dX10_command_186 : decode cX10_command 186 = .ok (.iconst 4, 1) := by decide +kernel
theorem dX10_command_187 : decode cX10_command 187 = .ok (.iaload, 1) := by decide +kernel
theorem dX10_command_188 : decode cX10_command 188 = .ok (.aload_n 0, 1) := by decide +kernel
theorem dX10_command_189 : decode cX10_command 189 = .ok (.getfield 53, 3) := by decide +kernel
theorem dX10_command_192 : decode cX10_command 192 = .ok (.iconst 5, 1) := by decide +kernel
theorem dX10_command_193 : decode cX10_command 193 = .ok (.iaload, 1) := by decide +kernel
theorem dX10_command_194 : decode cX10_command 194 = .ok (.invokevirtual 274, 3) := by decide +kernel
theorem dX10_command_197 : decode cX10_command 197 = .ok (.ireturn, 1) := by decide +kernel
theorem dX10_command_198 : decode cX10_command 198 = .ok (.aload_n 0, 1) := by decide +kernel
theorem dX10_command_199 : decode cX10_command 199 = .ok (.aload_n 0, 1) := by decide +kernel
theorem dX10_command_200 : decode cX10_command 200 = .ok (.getfield 53, 3) := by decide +kernel
theorem dX10_command_203 : decode cX10_command 203 = .ok (.iconst 0, 1) := by decide +kernel
theorem dX10_command_204 : decode cX10_command 204 = .ok (.iaload, 1) := by decide +kernel
theorem dX10_command_205 : decode cX10_command 205 = .ok (.invokevirtual 278, 3) := by decide +kernel
theorem dX10_command_208 : decode cX10_command 208 = .ok (.ireturn, 1) := by decide +kernel
theorem dX10_command_209 : decode cX10_command 209 = .ok (.aload_n 0, 1) := by decide +kernel
theorem dX10_command_210 : decode cX10_command 210 = .ok (.aload_n 0, 1) := by decide +kernel
theorem dX10_command_211 : decode cX10_command 211 = .ok (.getfield 53, 3) := by decide +kernel
theorem dX10_command_214 : decode cX10_command 214 = .ok (.iconst 0, 1) := by decide +kernel
theorem dX10_command_215 : decode cX10_command 215 = .ok (.iaload, 1) := by decide +kernel
theorem dX10_command_216 : decode cX10_command 216 = .ok (.invokevirtual 281, 3) := by decide +kernel
theorem dX10_command_219 : decode cX10_command 219 = .ok (.ireturn, 1) := by decide +kernel
theorem dX10_command_220 : decode cX10_command 220 = .ok (.aload_n 0, 1) := by decide +kernel
theorem dX10_command_221 : decode cX10_command 221 = .ok (.aload_n 0, 1) := by decide +kernel
theorem dX10_command_222 : decode cX10_command 222 = .ok (.getfield 53, 3) := by decide +kernel
theorem dX10_command_225 : decode cX10_command 225 = .ok (.iconst 0, 1) := by decide +kernel
theorem dX10_command_226 : decode cX10_command 226 = .ok (.iaload, 1) := by decide +kernel
theorem dX10_command_227 : decode cX10_command 227 = .ok (.invokevirtual 284, 3) := by decide +kernel
theorem dX10_command_230 : decode cX10_command 230 = .ok (.ireturn, 1) := by decide +kernel
theorem dX10_command_231 : decode cX10_command 231 = .ok (.aload_n 0, 1) := by decide +kernel
theorem dX10_command_232 : decode cX10_command 232 = .ok (.invokevirtual 287, 3) := by decide +kernel
theorem dX10_command_235 : decode cX10_command 235 = .ok (.ireturn, 1) := by decide +kernel
theorem dX10_commands_0 : decode cX10_commands 0 = .ok (.aload_n 0, 1) := by decide +kernel
theorem dX10_commands_1 : decode cX10_commands 1 = .ok (.iconst 0, 1) := by decide +kernel
theorem dX10_commands_2 : decode cX10_commands 2 = .ok (.putfield 252, 3) := by decide +kernel
theorem dX10_commands_5 : decode cX10_commands 5 = .ok (.aload_n 0, 1) := by decide +kernel
theorem dX10_commands_6 : decode cX10_commands 6 = .ok (.iconst 1, 1) := by decide +kernel
theorem dX10_commands_7 : decode cX10_commands 7 = .ok (.putfield 255, 3) := by decide +kernel
theorem dX10_commands_10 : decode cX10_commands 10 = .ok (.iconst 0, 1) := by decide +kernel
theorem dX10_commands_11 : decode cX10_commands 11 = .ok (.istore_n 2, 1) := by decide +kernel
theorem dX10_commands_12 : decode cX10_commands 12 = .ok (.iconst 1, 1) := by decide +kernel
theorem dX10_commands_13 : decode cX10_commands 13 = .ok (.istore_n 3, 1) := by decide +kernel
theorem dX10_commands_14 : decode cX10_commands 14 = .ok (.iload_n 3, 1) := by decide +kernel
theorem dX10_commands_15 : decode cX10_commands 15 = .ok (.ifCond .eq 151, 3) := by decide +kernel
theorem dX10_commands_18 : decode cX10_commands 18 = .ok (.aload_n 0, 1) := by decide +kernel
theorem dX10_commands_19 : decode cX10_commands 19 = .ok (.iload_n 1, 1) := by decide +kernel
theorem dX10_commands_20 : decode cX10_commands 20 = .ok (.invokevirtual 290, 3) := by decide +kernel
theorem dX10_commands_23 : decode cX10_commands 23 = .ok (.istore 4, 2) := by decide +kernel
theorem dX10_commands_25 : decode cX10_commands 25 = .ok (.aload_n 0, 1) := by decide +kernel
theorem dX10_commands_26 : decode cX10_commands 26 = .ok (.getfield 255, 3) := by decide +kernel
theorem dX10_commands_29 : decode cX10_commands 29 = .ok (.ifCond .eq 15, 3) := by decide +kernel
theorem dX10_commands_32 : decode cX10_commands 32 = .ok (.iload 4, 2) := by decide +kernel
theorem dX10_commands_34 : decode cX10_commands 34 = .ok (.sipush (-1000), 3) := by decide +kernel
theorem dX10_commands_37 : decode cX10_commands 37 = .ok (.if_icmp .lt 7, 3) := by decide +kernel
theorem dX10_commands_40 : decode cX10_commands 40 = .ok (.iconst 1, 1) := by decide +kernel
theorem dX10_commands_41 : decode cX10_commands 41 = .ok (.goto 4, 3) := by decide +kernel
theorem dX10_commands_44 : decode cX10_commands 44 = .ok (.iconst 0, 1) := by decide +kernel
theorem dX10_commands_45 : decode cX10_commands 45 = .ok (.istore 5, 2) := by decide +kernel
theorem dX10_commands_47 : decode cX10_commands 47 = .ok (.iload_n 2, 1) := by decide +kernel
theorem dX10_commands_48 : decode cX10_commands 48 = .ok (.iload 5, 2) := by decide +kernel
theorem dX10_commands_50 : decode cX10_commands 50 = .ok (.ifCond .eq 7, 3) := by decide +kernel
theorem dX10_commands_53 : decode cX10_commands 53 = .ok (.iconst 1, 1) := by decide +kernel
theorem dX10_commands_54 : decode cX10_commands 54 = .ok (.goto 4, 3) := by decide +kernel
theorem dX10_commands_57 : decode cX10_commands 57 = .ok (.iconst 0, 1) := by decide +kernel
theorem dX10_commands_58 : decode cX10_commands 58 = .ok (.iadd, 1) := by decide +kernel
theorem dX10_commands_59 : decode cX10_commands 59 = .ok (.istore_n 2, 1) := by decide +kernel
theorem dX10_commands_60 : decode cX10_commands 60 = .ok (.aload_n 0, 1) := by decide +kernel
theorem dX10_commands_61 : decode cX10_commands 61 = .ok (.getfield 255, 3) := by decide +kernel
theorem dX10_commands_64 : decode cX10_commands 64 = .ok (.ifCond .eq 10, 3) := by decide +kernel
theorem dX10_commands_67 : decode cX10_commands 67 = .ok (.aload_n 0, 1) := by decide +kernel
theorem dX10_commands_68 : decode cX10_commands 68 = .ok (.invokevirtual 258, 3) := by decide +kernel
theorem dX10_commands_71 : decode cX10_commands 71 = .ok (.goto 6, 3) := by decide +kernel
theorem dX10_commands_74 : decode cX10_commands 74 = .ok (.sipush (-1000), 3) := by decide +kernel
theorem dX10_commands_77 : decode cX10_commands 77 = .ok (.istore 6, 2) := by decide +kernel
theorem dX10_commands_79 : decode cX10_commands 79 = .ok (.aload_n 0, 1) := by decide +kernel
theorem dX10_commands_80 : decode cX10_commands 80 = .ok (.aload_n 0, 1) := by decide +kernel
theorem dX10_commands_81 : decode cX10_commands 81 = .ok (.getfield 255, 3) := by decide +kernel
theorem dX10_commands_84 : decode cX10_commands 84 = .ok (.ifCond .eq 22, 3) := by decide +kernel
theorem dX10_commands_87 : decode cX10_commands 87 = .ok (.iload 6, 2) := by decide +kernel
theorem dX10_commands_89 : decode cX10_commands 89 = .ok (.bipush 59, 2) := by decide +kernel
theorem dX10_commands_91 : decode cX10_commands 91 = .ok (.if_icmp .eq 11, 3) := by decide +kernel
theorem dX10_commands_94 : decode cX10_commands 94 = .ok (.iload 6, 2) := by decide +kernel
theorem dX10_commands_96 : decode cX10_commands 96 = .ok (.sipush (-1000), 3) := by decide +kernel
theorem dX10_commands_99 : decode cX10_commands 99 = .ok (.if_icmp .ne 7, 3) := by decide +kernel
theorem dX10_commands_102 : decode cX10_commands 102 = .ok (.iconst 1, 1) := by decide +kernel
theorem dX10_commands_103 : decode cX10_commands 103 = .ok (.goto 4, 3) := by decide +kernel
theorem dX10_commands_106 : decode cX10_commands 106 = .ok (.iconst 0, 1) := by decide +kernel
theorem dX10_commands_107 : decode cX10_commands 107 = .ok (.putfield 255, 3) := by decide +kernel
theorem dX10_commands_110 : decode cX10_commands 110 = .ok (.aload_n 0, 1) := by decide +kernel
theorem dX10_commands_111 : decode cX10_commands 111 = .ok (.dup, 1) := by decide +kernel
theorem dX10_commands_112 : decode cX10_commands 112 = .ok (.getfield 252, 3) := by decide +kernel
theorem dX10_commands_115 : decode cX10_commands 115 = .ok (.aload_n 0, 1) := by decide +kernel
theorem dX10_commands_116 : decode cX10_commands 116 = .ok (.getfield 255, 3) := by decide +kernel
theorem dX10_commands_119 : decode cX10_commands 119 = .ok (.ifCond .eq 14, 3) := by decide +kernel
theorem dX10_commands_122 : decode cX10_commands 122 = .ok (.iload 6, 2) := by decide +kernel
theorem dX10_commands_124 : decode cX10_commands 124 = .ok (.bipush 59, 2) := by decide +kernel
theorem dX10_commands_126 : decode cX10_commands 126 = .ok (.if_icmp .ne 7, 3) := by decide +kernel
theorem dX10_commands_129 : decode cX10_commands 129 = .ok (.iconst 1, 1) := by decide +kernel
theorem dX10_commands_130 : decode cX10_commands 130 = .ok (.goto 4, 3) := by decide +kernel
theorem dX10_commands_133 : decode cX10_commands 133 = .ok (.iconst 0, 1) := by decide +kernel
theorem dX10_commands_134 : decode cX10_commands 134 = .ok (.iadd, 1) := by decide +kernel
theorem dX10_commands_135 : decode cX10_commands 135 = .ok (.putfield 252, 3) := by decide +kernel
theorem dX10_commands_138 : decode cX10_commands 138 = .ok (.iload 5, 2) := by decide +kernel
theorem dX10_commands_140 : decode cX10_commands 140 = .ok (.ifCond .eq 21, 3) := by decide +kernel
theorem dX10_commands_143 : decode cX10_commands 143 = .ok (.aload_n 0, 1) := by decide +kernel
theorem dX10_commands_144 : decode cX10_commands 144 = .ok (.getfield 255, 3) := by decide +kernel
theorem dX10_commands_147 : decode cX10_commands 147 = .ok (.ifCond .eq 14, 3) := by decide +kernel
theorem dX10_commands_150 : decode cX10_commands 150 = .ok (.iload 6, 2) := by decide +kernel
theorem dX10_commands_152 : decode cX10_commands 152 = .ok (.bipush 59, 2) := by decide +kernel
theorem dX10_commands_154 : decode cX10_commands 154 = .ok (.if_icmp .ne 7, 3) := by decide +kernel
theorem dX10_commands_157 : decode cX10_commands 157 = .ok (.iconst 1, 1) := by decide +kernel
theorem dX10_commands_158 : decode cX10_commands 158 = .ok (.goto 4, 3) := by decide +kernel
theorem dX10_commands_161 : decode cX10_commands 161 = .ok (.iconst 0, 1) := by decide +kernel
theorem dX10_commands_162 : decode cX10_commands 162 = .ok (.istore_n 3, 1) := by decide +kernel
theorem dX10_commands_163 : decode cX10_commands 163 = .ok (.goto (-149), 3) := by decide +kernel
theorem dX10_commands_166 : decode cX10_commands 166 = .ok (.iload_n 2, 1) := by decide +kernel
theorem dX10_commands_167 : decode cX10_commands 167 = .ok (.ireturn, 1) := by decide +kernel
theorem dX10_textFault_0 : decode cX10_textFault 0 = .ok (.aload_n 0, 1) := by decide +kernel
theorem dX10_textFault_1 : decode cX10_textFault 1 = .ok (.iconst 0, 1) := by decide +kernel
theorem dX10_textFault_2 : decode cX10_textFault 2 = .ok (.invokevirtual 293, 3) := by decide +kernel
theorem dX10_textFault_5 : decode cX10_textFault 5 = .ok (.istore_n 1, 1) := by decide +kernel
theorem dX10_textFault_6 : decode cX10_textFault 6 = .ok (.aload_n 0, 1) := by decide +kernel
theorem dX10_textFault_7 : decode cX10_textFault 7 = .ok (.getfield 255, 3) := by decide +kernel
theorem dX10_textFault_10 : decode cX10_textFault 10 = .ok (.ifCond .eq 9, 3) := by decide +kernel
theorem dX10_textFault_13 : decode cX10_textFault 13 = .ok (.sipush (-1000), 3) := by decide +kernel
theorem dX10_textFault_16 : decode cX10_textFault 16 = .ok (.goto 7, 3) := by decide +kernel
theorem dX10_textFault_19 : decode cX10_textFault 19 = .ok (.aload_n 0, 1) := by decide +kernel
theorem dX10_textFault_20 : decode cX10_textFault 20 = .ok (.getfield 252, 3) := by decide +kernel
theorem dX10_textFault_23 : decode cX10_textFault 23 = .ok (.ireturn, 1) := by decide +kernel
theorem dX10_run_0 : decode cX10_run 0 = .ok (.aload_n 0, 1) := by decide +kernel
theorem dX10_run_1 : decode cX10_run 1 = .ok (.iconst 0, 1) := by decide +kernel
theorem dX10_run_2 : decode cX10_run 2 = .ok (.invokevirtual 293, 3) := by decide +kernel
theorem dX10_run_5 : decode cX10_run 5 = .ok (.istore_n 1, 1) := by decide +kernel
theorem dX10_run_6 : decode cX10_run 6 = .ok (.aload_n 0, 1) := by decide +kernel
theorem dX10_run_7 : decode cX10_run 7 = .ok (.getfield 255, 3) := by decide +kernel
theorem dX10_run_10 : decode cX10_run 10 = .ok (.ifCond .ne 7, 3) := by decide +kernel
theorem dX10_run_13 : decode cX10_run 13 = .ok (.sipush (-1003), 3) := by decide +kernel
theorem dX10_run_16 : decode cX10_run 16 = .ok (.ireturn, 1) := by decide +kernel
theorem dX10_run_17 : decode cX10_run 17 = .ok (.aload_n 0, 1) := by decide +kernel
theorem dX10_run_18 : decode cX10_run 18 = .ok (.invokevirtual 84, 3) := by decide +kernel
theorem dX10_run_21 : decode cX10_run 21 = .ok (.aload_n 0, 1) := by decide +kernel
theorem dX10_run_22 : decode cX10_run 22 = .ok (.iconst 1, 1) := by decide +kernel
theorem dX10_run_23 : decode cX10_run 23 = .ok (.putfield 56, 3) := by decide +kernel
theorem dX10_run_26 : decode cX10_run 26 = .ok (.aload_n 0, 1) := by decide +kernel
theorem dX10_run_27 : decode cX10_run 27 = .ok (.iconst 1, 1) := by decide +kernel
theorem dX10_run_28 : decode cX10_run 28 = .ok (.invokevirtual 293, 3) := by decide +kernel
theorem dX10_run_31 : decode cX10_run 31 = .ok (.istore_n 1, 1) := by decide +kernel
theorem dX10_run_32 : decode cX10_run 32 = .ok (.aload_n 0, 1) := by decide +kernel
theorem dX10_run_33 : decode cX10_run 33 = .ok (.iconst 0, 1) := by decide +kernel
theorem dX10_run_34 : decode cX10_run 34 = .ok (.putfield 56, 3) := by decide +kernel
theorem dX10_run_37 : decode cX10_run 37 = .ok (.iload_n 1, 1) := by decide +kernel
theorem dX10_run_38 : decode cX10_run 38 = .ok (.ireturn, 1) := by decide +kernel
theorem dX10_undo_0 : decode cX10_undo 0 = .ok (.aload_n 0, 1) := by decide +kernel
theorem dX10_undo_1 : decode cX10_undo 1 = .ok (.getfield 60, 3) := by decide +kernel
theorem dX10_undo_4 : decode cX10_undo 4 = .ok (.ifCond .ne 7, 3) := by decide +kernel
theorem dX10_undo_7 : decode cX10_undo 7 = .ok (.sipush (-1003), 3) := by decide +kernel
theorem dX10_undo_10 : decode cX10_undo 10 = .ok (.ireturn, 1) := by decide +kernel
theorem dX10_undo_11 : decode cX10_undo 11 = .ok (.aload_n 0, 1) := by decide +kernel
theorem dX10_undo_12 : decode cX10_undo 12 = .ok (.sipush 1725, 3) := by decide +kernel
theorem dX10_undo_15 : decode cX10_undo 15 = .ok (.aload_n 0, 1) := by decide +kernel
theorem dX10_undo_16 : decode cX10_undo 16 = .ok (.getfield 60, 3) := by decide +kernel
theorem dX10_undo_19 : decode cX10_undo 19 = .ok (.imul, 1) := by decide +kernel
theorem dX10_undo_20 : decode cX10_undo 20 = .ok (.iconst 0, 1) := by decide +kernel
theorem dX10_undo_21 : decode cX10_undo 21 = .ok (.invokevirtual 64, 3) := by decide +kernel
theorem dX10_undo_24 : decode cX10_undo 24 = .ok (.aload_n 0, 1) := by decide +kernel
theorem dX10_undo_25 : decode cX10_undo 25 = .ok (.dup, 1) := by decide +kernel
theorem dX10_undo_26 : decode cX10_undo 26 = .ok (.getfield 60, 3) := by decide +kernel
theorem dX10_undo_29 : decode cX10_undo 29 = .ok (.iconst 1, 1) := by decide +kernel
theorem dX10_undo_30 : decode cX10_undo 30 = .ok (.isub, 1) := by decide +kernel
theorem dX10_undo_31 : decode cX10_undo 31 = .ok (.putfield 60, 3) := by decide +kernel
theorem dX10_undo_34 : decode cX10_undo 34 = .ok (.aload_n 0, 1) := by decide +kernel
theorem dX10_undo_35 : decode cX10_undo 35 = .ok (.getfield 60, 3) := by decide +kernel
theorem dX10_undo_38 : decode cX10_undo 38 = .ok (.ireturn, 1) := by decide +kernel
theorem dX10_note_0 : decode cX10_note 0 = .ok (.aload_n 0, 1) := by decide +kernel
theorem dX10_note_1 : decode cX10_note 1 = .ok (.ldc2_w 296, 3) := by decide +kernel
theorem dX10_note_4 : decode cX10_note 4 = .ok (.aload_n 0, 1) := by decide +kernel
theorem dX10_note_5 : decode cX10_note 5 = .ok (.getfield 298, 3) := by decide +kernel
theorem dX10_note_8 : decode cX10_note 8 = .ok (.lmul, 1) := by decide +kernel
theorem dX10_note_9 : decode cX10_note 9 = .ok (.lload_n 1, 1) := by decide +kernel
theorem dX10_note_10 : decode cX10_note 10 = .ok (.ladd, 1) := by decide +kernel
theorem dX10_note_11 : decode cX10_note 11 = .ok (.putfield 298, 3) := by decide +kernel
theorem dX10_note_14 : decode cX10_note 14 = .ok (.return_, 1) := by decide +kernel
theorem dX10_digest_0 : decode cX10_digest 0 = .ok (.aload_n 0, 1) := by decide +kernel
theorem dX10_digest_1 : decode cX10_digest 1 = .ok (.ldc2_w 302, 3) := by decide +kernel
theorem dX10_digest_4 : decode cX10_digest 4 = .ok (.putfield 298, 3) := by decide +kernel
theorem dX10_digest_7 : decode cX10_digest 7 = .ok (.aload_n 0, 1) := by decide +kernel
theorem dX10_digest_8 : decode cX10_digest 8 = .ok (.aload_n 0, 1) := by decide +kernel
theorem dX10_digest_9 : decode cX10_digest 9 = .ok (.getfield 7, 3) := by decide +kernel
theorem dX10_digest_12 : decode cX10_digest 12 = .ok (.iconst 0, 1) := by decide +kernel
theorem dX10_digest_13 : decode cX10_digest 13 = .ok (.iaload, 1) := by decide +kernel
theorem dX10_digest_14 : decode cX10_digest 14 = .ok (.i2l, 1) := by decide +kernel
theorem dX10_digest_15 : decode cX10_digest 15 = .ok (.invokevirtual 304, 3) := by decide +kernel
theorem dX10_digest_18 : decode cX10_digest 18 = .ok (.iconst 0, 1) := by decide +kernel
theorem dX10_digest_19 : decode cX10_digest 19 = .ok (.istore_n 1, 1) := by decide +kernel
theorem dX10_digest_20 : decode cX10_digest 20 = .ok (.iload_n 1, 1) := by decide +kernel
theorem dX10_digest_21 : decode cX10_digest 21 = .ok (.iconst 4, 1) := by decide +kernel
theorem dX10_digest_22 : decode cX10_digest 22 = .ok (.aload_n 0, 1) := by decide +kernel
theorem dX10_digest_23 : decode cX10_digest 23 = .ok (.getfield 7, 3) := by decide +kernel
theorem dX10_digest_26 : decode cX10_digest 26 = .ok (.iconst 0, 1) := by decide +kernel
theorem dX10_digest_27 : decode cX10_digest 27 = .ok (.iaload, 1) := by decide +kernel
theorem dX10_digest_28 : decode cX10_digest 28 = .ok (.imul, 1) := by decide +kernel
theorem dX10_digest_29 : decode cX10_digest 29 = .ok (.if_icmp .ge 22, 3) := by decide +kernel
theorem dX10_digest_32 : decode cX10_digest 32 = .ok (.aload_n 0, 1) := by decide +kernel
theorem dX10_digest_33 : decode cX10_digest 33 = .ok (.aload_n 0, 1) := by decide +kernel
theorem dX10_digest_34 : decode cX10_digest 34 = .ok (.getfield 7, 3) := by decide +kernel
theorem dX10_digest_37 : decode cX10_digest 37 = .ok (.iconst 3, 1) := by decide +kernel
theorem dX10_digest_38 : decode cX10_digest 38 = .ok (.iload_n 1, 1) := by decide +kernel
theorem dX10_digest_39 : decode cX10_digest 39 = .ok (.iadd, 1) := by decide +kernel
theorem dX10_digest_40 : decode cX10_digest 40 = .ok (.iaload, 1) := by decide +kernel
theorem dX10_digest_41 : decode cX10_digest 41 = .ok (.i2l, 1) := by decide +kernel
theorem dX10_digest_42 : decode cX10_digest 42 = .ok (.invokevirtual 304, 3) := by decide +kernel
theorem dX10_digest_45 : decode cX10_digest 45 = .ok (.iinc 1 1, 3) := by decide +kernel
theorem dX10_digest_48 : decode cX10_digest 48 = .ok (.goto (-28), 3) := by decide +kernel
theorem dX10_digest_51 : decode cX10_digest 51 = .ok (.aload_n 0, 1) := by decide +kernel
theorem dX10_digest_52 : decode cX10_digest 52 = .ok (.aload_n 0, 1) := by decide +kernel
theorem dX10_digest_53 : decode cX10_digest 53 = .ok (.getfield 7, 3) := by decide +kernel
theorem dX10_digest_56 : decode cX10_digest 56 = .ok (.iconst 2, 1) := by decide +kernel
theorem dX10_digest_57 : decode cX10_digest 57 = .ok (.iaload, 1) := by decide +kernel
theorem dX10_digest_58 : decode cX10_digest 58 = .ok (.i2l, 1) := by decide +kernel
theorem dX10_digest_59 : decode cX10_digest 59 = .ok (.invokevirtual 304, 3) := by decide +kernel
theorem dX10_digest_62 : decode cX10_digest 62 = .ok (.aload_n 0, 1) := by decide +kernel
theorem dX10_digest_63 : decode cX10_digest 63 = .ok (.aload_n 0, 1) := by decide +kernel
theorem dX10_digest_64 : decode cX10_digest 64 = .ok (.getfield 7, 3) := by decide +kernel
theorem dX10_digest_67 : decode cX10_digest 67 = .ok (.iconst 1, 1) := by decide +kernel
theorem dX10_digest_68 : decode cX10_digest 68 = .ok (.iaload, 1) := by decide +kernel
theorem dX10_digest_69 : decode cX10_digest 69 = .ok (.i2l, 1) := by decide +kernel
theorem dX10_digest_70 : decode cX10_digest 70 = .ok (.invokevirtual 304, 3) := by decide +kernel
theorem dX10_digest_73 : decode cX10_digest 73 = .ok (.iconst 0, 1) := by decide +kernel
theorem dX10_digest_74 : decode cX10_digest 74 = .ok (.istore_n 1, 1) := by decide +kernel
theorem dX10_digest_75 : decode cX10_digest 75 = .ok (.iload_n 1, 1) := by decide +kernel
theorem dX10_digest_76 : decode cX10_digest 76 = .ok (.aload_n 0, 1) := by decide +kernel
theorem dX10_digest_77 : decode cX10_digest 77 = .ok (.getfield 7, 3) := by decide +kernel
theorem dX10_digest_80 : decode cX10_digest 80 = .ok (.iconst 1, 1) := by decide +kernel
theorem dX10_digest_81 : decode cX10_digest 81 = .ok (.iaload, 1) := by decide +kernel
theorem dX10_digest_82 : decode cX10_digest 82 = .ok (.if_icmp .ge 78, 3) := by decide +kernel
theorem dX10_digest_85 : decode cX10_digest 85 = .ok (.iconst 0, 1) := by decide +kernel
theorem dX10_digest_86 : decode cX10_digest 86 = .ok (.istore_n 2, 1) := by decide +kernel
theorem dX10_digest_87 : decode cX10_digest 87 = .ok (.iload_n 2, 1) := by decide +kernel
theorem dX10_digest_88 : decode cX10_digest 88 = .ok (.bipush 7, 2) := by decide +kernel
theorem dX10_digest_90 : decode cX10_digest 90 = .ok (.if_icmp .ge 20, 3) := by decide +kernel
theorem dX10_digest_93 : decode cX10_digest 93 = .ok (.aload_n 0, 1) := by decide +kernel
theorem dX10_digest_94 : decode cX10_digest 94 = .ok (.aload_n 0, 1) := by decide +kernel
theorem dX10_digest_95 : decode cX10_digest 95 = .ok (.iload_n 1, 1) := by decide +kernel
theorem dX10_digest_96 : decode cX10_digest 96 = .ok (.iload_n 2, 1) := by decide +kernel
theorem dX10_digest_97 : decode cX10_digest 97 = .ok (.invokevirtual 95, 3) := by decide +kernel
theorem dX10_digest_100 : decode cX10_digest 100 = .ok (.i2l, 1) := by decide +kernel
theorem dX10_digest_101 : decode cX10_digest 101 = .ok (.invokevirtual 304, 3) := by decide +kernel
theorem dX10_digest_104 : decode cX10_digest 104 = .ok (.iinc 2 1, 3) := by decide +kernel
theorem dX10_digest_107 : decode cX10_digest 107 = .ok (.goto (-20), 3) := by decide +kernel
theorem dX10_digest_110 : decode cX10_digest 110 = .ok (.bipush 7, 2) := by decide +kernel
theorem dX10_digest_112 : decode cX10_digest 112 = .ok (.istore_n 2, 1) := by decide +kernel
theorem dX10_digest_113 : decode cX10_digest 113 = .ok (.iload_n 2, 1) := by decide +kernel
theorem dX10_digest_114 : decode cX10_digest 114 = .ok (.bipush 9, 2) := by decide +kernel
theorem dX10_digest_116 : decode cX10_digest 116 = .ok (.iconst 2, 1) := by decide +kernel
theorem dX10_digest_117 : decode cX10_digest 117 = .ok (.aload_n 0, 1) := by decide +kernel
theorem dX10_digest_118 : decode cX10_digest 118 = .ok (.iload_n 1, 1) := by decide +kernel
theorem dX10_digest_119 : decode cX10_digest 119 = .ok (.bipush 8, 2) := by decide +kernel
theorem dX10_digest_121 : decode cX10_digest 121 = .ok (.invokevirtual 95, 3) := by decide +kernel
theorem dX10_digest_124 : decode cX10_digest 124 = .ok (.imul, 1) := by decide +kernel
theorem dX10_digest_125 : decode cX10_digest 125 = .ok (.iadd, 1) := by decide +kernel
theorem dX10_digest_126 : decode cX10_digest 126 = .ok (.if_icmp .ge 28, 3) := by decide +kernel
theorem dX10_digest_129 : decode cX10_digest 129 = .ok (.aload_n 0, 1) := by decide +kernel
theorem dX10_digest_130 : decode cX10_digest 130 = .ok (.iload_n 1, 1) := by decide +kernel
theorem dX10_digest_131 : decode cX10_digest 131 = .ok (.invokevirtual 114, 3) := by decide +kernel
theorem dX10_digest_134 : decode cX10_digest 134 = .ok (.ifCond .eq 20, 3) := by decide +kernel
theorem dX10_digest_137 : decode cX10_digest 137 = .ok (.aload_n 0, 1) := by decide +kernel
theorem dX10_digest_138 : decode cX10_digest 138 = .ok (.aload_n 0, 1) := by decide +kernel
theorem dX10_digest_139 : decode cX10_digest 139 = .ok (.iload_n 1, 1) := by decide +kernel
theorem dX10_digest_140 : decode cX10_digest 140 = .ok (.iload_n 2, 1) := by decide +kernel
theorem dX10_digest_141 : decode cX10_digest 141 = .ok (.invokevirtual 95, 3) := by decide +kernel
theorem dX10_digest_144 : decode cX10_digest 144 = .ok (.i2l, 1) := by decide +kernel
theorem dX10_digest_145 : decode cX10_digest 145 = .ok (.invokevirtual 304, 3) := by decide +kernel
theorem dX10_digest_148 : decode cX10_digest 148 = .ok (.iinc 2 1, 3) := by decide +kernel
theorem dX10_digest_151 : decode cX10_digest 151 = .ok (.goto (-38), 3) := by decide +kernel
theorem dX10_digest_154 : decode cX10_digest 154 = .ok (.iinc 1 1, 3) := by decide +kernel
theorem dX10_digest_157 : decode cX10_digest 157 = .ok (.goto (-82), 3) := by decide +kernel
theorem dX10_digest_160 : decode cX10_digest 160 = .ok (.aload_n 0, 1) := by decide +kernel
theorem dX10_digest_161 : decode cX10_digest 161 = .ok (.getfield 298, 3) := by decide +kernel
theorem dX10_digest_164 : decode cX10_digest 164 = .ok (.lreturn, 1) := by decide +kernel
