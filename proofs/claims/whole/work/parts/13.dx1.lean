theorem dX9_init_0 : decode cX9_init 0 = .ok (.aload_n 0, 1) := by decide +kernel
theorem dX9_init_1 : decode cX9_init 1 = .ok (.invokespecial 1, 3) := by decide +kernel
theorem dX9_init_4 : decode cX9_init 4 = .ok (.aload_n 0, 1) := by decide +kernel
theorem dX9_init_5 : decode cX9_init 5 = .ok (.new 7, 3) := by decide +kernel
theorem dX9_init_8 : decode cX9_init 8 = .ok (.dup, 1) := by decide +kernel
theorem dX9_init_9 : decode cX9_init 9 = .ok (.invokespecial 9, 3) := by decide +kernel
theorem dX9_init_12 : decode cX9_init 12 = .ok (.putfield 10, 3) := by decide +kernel
theorem dX9_init_15 : decode cX9_init 15 = .ok (.aload_n 0, 1) := by decide +kernel
theorem dX9_init_16 : decode cX9_init 16 = .ok (.new 16, 3) := by decide +kernel
theorem dX9_init_19 : decode cX9_init 19 = .ok (.dup, 1) := by decide +kernel
theorem dX9_init_20 : decode cX9_init 20 = .ok (.invokespecial 18, 3) := by decide +kernel
theorem dX9_init_23 : decode cX9_init 23 = .ok (.putfield 19, 3) := by decide +kernel
theorem dX9_init_26 : decode cX9_init 26 = .ok (.aload_n 0, 1) := by decide +kernel
theorem dX9_init_27 : decode cX9_init 27 = .ok (.new 23, 3) := by decide +kernel
theorem dX9_init_30 : decode cX9_init 30 = .ok (.dup, 1) := by decide +kernel
theorem dX9_init_31 : decode cX9_init 31 = .ok (.invokespecial 25, 3) := by decide +kernel
theorem dX9_init_34 : decode cX9_init 34 = .ok (.putfield 26, 3) := by decide +kernel
theorem dX9_init_37 : decode cX9_init 37 = .ok (.aload_n 0, 1) := by decide +kernel
theorem dX9_init_38 : decode cX9_init 38 = .ok (.new 30, 3) := by decide +kernel
theorem dX9_init_41 : decode cX9_init 41 = .ok (.dup, 1) := by decide +kernel
theorem dX9_init_42 : decode cX9_init 42 = .ok (.invokespecial 32, 3) := by decide +kernel
theorem dX9_init_45 : decode cX9_init 45 = .ok (.putfield 33, 3) := by decide +kernel
theorem dX9_init_48 : decode cX9_init 48 = .ok (.aload_n 0, 1) := by decide +kernel
theorem dX9_init_49 : decode cX9_init 49 = .ok (.new 37, 3) := by decide +kernel
theorem dX9_init_52 : decode cX9_init 52 = .ok (.dup, 1) := by decide +kernel
theorem dX9_init_53 : decode cX9_init 53 = .ok (.invokespecial 39, 3) := by decide +kernel
theorem dX9_init_56 : decode cX9_init 56 = .ok (.putfield 40, 3) := by decide +kernel
theorem dX9_init_59 : decode cX9_init 59 = .ok (.aload_n 0, 1) := by decide +kernel
theorem dX9_init_60 : decode cX9_init 60 = .ok (.new 44, 3) := by decide +kernel
theorem dX9_init_63 : decode cX9_init 63 = .ok (.dup, 1) := by decide +kernel
theorem dX9_init_64 : decode cX9_init 64 = .ok (.invokespecial 46, 3) := by decide +kernel
theorem dX9_init_67 : decode cX9_init 67 = .ok (.putfield 47, 3) := by decide +kernel
theorem dX9_init_70 : decode cX9_init 70 = .ok (.return_, 1) := by decide +kernel
theorem dX9_addBox_0 : decode cX9_addBox 0 = .ok (.iload_n 1, 1) := by decide +kernel
theorem dX9_addBox_1 : decode cX9_addBox 1 = .ok (.iload_n 2, 1) := by decide +kernel
theorem dX9_addBox_2 : decode cX9_addBox 2 = .ok (.iload_n 3, 1) := by decide +kernel
theorem dX9_addBox_3 : decode cX9_addBox 3 = .ok (.iload 4, 2) := by decide +kernel
theorem dX9_addBox_5 : decode cX9_addBox 5 = .ok (.invokestatic 51, 3) := by decide +kernel
theorem dX9_addBox_8 : decode cX9_addBox 8 = .ok (.ifCond .ne 7, 3) := by decide +kernel
theorem dX9_addBox_11 : decode cX9_addBox 11 = .ok (.sipush (-1002), 3) := by decide +kernel
theorem dX9_addBox_14 : decode cX9_addBox 14 = .ok (.ireturn, 1) := by decide +kernel
theorem dX9_addBox_15 : decode cX9_addBox 15 = .ok (.aload_n 0, 1) := by decide +kernel
theorem dX9_addBox_16 : decode cX9_addBox 16 = .ok (.getfield 10, 3) := by decide +kernel
theorem dX9_addBox_19 : decode cX9_addBox 19 = .ok (.iconst (-1), 1) := by decide +kernel
theorem dX9_addBox_20 : decode cX9_addBox 20 = .ok (.iload_n 1, 1) := by decide +kernel
theorem dX9_addBox_21 : decode cX9_addBox 21 = .ok (.iload_n 2, 1) := by decide +kernel
theorem dX9_addBox_22 : decode cX9_addBox 22 = .ok (.iload_n 3, 1) := by decide +kernel
theorem dX9_addBox_23 : decode cX9_addBox 23 = .ok (.iload 4, 2) := by decide +kernel
theorem dX9_addBox_25 : decode cX9_addBox 25 = .ok (.invokevirtual 55, 3) := by decide +kernel
theorem dX9_addBox_28 : decode cX9_addBox 28 = .ok (.ifCond .eq 7, 3) := by decide +kernel
theorem dX9_addBox_31 : decode cX9_addBox 31 = .ok (.sipush (-1003), 3) := by decide +kernel
theorem dX9_addBox_34 : decode cX9_addBox 34 = .ok (.ireturn, 1) := by decide +kernel
theorem dX9_addBox_35 : decode cX9_addBox 35 = .ok (.aload_n 0, 1) := by decide +kernel
theorem dX9_addBox_36 : decode cX9_addBox 36 = .ok (.getfield 10, 3) := by decide +kernel
theorem dX9_addBox_39 : decode cX9_addBox 39 = .ok (.getfield 59, 3) := by decide +kernel
theorem dX9_addBox_42 : decode cX9_addBox 42 = .ok (.bipush 8, 2) := by decide +kernel
theorem dX9_addBox_44 : decode cX9_addBox 44 = .ok (.if_icmp .lt 7, 3) := by decide +kernel
theorem dX9_addBox_47 : decode cX9_addBox 47 = .ok (.sipush (-1004), 3) := by decide +kernel
theorem dX9_addBox_50 : decode cX9_addBox 50 = .ok (.ireturn, 1) := by decide +kernel
theorem dX9_addBox_51 : decode cX9_addBox 51 = .ok (.aload_n 0, 1) := by decide +kernel
theorem dX9_addBox_52 : decode cX9_addBox 52 = .ok (.invokevirtual 63, 3) := by decide +kernel
theorem dX9_addBox_55 : decode cX9_addBox 55 = .ok (.aload_n 0, 1) := by decide +kernel
theorem dX9_addBox_56 : decode cX9_addBox 56 = .ok (.getfield 10, 3) := by decide +kernel
theorem dX9_addBox_59 : decode cX9_addBox 59 = .ok (.getfield 59, 3) := by decide +kernel
theorem dX9_addBox_62 : decode cX9_addBox 62 = .ok (.istore 5, 2) := by decide +kernel
theorem dX9_addBox_64 : decode cX9_addBox 64 = .ok (.aload_n 0, 1) := by decide +kernel
theorem dX9_addBox_65 : decode cX9_addBox 65 = .ok (.getfield 10, 3) := by decide +kernel
theorem dX9_addBox_68 : decode cX9_addBox 68 = .ok (.dup, 1) := by decide +kernel
theorem dX9_addBox_69 : decode cX9_addBox 69 = .ok (.getfield 59, 3) := by decide +kernel
theorem dX9_addBox_72 : decode cX9_addBox 72 = .ok (.iconst 1, 1) := by decide +kernel
theorem dX9_addBox_73 : decode cX9_addBox 73 = .ok (.iadd, 1) := by decide +kernel
theorem dX9_addBox_74 : decode cX9_addBox 74 = .ok (.putfield 59, 3) := by decide +kernel
theorem dX9_addBox_77 : decode cX9_addBox 77 = .ok (.aload_n 0, 1) := by decide +kernel
theorem dX9_addBox_78 : decode cX9_addBox 78 = .ok (.getfield 10, 3) := by decide +kernel
theorem dX9_addBox_81 : decode cX9_addBox 81 = .ok (.iload 5, 2) := by decide +kernel
theorem dX9_addBox_83 : decode cX9_addBox 83 = .ok (.iload_n 1, 1) := by decide +kernel
theorem dX9_addBox_84 : decode cX9_addBox 84 = .ok (.iload_n 2, 1) := by decide +kernel
theorem dX9_addBox_85 : decode cX9_addBox 85 = .ok (.iload_n 3, 1) := by decide +kernel
theorem dX9_addBox_86 : decode cX9_addBox 86 = .ok (.iload 4, 2) := by decide +kernel
theorem dX9_addBox_88 : decode cX9_addBox 88 = .ok (.invokevirtual 66, 3) := by decide +kernel
theorem dX9_addBox_91 : decode cX9_addBox 91 = .ok (.iload 5, 2) := by decide +kernel
theorem dX9_addBox_93 : decode cX9_addBox 93 = .ok (.ireturn, 1) := by decide +kernel
theorem dX9_moveBox_0 : decode cX9_moveBox 0 = .ok (.aload_n 0, 1) := by decide +kernel
theorem dX9_moveBox_1 : decode cX9_moveBox 1 = .ok (.getfield 10, 3) := by decide +kernel
theorem dX9_moveBox_4 : decode cX9_moveBox 4 = .ok (.iload_n 1, 1) := by decide +kernel
theorem dX9_moveBox_5 : decode cX9_moveBox 5 = .ok (.invokevirtual 70, 3) := by decide +kernel
theorem dX9_moveBox_8 : decode cX9_moveBox 8 = .ok (.ifCond .ne 7, 3) := by decide +kernel
theorem dX9_moveBox_11 : decode cX9_moveBox 11 = .ok (.sipush (-1001), 3) := by decide +kernel
theorem dX9_moveBox_14 : decode cX9_moveBox 14 = .ok (.ireturn, 1) := by decide +kernel
theorem dX9_moveBox_15 : decode cX9_moveBox 15 = .ok (.iload_n 2, 1) := by decide +kernel
theorem dX9_moveBox_16 : decode cX9_moveBox 16 = .ok (.bipush (-99), 2) := by decide +kernel
theorem dX9_moveBox_18 : decode cX9_moveBox 18 = .ok (.bipush 99, 2) := by decide +kernel
theorem dX9_moveBox_20 : decode cX9_moveBox 20 = .ok (.invokestatic 74, 3) := by decide +kernel
theorem dX9_moveBox_23 : decode cX9_moveBox 23 = .ok (.ifCond .eq 14, 3) := by decide +kernel
theorem dX9_moveBox_26 : decode cX9_moveBox 26 = .ok (.iload_n 3, 1) := by decide +kernel
theorem dX9_moveBox_27 : decode cX9_moveBox 27 = .ok (.bipush (-99), 2) := by decide +kernel
theorem dX9_moveBox_29 : decode cX9_moveBox 29 = .ok (.bipush 99, 2) := by decide +kernel
theorem dX9_moveBox_31 : decode cX9_moveBox 31 = .ok (.invokestatic 74, 3) := by decide +kernel
theorem dX9_moveBox_34 : decode cX9_moveBox 34 = .ok (.ifCond .ne 7, 3) := by decide +kernel
theorem dX9_moveBox_37 : decode cX9_moveBox 37 = .ok (.sipush (-1002), 3) := by decide +kernel
theorem dX9_moveBox_40 : decode cX9_moveBox 40 = .ok (.ireturn, 1) := by decide +kernel
theorem dX9_moveBox_41 : decode cX9_moveBox 41 = .ok (.aload_n 0, 1) := by decide +kernel
theorem dX9_moveBox_42 : decode cX9_moveBox 42 = .ok (.getfield 10, 3) := by decide +kernel
theorem dX9_moveBox_45 : decode cX9_moveBox 45 = .ok (.iload_n 1, 1) := by decide +kernel
theorem dX9_moveBox_46 : decode cX9_moveBox 46 = .ok (.iconst 0, 1) := by decide +kernel
theorem dX9_moveBox_47 : decode cX9_moveBox 47 = .ok (.invokevirtual 78, 3) := by decide +kernel
theorem dX9_moveBox_50 : decode cX9_moveBox 50 = .ok (.iload_n 2, 1) := by decide +kernel
theorem dX9_moveBox_51 : decode cX9_moveBox 51 = .ok (.iadd, 1) := by decide +kernel
theorem dX9_moveBox_52 : decode cX9_moveBox 52 = .ok (.istore 4, 2) := by decide +kernel
theorem dX9_moveBox_54 : decode cX9_moveBox 54 = .ok (.aload_n 0, 1) := by decide +kernel
theorem dX9_moveBox_55 : decode cX9_moveBox 55 = .ok (.getfield 10, 3) := by decide +kernel
theorem dX9_moveBox_58 : decode cX9_moveBox 58 = .ok (.iload_n 1, 1) := by decide +kernel
theorem dX9_moveBox_59 : decode cX9_moveBox 59 = .ok (.iconst 1, 1) := by decide +kernel
theorem dX9_moveBox_60 : decode cX9_moveBox 60 = .ok (.invokevirtual 78, 3) := by decide +kernel
theorem dX9_moveBox_63 : decode cX9_moveBox 63 = .ok (.iload_n 3, 1) := by decide +kernel
theorem dX9_moveBox_64 : decode cX9_moveBox 64 = .ok (.iadd, 1) := by decide +kernel
theorem dX9_moveBox_65 : decode cX9_moveBox 65 = .ok (.istore 5, 2) := by decide +kernel
theorem dX9_moveBox_67 : decode cX9_moveBox 67 = .ok (.aload_n 0, 1) := by decide +kernel
theorem dX9_moveBox_68 : decode cX9_moveBox 68 = .ok (.getfield 10, 3) := by decide +kernel
theorem dX9_moveBox_71 : decode cX9_moveBox 71 = .ok (.iload_n 1, 1) := by decide +kernel
theorem dX9_moveBox_72 : decode cX9_moveBox 72 = .ok (.iconst 2, 1) := by decide +kernel
theorem dX9_moveBox_73 : decode cX9_moveBox 73 = .ok (.invokevirtual 78, 3) := by decide +kernel
theorem dX9_moveBox_76 : decode cX9_moveBox 76 = .ok (.iload_n 2, 1) := by decide +kernel
theorem dX9_moveBox_77 : decode cX9_moveBox 77 = .ok (.iadd, 1) := by decide +kernel
theorem dX9_moveBox_78 : decode cX9_moveBox 78 = .ok (.istore 6, 2) := by decide +kernel
theorem dX9_moveBox_80 : decode cX9_moveBox 80 = .ok (.aload_n 0, 1) := by decide +kernel
theorem dX9_moveBox_81 : decode cX9_moveBox 81 = .ok (.getfield 10, 3) := by decide +kernel
theorem dX9_moveBox_84 : decode cX9_moveBox 84 = .ok (.iload_n 1, 1) := by decide +kernel
theorem dX9_moveBox_85 : decode cX9_moveBox 85 = .ok (.iconst 3, 1) := by decide +kernel
theorem dX9_moveBox_86 : decode cX9_moveBox 86 = .ok (.invokevirtual 78, 3) := by decide +kernel
theorem dX9_moveBox_89 : decode cX9_moveBox 89 = .ok (.iload_n 3, 1) := by decide +kernel
theorem dX9_moveBox_90 : decode cX9_moveBox 90 = .ok (.iadd, 1) := by decide +kernel
theorem dX9_moveBox_91 : decode cX9_moveBox 91 = .ok (.istore 7, 2) := by decide +kernel
theorem dX9_moveBox_93 : decode cX9_moveBox 93 = .ok (.iload 4, 2) := by decide +kernel
theorem dX9_moveBox_95 : decode cX9_moveBox 95 = .ok (.iload 5, 2) := by decide +kernel
theorem dX9_moveBox_97 : decode cX9_moveBox 97 = .ok (.iload 6, 2) := by decide +kernel
theorem dX9_moveBox_99 : decode cX9_moveBox 99 = .ok (.iload 7, 2) := by decide +kernel
theorem dX9_moveBox_101 : decode cX9_moveBox 101 = .ok (.invokestatic 51, 3) := by decide +kernel
theorem dX9_moveBox_104 : decode cX9_moveBox 104 = .ok (.ifCond .ne 7, 3) := by decide +kernel
theorem dX9_moveBox_107 : decode cX9_moveBox 107 = .ok (.sipush (-1002), 3) := by decide +kernel
theorem dX9_moveBox_110 : decode cX9_moveBox 110 = .ok (.ireturn, 1) := by decide +kernel
theorem dX9_moveBox_111 : decode cX9_moveBox 111 = .ok (.aload_n 0, 1) := by decide +kernel
theorem dX9_moveBox_112 : decode cX9_moveBox 112 = .ok (.getfield 10, 3) := by decide +kernel
theorem dX9_moveBox_115 : decode cX9_moveBox 115 = .ok (.iload_n 1, 1) := by decide +kernel
theorem dX9_moveBox_116 : decode cX9_moveBox 116 = .ok (.iload 4, 2) := by decide +kernel
theorem dX9_moveBox_118 : decode cX9_moveBox 118 = .ok (.iload 5, 2) := by decide +kernel
theorem dX9_moveBox_120 : decode cX9_moveBox 120 = .ok (.iload 6, 2) := by decide +kernel
theorem dX9_moveBox_122 : decode cX9_moveBox 122 = .ok (.iload 7, 2) := by decide +kernel
theorem dX9_moveBox_124 : decode cX9_moveBox 124 = .ok (.invokevirtual 55, 3) := by decide +kernel
theorem dX9_moveBox_127 : decode cX9_moveBox 127 = .ok (.ifCond .eq 7, 3) := by decide +kernel
theorem dX9_moveBox_130 : decode cX9_moveBox 130 = .ok (.sipush (-1003), 3) := by decide +kernel
theorem dX9_moveBox_133 : decode cX9_moveBox 133 = .ok (.ireturn, 1) := by decide +kernel
theorem dX9_moveBox_134 : decode cX9_moveBox 134 = .ok (.aload_n 0, 1) := by decide +kernel
theorem dX9_moveBox_135 : decode cX9_moveBox 135 = .ok (.invokevirtual 63, 3) := by decide +kernel
theorem dX9_moveBox_138 : decode cX9_moveBox 138 = .ok (.aload_n 0, 1) := by decide +kernel
theorem dX9_moveBox_139 : decode cX9_moveBox 139 = .ok (.getfield 10, 3) := by decide +kernel
theorem dX9_moveBox_142 : decode cX9_moveBox 142 = .ok (.iload_n 1, 1) := by decide +kernel
theorem dX9_moveBox_143 : decode cX9_moveBox 143 = .ok (.iload 4, 2) := by decide +kernel
theorem dX9_moveBox_145 : decode cX9_moveBox 145 = .ok (.iload 5, 2) := by decide +kernel
theorem dX9_moveBox_147 : decode cX9_moveBox 147 = .ok (.iload 6, 2) := by decide +kernel
theorem dX9_moveBox_149 : decode cX9_moveBox 149 = .ok (.iload 7, 2) := by decide +kernel
theorem dX9_moveBox_151 : decode cX9_moveBox 151 = .ok (.invokevirtual 66, 3) := by decide +kernel
theorem dX9_moveBox_154 : decode cX9_moveBox 154 = .ok (.aload_n 0, 1) := by decide +kernel
theorem dX9_moveBox_155 : decode cX9_moveBox 155 = .ok (.getfield 10, 3) := by decide +kernel
theorem dX9_moveBox_158 : decode cX9_moveBox 158 = .ok (.invokevirtual 82, 3) := by decide +kernel
theorem dX9_moveBox_161 : decode cX9_moveBox 161 = .ok (.aload_n 0, 1) := by decide +kernel
theorem dX9_moveBox_162 : decode cX9_moveBox 162 = .ok (.getfield 10, 3) := by decide +kernel
theorem dX9_moveBox_165 : decode cX9_moveBox 165 = .ok (.invokevirtual 86, 3) := by decide +kernel
theorem dX9_moveBox_168 : decode cX9_moveBox 168 = .ok (.isub, 1) := by decide +kernel
theorem dX9_moveBox_169 : decode cX9_moveBox 169 = .ok (.ireturn, 1) := by decide +kernel
theorem dX9_box_0 : decode cX9_box 0 = .ok (.aload_n 0, 1) := by decide +kernel
theorem dX9_box_1 : decode cX9_box 1 = .ok (.getfield 10, 3) := by decide +kernel
theorem dX9_box_4 : decode cX9_box 4 = .ok (.iload_n 1, 1) := by decide +kernel
theorem dX9_box_5 : decode cX9_box 5 = .ok (.invokevirtual 70, 3) := by decide +kernel
theorem dX9_box_8 : decode cX9_box 8 = .ok (.ifCond .ne 7, 3) := by decide +kernel
theorem dX9_box_11 : decode cX9_box 11 = .ok (.sipush (-1001), 3) := by decide +kernel
theorem dX9_box_14 : decode cX9_box 14 = .ok (.ireturn, 1) := by decide +kernel
theorem dX9_box_15 : decode cX9_box 15 = .ok (.iload_n 2, 1) := by decide +kernel
theorem dX9_box_16 : decode cX9_box 16 = .ok (.iconst 0, 1) := by decide +kernel
theorem dX9_box_17 : decode cX9_box 17 = .ok (.iconst 4, 1) := by decide +kernel
theorem dX9_box_18 : decode cX9_box 18 = .ok (.invokestatic 74, 3) := by decide +kernel
theorem dX9_box_21 : decode cX9_box 21 = .ok (.ifCond .ne 7, 3) := by decide +kernel
theorem dX9_box_24 : decode cX9_box 24 = .ok (.sipush (-1002), 3) := by decide +kernel
theorem dX9_box_27 : decode cX9_box 27 = .ok (.ireturn, 1) := by decide +kernel
theorem dX9_box_28 : decode cX9_box 28 = .ok (.iload_n 2, 1) := by decide +kernel
theorem dX9_box_29 : decode cX9_box 29 = .ok (.iconst 4, 1) := by decide +kernel
theorem dX9_box_30 : decode cX9_box 30 = .ok (.if_icmp .ge 15, 3) := by decide +kernel
theorem dX9_box_33 : decode cX9_box 33 = .ok (.aload_n 0, 1) := by decide +kernel
theorem dX9_box_34 : decode cX9_box 34 = .ok (.getfield 10, 3) := by decide +kernel
theorem dX9_box_37 : decode cX9_box 37 = .ok (.iload_n 1, 1) := by decide +kernel
theorem dX9_box_38 : decode cX9_box 38 = .ok (.iload_n 2, 1) := by decide +kernel
theorem dX9_box_39 : decode cX9_box 39 = .ok (.invokevirtual 78, 3) := by decide +kernel
theorem dX9_box_42 : decode cX9_box 42 = .ok (.goto 11, 3) := by decide +kernel
theorem dX9_box_45 : decode cX9_box 45 = .ok (.aload_n 0, 1) := by decide +kernel
theorem dX9_box_46 : decode cX9_box 46 = .ok (.getfield 10, 3) := by decide +kernel
theorem dX9_box_49 : decode cX9_box 49 = .ok (.iload_n 1, 1) := by decide +kernel
theorem dX9_box_50 : decode cX9_box 50 = .ok (.invokevirtual 89, 3) := by decide +kernel
theorem dX9_box_53 : decode cX9_box 53 = .ok (.ireturn, 1) := by decide +kernel
theorem dX9_blocker_0 : decode cX9_blocker 0 = .ok (.iload_n 1, 1) := by decide +kernel
theorem dX9_blocker_1 : decode cX9_blocker 1 = .ok (.iconst 0, 1) := by decide +kernel
theorem dX9_blocker_2 : decode cX9_blocker 2 = .ok (.bipush 99, 2) := by decide +kernel
theorem dX9_blocker_4 : decode cX9_blocker 4 = .ok (.invokestatic 74, 3) := by decide +kernel
theorem dX9_blocker_7 : decode cX9_blocker 7 = .ok (.ifCond .eq 13, 3) := by decide +kernel
theorem dX9_blocker_10 : decode cX9_blocker 10 = .ok (.iload_n 2, 1) := by decide +kernel
theorem dX9_blocker_11 : decode cX9_blocker 11 = .ok (.iconst 0, 1) := by decide +kernel
theorem dX9_blocker_12 : decode cX9_blocker 12 = .ok (.bipush 99, 2) := by decide +kernel
theorem dX9_blocker_14 : decode cX9_blocker 14 = .ok (.invokestatic 74, 3) := by decide +kernel
theorem dX9_blocker_17 : decode cX9_blocker 17 = .ok (.ifCond .ne 7, 3) := by decide +kernel
theorem dX9_blocker_20 : decode cX9_blocker 20 = .ok (.sipush (-1002), 3) := by decide +kernel
theorem dX9_blocker_23 : decode cX9_blocker 23 = .ok (.ireturn, 1) := by decide +kernel
theorem dX9_blocker_24 : decode cX9_blocker 24 = .ok (.aload_n 0, 1) := by decide +kernel
theorem dX9_blocker_25 : decode cX9_blocker 25 = .ok (.getfield 10, 3) := by decide +kernel
theorem dX9_blocker_28 : decode cX9_blocker 28 = .ok (.iload_n 1, 1) := by decide +kernel
theorem dX9_blocker_29 : decode cX9_blocker 29 = .ok (.iload_n 2, 1) := by decide +kernel
theorem dX9_blocker_30 : decode cX9_blocker 30 = .ok (.iload_n 1, 1) := by decide +kernel
theorem dX9_blocker_31 : decode cX9_blocker 31 = .ok (.iload_n 2, 1) := by decide +kernel
theorem dX9_blocker_32 : decode cX9_blocker 32 = .ok (.invokevirtual 93, 3) := by decide +kernel
theorem dX9_blocker_35 : decode cX9_blocker 35 = .ok (.istore_n 3, 1) := by decide +kernel
theorem dX9_blocker_36 : decode cX9_blocker 36 = .ok (.iload_n 3, 1) := by decide +kernel
theorem dX9_blocker_37 : decode cX9_blocker 37 = .ok (.iconst (-1), 1) := by decide +kernel
theorem dX9_blocker_38 : decode cX9_blocker 38 = .ok (.if_icmp .ne 9, 3) := by decide +kernel
theorem dX9_blocker_41 : decode cX9_blocker 41 = .ok (.sipush (-1000), 3) := by decide +kernel
theorem dX9_blocker_44 : decode cX9_blocker 44 = .ok (.goto 4, 3) := by decide +kernel
theorem dX9_blocker_47 : decode cX9_blocker 47 = .ok (.iload_n 3, 1) := by decide +kernel
theorem dX9_blocker_48 : decode cX9_blocker 48 = .ok (.ireturn, 1) := by decide +kernel
theorem dX9_link_0 : decode cX9_link 0 = .ok (.aload_n 0, 1) := by decide +kernel
theorem dX9_link_1 : decode cX9_link 1 = .ok (.getfield 10, 3) := by decide +kernel
theorem dX9_link_4 : decode cX9_link 4 = .ok (.iload_n 1, 1) := by decide +kernel
theorem dX9_link_5 : decode cX9_link 5 = .ok (.invokevirtual 70, 3) := by decide +kernel
theorem dX9_link_8 : decode cX9_link 8 = .ok (.ifCond .eq 15, 3) := by decide +kernel
theorem dX9_link_11 : decode cX9_link 11 = .ok (.aload_n 0, 1) := by decide +kernel
theorem dX9_link_12 : decode cX9_link 12 = .ok (.getfield 10, 3) := by decide +kernel
theorem dX9_link_15 : decode cX9_link 15 = .ok (.iload 4, 2) := by decide +kernel
theorem dX9_link_17 : decode cX9_link 17 = .ok (.invokevirtual 70, 3) := by decide +kernel
theorem dX9_link_20 : decode cX9_link 20 = .ok (.ifCond .ne 7, 3) := by decide +kernel
theorem dX9_link_23 : decode cX9_link 23 = .ok (.sipush (-1001), 3) := by decide +kernel
theorem dX9_link_26 : decode cX9_link 26 = .ok (.ireturn, 1) := by decide +kernel
theorem dX9_link_27 : decode cX9_link 27 = .ok (.aload_n 0, 1) := by decide +kernel
theorem dX9_link_28 : decode cX9_link 28 = .ok (.getfield 10, 3) := by decide +kernel
theorem dX9_link_31 : decode cX9_link 31 = .ok (.iload_n 1, 1) := by decide +kernel
theorem dX9_link_32 : decode cX9_link 32 = .ok (.iload_n 2, 1) := by decide +kernel
theorem dX9_link_33 : decode cX9_link 33 = .ok (.iload_n 3, 1) := by decide +kernel
theorem dX9_link_34 : decode cX9_link 34 = .ok (.invokevirtual 97, 3) := by decide +kernel
theorem dX9_link_37 : decode cX9_link 37 = .ok (.ifCond .eq 19, 3) := by decide +kernel
theorem dX9_link_40 : decode cX9_link 40 = .ok (.aload_n 0, 1) := by decide +kernel
theorem dX9_link_41 : decode cX9_link 41 = .ok (.getfield 10, 3) := by decide +kernel
theorem dX9_link_44 : decode cX9_link 44 = .ok (.iload 4, 2) := by decide +kernel
theorem dX9_link_46 : decode cX9_link 46 = .ok (.iload 5, 2) := by decide +kernel
theorem dX9_link_48 : decode cX9_link 48 = .ok (.iload 6, 2) := by decide +kernel
theorem dX9_link_50 : decode cX9_link 50 = .ok (.invokevirtual 97, 3) := by decide +kernel
theorem dX9_link_53 : decode cX9_link 53 = .ok (.ifCond .ne 7, 3) := by decide +kernel
theorem dX9_link_56 : decode cX9_link 56 = .ok (.sipush (-1002), 3) := by decide +kernel
theorem dX9_link_59 : decode cX9_link 59 = .ok (.ireturn, 1) := by decide +kernel
theorem dX9_link_60 : decode cX9_link 60 = .ok (.iload_n 1, 1) := by decide +kernel
theorem dX9_link_61 : decode cX9_link 61 = .ok (.iload 4, 2) := by decide +kernel
theorem dX9_link_63 : decode cX9_link 63 = .ok (.if_icmp .ne 19, 3) := by decide +kernel
theorem dX9_link_66 : decode cX9_link 66 = .ok (.iload_n 2, 1) := by decide +kernel
theorem dX9_link_67 : decode cX9_link 67 = .ok (.iload 5, 2) := by decide +kernel
theorem dX9_link_69 : decode cX9_link 69 = .ok (.if_icmp .ne 13, 3) := by decide +kernel
theorem dX9_link_72 : decode cX9_link 72 = .ok (.iload_n 3, 1) := by decide +kernel
theorem dX9_link_73 : decode cX9_link 73 = .ok (.iload 6, 2) := by decide +kernel
theorem dX9_link_75 : decode cX9_link 75 = .ok (.if_icmp .ne 7, 3) := by decide +kernel
theorem dX9_link_78 : decode cX9_link 78 = .ok (.sipush (-1003), 3) := by decide +kernel
theorem dX9_link_81 : decode cX9_link 81 = .ok (.ireturn, 1) := by decide +kernel
theorem dX9_link_82 : decode cX9_link 82 = .ok (.aload_n 0, 1) := by decide +kernel
theorem dX9_link_83 : decode cX9_link 83 = .ok (.getfield 10, 3) := by decide +kernel
theorem dX9_link_86 : decode cX9_link 86 = .ok (.getfield 100, 3) := by decide +kernel
theorem dX9_link_89 : decode cX9_link 89 = .ok (.bipush 10, 2) := by decide +kernel
theorem dX9_link_91 : decode cX9_link 91 = .ok (.if_icmp .lt 7, 3) := by decide +kernel
theorem dX9_link_94 : decode cX9_link 94 = .ok (.sipush (-1004), 3) := by decide +kernel
theorem dX9_link_97 : decode cX9_link 97 = .ok (.ireturn, 1) := by decide +kernel
theorem dX9_link_98 : decode cX9_link 98 = .ok (.aload_n 0, 1) := by decide +kernel
theorem dX9_link_99 : decode cX9_link 99 = .ok (.invokevirtual 63, 3) := by decide +kernel
theorem dX9_link_102 : decode cX9_link 102 = .ok (.aload_n 0, 1) := by decide +kernel
theorem dX9_link_103 : decode cX9_link 103 = .ok (.getfield 10, 3) := by decide +kernel
theorem dX9_link_106 : decode cX9_link 106 = .ok (.getfield 100, 3) := by decide +kernel
theorem dX9_link_109 : decode cX9_link 109 = .ok (.istore 7, 2) := by decide +kernel
theorem dX9_link_111 : decode cX9_link 111 = .ok (.aload_n 0, 1) := by decide +kernel
theorem dX9_link_112 : decode cX9_link 112 = .ok (.getfield 10, 3) := by decide +kernel
theorem dX9_link_115 : decode cX9_link 115 = .ok (.dup, 1) := by decide +kernel
theorem dX9_link_116 : decode cX9_link 116 = .ok (.getfield 100, 3) := by decide +kernel
theorem dX9_link_119 : decode cX9_link 119 = .ok (.iconst 1, 1) := by decide +kernel
theorem dX9_link_120 : decode cX9_link 120 = .ok (.iadd, 1) := by decide +kernel
theorem dX9_link_121 : decode cX9_link 121 = .ok (.putfield 100, 3) := by decide +kernel
theorem dX9_link_124 : decode cX9_link 124 = .ok (.aload_n 0, 1) := by decide +kernel
theorem dX9_link_125 : decode cX9_link 125 = .ok (.getfield 10, 3) := by decide +kernel
theorem dX9_link_128 : decode cX9_link 128 = .ok (.getfield 103, 3) := by decide +kernel
theorem dX9_link_131 : decode cX9_link 131 = .ok (.iload 7, 2) := by decide +kernel
theorem dX9_link_133 : decode cX9_link 133 = .ok (.aconst_null, 1) := by decide +kernel
theorem dX9_link_134 : decode cX9_link 134 = .ok (.aastore, 1) := by decide +kernel
theorem dX9_link_135 : decode cX9_link 135 = .ok (.aload_n 0, 1) := by decide +kernel
theorem dX9_link_136 : decode cX9_link 136 = .ok (.getfield 10, 3) := by decide +kernel
theorem dX9_link_139 : decode cX9_link 139 = .ok (.iload 7, 2) := by decide +kernel
theorem dX9_link_141 : decode cX9_link 141 = .ok (.iconst 0, 1) := by decide +kernel
theorem dX9_link_142 : decode cX9_link 142 = .ok (.iload_n 1, 1) := by decide +kernel
theorem dX9_link_143 : decode cX9_link 143 = .ok (.iload_n 2, 1) := by decide +kernel
theorem dX9_link_144 : decode cX9_link 144 = .ok (.iload_n 3, 1) := by decide +kernel
theorem dX9_link_145 : decode cX9_link 145 = .ok (.invokevirtual 107, 3) := by decide +kernel
theorem dX9_link_148 : decode cX9_link 148 = .ok (.aload_n 0, 1) := by decide +kernel
theorem dX9_link_149 : decode cX9_link 149 = .ok (.getfield 10, 3) := by decide +kernel
theorem dX9_link_152 : decode cX9_link 152 = .ok (.iload 7, 2) := by decide +kernel
theorem dX9_link_154 : decode cX9_link 154 = .ok (.iconst 1, 1) := by decide +kernel
theorem dX9_link_155 : decode cX9_link 155 = .ok (.iload 4, 2) := by decide +kernel
theorem dX9_link_157 : decode cX9_link 157 = .ok (.iload 5, 2) := by decide +kernel
theorem dX9_link_159 : decode cX9_link 159 = .ok (.iload 6, 2) := by decide +kernel
theorem dX9_link_161 : decode cX9_link 161 = .ok (.invokevirtual 107, 3) := by decide +kernel
theorem dX9_link_164 : decode cX9_link 164 = .ok (.iload 7, 2) := by decide +kernel
theorem dX9_link_166 : decode cX9_link 166 = .ok (.ireturn, 1) := by decide +kernel
theorem dX9_drop_0 : decode cX9_drop 0 = .ok (.aload_n 0, 1) := by decide +kernel
theorem dX9_drop_1 : decode cX9_drop 1 = .ok (.getfield 10, 3) := by decide +kernel
theorem dX9_drop_4 : decode cX9_drop 4 = .ok (.iload_n 1, 1) := by decide +kernel
theorem dX9_drop_5 : decode cX9_drop 5 = .ok (.invokevirtual 110, 3) := by decide +kernel
theorem dX9_drop_8 : decode cX9_drop 8 = .ok (.ifCond .ne 7, 3) := by decide +kernel
theorem dX9_drop_11 : decode cX9_drop 11 = .ok (.sipush (-1001), 3) := by decide +kernel
theorem dX9_drop_14 : decode cX9_drop 14 = .ok (.ireturn, 1) := by decide +kernel
theorem dX9_drop_15 : decode cX9_drop 15 = .ok (.aload_n 0, 1) := by decide +kernel
theorem dX9_drop_16 : decode cX9_drop 16 = .ok (.invokevirtual 63, 3) := by decide +kernel
theorem dX9_drop_19 : decode cX9_drop 19 = .ok (.aload_n 0, 1) := by decide +kernel
theorem dX9_drop_20 : decode cX9_drop 20 = .ok (.getfield 10, 3) := by decide +kernel
theorem dX9_drop_23 : decode cX9_drop 23 = .ok (.iload_n 1, 1) := by decide +kernel
theorem dX9_drop_24 : decode cX9_drop 24 = .ok (.invokevirtual 113, 3) := by decide +kernel
theorem dX9_drop_27 : decode cX9_drop 27 = .ok (.aload_n 0, 1) := by decide +kernel
theorem dX9_drop_28 : decode cX9_drop 28 = .ok (.getfield 10, 3) := by decide +kernel
theorem dX9_drop_31 : decode cX9_drop 31 = .ok (.getfield 100, 3) := by decide +kernel
theorem dX9_drop_34 : decode cX9_drop 34 = .ok (.ireturn, 1) := by decide +kernel
theorem dX9_setPenalty_0 : decode cX9_setPenalty 0 = .ok (.iload_n 1, 1) := by decide +kernel
theorem dX9_setPenalty_1 : decode cX9_setPenalty 1 = .ok (.iconst 0, 1) := by decide +kernel
theorem dX9_setPenalty_2 : decode cX9_setPenalty 2 = .ok (.bipush 50, 2) := by decide +kernel
theorem dX9_setPenalty_4 : decode cX9_setPenalty 4 = .ok (.invokestatic 74, 3) := by decide +kernel
theorem dX9_setPenalty_7 : decode cX9_setPenalty 7 = .ok (.ifCond .ne 7, 3) := by decide +kernel
theorem dX9_setPenalty_10 : decode cX9_setPenalty 10 = .ok (.sipush (-1002), 3) := by decide +kernel
theorem dX9_setPenalty_13 : decode cX9_setPenalty 13 = .ok (.ireturn, 1) := by decide +kernel
theorem dX9_setPenalty_14 : decode cX9_setPenalty 14 = .ok (.aload_n 0, 1) := by decide +kernel
theorem dX9_setPenalty_15 : decode cX9_setPenalty 15 = .ok (.invokevirtual 63, 3) := by decide +kernel
theorem dX9_setPenalty_18 : decode cX9_setPenalty 18 = .ok (.aload_n 0, 1) := by decide +kernel
theorem dX9_setPenalty_19 : decode cX9_setPenalty 19 = .ok (.getfield 10, 3) := by decide +kernel
theorem dX9_setPenalty_22 : decode cX9_setPenalty 22 = .ok (.getfield 117, 3) := by decide +kernel
theorem dX9_setPenalty_25 : decode cX9_setPenalty 25 = .ok (.istore_n 2, 1) := by decide +kernel
theorem dX9_setPenalty_26 : decode cX9_setPenalty 26 = .ok (.aload_n 0, 1) := by decide +kernel
theorem dX9_setPenalty_27 : decode cX9_setPenalty 27 = .ok (.getfield 10, 3) := by decide +kernel
theorem dX9_setPenalty_30 : decode cX9_setPenalty 30 = .ok (.iload_n 1, 1) := by decide +kernel
theorem dX9_setPenalty_31 : decode cX9_setPenalty 31 = .ok (.putfield 117, 3) := by decide +kernel
theorem dX9_setPenalty_34 : decode cX9_setPenalty 34 = .ok (.iload_n 2, 1) := by decide +kernel
theorem dX9_setPenalty_35 : decode cX9_setPenalty 35 = .ok (.ireturn, 1) := by decide +kernel
theorem dX9_count_0 : decode cX9_count 0 = .ok (.iload_n 1, 1) := by decide +kernel
theorem dX9_count_1 : decode cX9_count 1 = .ok (.tableswitch 87 0 5 #[39, 47, 55, 63, 71, 79], 39) := by decide +kernel
theorem dX9_count_40 : decode cX9_count 40 = .ok (.aload_n 0, 1) := by decide +kernel
theorem dX9_count_41 : decode cX9_count 41 = .ok (.getfield 10, 3) := by decide +kernel
theorem dX9_count_44 : decode cX9_count 44 = .ok (.getfield 59, 3) := by decide +kernel
theorem dX9_count_47 : decode cX9_count 47 = .ok (.ireturn, 1) := by decide +kernel
theorem dX9_count_48 : decode cX9_count 48 = .ok (.aload_n 0, 1) := by decide +kernel
theorem dX9_count_49 : decode cX9_count 49 = .ok (.getfield 10, 3) := by decide +kernel
theorem dX9_count_52 : decode cX9_count 52 = .ok (.getfield 100, 3) := by decide +kernel
theorem dX9_count_55 : decode cX9_count 55 = .ok (.ireturn, 1) := by decide +kernel
theorem dX9_count_56 : decode cX9_count 56 = .ok (.aload_n 0, 1) := by decide +kernel
theorem dX9_count_57 : decode cX9_count 57 = .ok (.getfield 10, 3) := by decide +kernel
theorem dX9_count_60 : decode cX9_count 60 = .ok (.getfield 117, 3) := by decide +kernel
theorem dX9_count_63 : decode cX9_count 63 = .ok (.ireturn, 1) := by decide +kernel
theorem dX9_count_64 : decode cX9_count 64 = .ok (.aload_n 0, 1) := by decide +kernel
theorem dX9_count_65 : decode cX9_count 65 = .ok (.getfield 10, 3) := by decide +kernel
theorem dX9_count_68 : decode cX9_count 68 = .ok (.invokevirtual 82, 3) := by decide +kernel
theorem dX9_count_71 : decode cX9_count 71 = .ok (.ireturn, 1) := by decide +kernel
theorem dX9_count_72 : decode cX9_count 72 = .ok (.aload_n 0, 1) := by decide +kernel
theorem dX9_count_73 : decode cX9_count 73 = .ok (.getfield 10, 3) := by decide +kernel
theorem dX9_count_76 : decode cX9_count 76 = .ok (.invokevirtual 120, 3) := by decide +kernel
theorem dX9_count_79 : decode cX9_count 79 = .ok (.ireturn, 1) := by decide +kernel
theorem dX9_count_80 : decode cX9_count 80 = .ok (.aload_n 0, 1) := by decide +kernel
theorem dX9_count_81 : decode cX9_count 81 = .ok (.getfield 10, 3) := by decide +kernel
theorem dX9_count_84 : decode cX9_count 84 = .ok (.invokevirtual 123, 3) := by decide +kernel
theorem dX9_count_87 : decode cX9_count 87 = .ok (.ireturn, 1) := by decide +kernel
theorem dX9_count_88 : decode cX9_count 88 = .ok (.sipush (-1002), 3) := by decide +kernel
theorem dX9_count_91 : decode cX9_count 91 = .ok (.ireturn, 1) := by decide +kernel
theorem dX9_connector_0 : decode cX9_connector 0 = .ok (.aload_n 0, 1) := by decide +kernel
theorem dX9_connector_1 : decode cX9_connector 1 = .ok (.getfield 10, 3) := by decide +kernel
theorem dX9_connector_4 : decode cX9_connector 4 = .ok (.iload_n 1, 1) := by decide +kernel
theorem dX9_connector_5 : decode cX9_connector 5 = .ok (.invokevirtual 110, 3) := by decide +kernel
theorem dX9_connector_8 : decode cX9_connector 8 = .ok (.ifCond .ne 7, 3) := by decide +kernel
theorem dX9_connector_11 : decode cX9_connector 11 = .ok (.sipush (-1001), 3) := by decide +kernel
theorem dX9_connector_14 : decode cX9_connector 14 = .ok (.ireturn, 1) := by decide +kernel
theorem dX9_connector_15 : decode cX9_connector 15 = .ok (.iload_n 2, 1) := by decide +kernel
theorem dX9_connector_16 : decode cX9_connector 16 = .ok (.iconst 0, 1) := by decide +kernel
theorem dX9_connector_17 : decode cX9_connector 17 = .ok (.bipush 11, 2) := by decide +kernel
theorem dX9_connector_19 : decode cX9_connector 19 = .ok (.invokestatic 74, 3) := by decide +kernel
theorem dX9_connector_22 : decode cX9_connector 22 = .ok (.ifCond .ne 7, 3) := by decide +kernel
theorem dX9_connector_25 : decode cX9_connector 25 = .ok (.sipush (-1002), 3) := by decide +kernel
theorem dX9_connector_28 : decode cX9_connector 28 = .ok (.ireturn, 1) := by decide +kernel
theorem dX9_connector_29 : decode cX9_connector 29 = .ok (.iload_n 2, 1) := by decide +kernel
theorem dX9_connector_30 : decode cX9_connector 30 = .ok (.tableswitch 113 6 11 #[38, 48, 58, 68, 78, 96], 38) := by decide +kernel
theorem dX9_connector_68 : decode cX9_connector 68 = .ok (.aload_n 0, 1) := by decide +kernel
theorem dX9_connector_69 : decode cX9_connector 69 = .ok (.getfield 10, 3) := by decide +kernel
theorem dX9_connector_72 : decode cX9_connector 72 = .ok (.iload_n 1, 1) := by decide +kernel
theorem dX9_connector_73 : decode cX9_connector 73 = .ok (.iconst 0, 1) := by decide +kernel
theorem dX9_connector_74 : decode cX9_connector 74 = .ok (.invokevirtual 126, 3) := by decide +kernel
theorem dX9_connector_77 : decode cX9_connector 77 = .ok (.ireturn, 1) := by decide +kernel
theorem dX9_connector_78 : decode cX9_connector 78 = .ok (.aload_n 0, 1) := by decide +kernel
theorem dX9_connector_79 : decode cX9_connector 79 = .ok (.getfield 10, 3) := by decide +kernel
theorem dX9_connector_82 : decode cX9_connector 82 = .ok (.iload_n 1, 1) := by decide +kernel
theorem dX9_connector_83 : decode cX9_connector 83 = .ok (.iconst 0, 1) := by decide +kernel
theorem dX9_connector_84 : decode cX9_connector 84 = .ok (.invokevirtual 129, 3) := by decide +kernel
theorem dX9_connector_87 : decode cX9_connector 87 = .ok (.ireturn, 1) := by decide +kernel
theorem dX9_connector_88 : decode cX9_connector 88 = .ok (.aload_n 0, 1) := by decide +kernel
theorem dX9_connector_89 : decode cX9_connector 89 = .ok (.getfield 10, 3) := by decide +kernel
theorem dX9_connector_92 : decode cX9_connector 92 = .ok (.iload_n 1, 1) := by decide +kernel
theorem dX9_connector_93 : decode cX9_connector 93 = .ok (.iconst 1, 1) := by decide +kernel
theorem dX9_connector_94 : decode cX9_connector 94 = .ok (.invokevirtual 126, 3) := by decide +kernel
theorem dX9_connector_97 : decode cX9_connector 97 = .ok (.ireturn, 1) := by decide +kernel
theorem dX9_connector_98 : decode cX9_connector 98 = .ok (.aload_n 0, 1) := by decide +kernel
theorem dX9_connector_99 : decode cX9_connector 99 = .ok (.getfield 10, 3) := by decide +kernel
theorem dX9_connector_102 : decode cX9_connector 102 = .ok (.iload_n 1, 1) := by decide +kernel
theorem dX9_connector_103 : decode cX9_connector 103 = .ok (.iconst 1, 1) := by decide +kernel
theorem dX9_connector_104 : decode cX9_connector 104 = .ok (.invokevirtual 129, 3) := by decide +kernel
theorem dX9_connector_107 : decode cX9_connector 107 = .ok (.ireturn, 1) := by decide +kernel
theorem dX9_connector_108 : decode cX9_connector 108 = .ok (.aload_n 0, 1) := by decide +kernel
theorem dX9_connector_109 : decode cX9_connector 109 = .ok (.getfield 10, 3) := by decide +kernel
theorem dX9_connector_112 : decode cX9_connector 112 = .ok (.getfield 103, 3) := by decide +kernel
theorem dX9_connector_115 : decode cX9_connector 115 = .ok (.iload_n 1, 1) := by decide +kernel
theorem dX9_connector_116 : decode cX9_connector 116 = .ok (.aaload, 1) := by decide +kernel
theorem dX9_connector_117 : decode cX9_connector 117 = .ok (.ifnull 7, 3) := by decide +kernel
theorem dX9_connector_120 : decode cX9_connector 120 = .ok (.iconst 1, 1) := by decide +kernel
theorem dX9_connector_121 : decode cX9_connector 121 = .ok (.goto 4, 3) := by decide +kernel
theorem dX9_connector_124 : decode cX9_connector 124 = .ok (.iconst 0, 1) := by decide +kernel
theorem dX9_connector_125 : decode cX9_connector 125 = .ok (.ireturn, 1) := by decide +kernel
theorem dX9_connector_126 : decode cX9_connector 126 = .ok (.aload_n 0, 1) := by decide +kernel
theorem dX9_connector_127 : decode cX9_connector 127 = .ok (.getfield 10, 3) := by decide +kernel
theorem dX9_connector_130 : decode cX9_connector 130 = .ok (.iload_n 1, 1) := by decide +kernel
theorem dX9_connector_131 : decode cX9_connector 131 = .ok (.invokevirtual 132, 3) := by decide +kernel
theorem dX9_connector_134 : decode cX9_connector 134 = .ok (.ifCond .eq 7, 3) := by decide +kernel
theorem dX9_connector_137 : decode cX9_connector 137 = .ok (.iconst 1, 1) := by decide +kernel
theorem dX9_connector_138 : decode cX9_connector 138 = .ok (.goto 4, 3) := by decide +kernel
theorem dX9_connector_141 : decode cX9_connector 141 = .ok (.iconst 0, 1) := by decide +kernel
theorem dX9_connector_142 : decode cX9_connector 142 = .ok (.ireturn, 1) := by decide +kernel
theorem dX9_connector_143 : decode cX9_connector 143 = .ok (.aload_n 0, 1) := by decide +kernel
theorem dX9_connector_144 : decode cX9_connector 144 = .ok (.getfield 10, 3) := by decide +kernel
theorem dX9_connector_147 : decode cX9_connector 147 = .ok (.iload_n 1, 1) := by decide +kernel
theorem dX9_connector_148 : decode cX9_connector 148 = .ok (.iload_n 2, 1) := by decide +kernel
theorem dX9_connector_149 : decode cX9_connector 149 = .ok (.invokevirtual 135, 3) := by decide +kernel
theorem dX9_connector_152 : decode cX9_connector 152 = .ok (.ireturn, 1) := by decide +kernel
theorem dX9_route_0 : decode cX9_route 0 = .ok (.aload_n 0, 1) := by decide +kernel
theorem dX9_route_1 : decode cX9_route 1 = .ok (.getfield 10, 3) := by decide +kernel
theorem dX9_route_4 : decode cX9_route 4 = .ok (.iload_n 1, 1) := by decide +kernel
theorem dX9_route_5 : decode cX9_route 5 = .ok (.invokevirtual 110, 3) := by decide +kernel
theorem dX9_route_8 : decode cX9_route 8 = .ok (.ifCond .ne 7, 3) := by decide +kernel
theorem dX9_route_11 : decode cX9_route 11 = .ok (.sipush (-1001), 3) := by decide +kernel
theorem dX9_route_14 : decode cX9_route 14 = .ok (.ireturn, 1) := by decide +kernel
theorem dX9_route_15 : decode cX9_route 15 = .ok (.aload_n 0, 1) := by decide +kernel
theorem dX9_route_16 : decode cX9_route 16 = .ok (.invokevirtual 63, 3) := by decide +kernel
theorem dX9_route_19 : decode cX9_route 19 = .ok (.aload_n 0, 1) := by decide +kernel
theorem dX9_route_20 : decode cX9_route 20 = .ok (.getfield 26, 3) := by decide +kernel
theorem dX9_route_23 : decode cX9_route 23 = .ok (.aload_n 0, 1) := by decide +kernel
theorem dX9_route_24 : decode cX9_route 24 = .ok (.getfield 10, 3) := by decide +kernel
theorem dX9_route_27 : decode cX9_route 27 = .ok (.iload_n 1, 1) := by decide +kernel
theorem dX9_route_28 : decode cX9_route 28 = .ok (.invokevirtual 138, 3) := by decide +kernel
theorem dX9_route_31 : decode cX9_route 31 = .ok (.istore_n 2, 1) := by decide +kernel
theorem dX9_route_32 : decode cX9_route 32 = .ok (.iload_n 2, 1) := by decide +kernel
theorem dX9_route_33 : decode cX9_route 33 = .ok (.sipush (-1000), 3) := by decide +kernel
theorem dX9_route_36 : decode cX9_route 36 = .ok (.if_icmp .eq 10, 3) := by decide +kernel
theorem dX9_route_39 : decode cX9_route 39 = .ok (.aload_n 0, 1) := by decide +kernel
theorem dX9_route_40 : decode cX9_route 40 = .ok (.iload_n 1, 1) := by decide +kernel
theorem dX9_route_41 : decode cX9_route 41 = .ok (.iload_n 2, 1) := by decide +kernel
theorem dX9_route_42 : decode cX9_route 42 = .ok (.invokevirtual 142, 3) := by decide +kernel
theorem dX9_route_45 : decode cX9_route 45 = .ok (.pop, 1) := by decide +kernel
theorem dX9_route_46 : decode cX9_route 46 = .ok (.iload_n 2, 1) := by decide +kernel
theorem dX9_route_47 : decode cX9_route 47 = .ok (.ireturn, 1) := by decide +kernel
theorem dX9_routeAll_0 : decode cX9_routeAll 0 = .ok (.aload_n 0, 1) := by decide +kernel
theorem dX9_routeAll_1 : decode cX9_routeAll 1 = .ok (.invokevirtual 63, 3) := by decide +kernel
theorem dX9_routeAll_4 : decode cX9_routeAll 4 = .ok (.iconst 0, 1) := by decide +kernel
theorem dX9_routeAll_5 : decode cX9_routeAll 5 = .ok (.istore_n 1, 1) := by decide +kernel
theorem dX9_routeAll_6 : decode cX9_routeAll 6 = .ok (.iconst 0, 1) := by decide +kernel
theorem dX9_routeAll_7 : decode cX9_routeAll 7 = .ok (.istore_n 2, 1) := by decide +kernel
theorem dX9_routeAll_8 : decode cX9_routeAll 8 = .ok (.iload_n 2, 1) := by decide +kernel
theorem dX9_routeAll_9 : decode cX9_routeAll 9 = .ok (.aload_n 0, 1) := by decide +kernel
theorem dX9_routeAll_10 : decode cX9_routeAll 10 = .ok (.getfield 10, 3) := by decide +kernel
theorem dX9_routeAll_13 : decode cX9_routeAll 13 = .ok (.getfield 100, 3) := by decide +kernel
theorem dX9_routeAll_16 : decode cX9_routeAll 16 = .ok (.if_icmp .ge 41, 3) := by decide +kernel
theorem dX9_routeAll_19 : decode cX9_routeAll 19 = .ok (.aload_n 0, 1) := by decide +kernel
theorem dX9_routeAll_20 : decode cX9_routeAll 20 = .ok (.getfield 26, 3) := by decide +kernel
theorem dX9_routeAll_23 : decode cX9_routeAll 23 = .ok (.aload_n 0, 1) := by decide +kernel
theorem dX9_routeAll_24 : decode cX9_routeAll 24 = .ok (.getfield 10, 3) := by decide +kernel
theorem dX9_routeAll_27 : decode cX9_routeAll 27 = .ok (.iload_n 2, 1) := by decide +kernel
theorem dX9_routeAll_28 : decode cX9_routeAll 28 = .ok (.invokevirtual 138, 3) := by decide +kernel
theorem dX9_routeAll_31 : decode cX9_routeAll 31 = .ok (.istore_n 3, 1) := by decide +kernel
theorem dX9_routeAll_32 : decode cX9_routeAll 32 = .ok (.iload_n 3, 1) := by decide +kernel
theorem dX9_routeAll_33 : decode cX9_routeAll 33 = .ok (.sipush (-1000), 3) := by decide +kernel
theorem dX9_routeAll_36 : decode cX9_routeAll 36 = .ok (.if_icmp .eq 15, 3) := by decide +kernel
theorem dX9_routeAll_39 : decode cX9_routeAll 39 = .ok (.aload_n 0, 1) := by decide +kernel
theorem dX9_routeAll_40 : decode cX9_routeAll 40 = .ok (.iload_n 2, 1) := by decide +kernel
theorem dX9_routeAll_41 : decode cX9_routeAll 41 = .ok (.iload_n 3, 1) := by decide +kernel
theorem dX9_routeAll_42 : decode cX9_routeAll 42 = .ok (.invokevirtual 142, 3) := by decide +kernel
theorem dX9_routeAll_45 : decode cX9_routeAll 45 = .ok (.ifCond .eq 6, 3) := by decide +kernel
theorem dX9_routeAll_48 : decode cX9_routeAll 48 = .ok (.iinc 1 1, 3) := by decide +kernel
theorem dX9_routeAll_51 : decode cX9_routeAll 51 = .ok (.iinc 2 1, 3) := by decide +kernel
theorem dX9_routeAll_54 : decode cX9_routeAll 54 = .ok (.goto (-46), 3) := by decide +kernel
theorem dX9_routeAll_57 : decode cX9_routeAll 57 = .ok (.iload_n 1, 1) := by decide +kernel
theorem dX9_routeAll_58 : decode cX9_routeAll 58 = .ok (.ireturn, 1) := by decide +kernel
theorem dX9_reroute_0 : decode cX9_reroute 0 = .ok (.aload_n 0, 1) := by decide +kernel
theorem dX9_reroute_1 : decode cX9_reroute 1 = .ok (.invokevirtual 63, 3) := by decide +kernel
theorem dX9_reroute_4 : decode cX9_reroute 4 = .ok (.iconst 0, 1) := by decide +kernel
theorem dX9_reroute_5 : decode cX9_reroute 5 = .ok (.istore_n 1, 1) := by decide +kernel
theorem dX9_reroute_6 : decode cX9_reroute 6 = .ok (.iconst 0, 1) := by decide +kernel
theorem dX9_reroute_7 : decode cX9_reroute 7 = .ok (.istore_n 2, 1) := by decide +kernel
theorem dX9_reroute_8 : decode cX9_reroute 8 = .ok (.iload_n 2, 1) := by decide +kernel
theorem dX9_reroute_9 : decode cX9_reroute 9 = .ok (.aload_n 0, 1) := by decide +kernel
theorem dX9_reroute_10 : decode cX9_reroute 10 = .ok (.getfield 10, 3) := by decide +kernel
theorem dX9_reroute_13 : decode cX9_reroute 13 = .ok (.getfield 100, 3) := by decide +kernel
theorem dX9_reroute_16 : decode cX9_reroute 16 = .ok (.if_icmp .ge 53, 3) := by decide +kernel
theorem dX9_reroute_19 : decode cX9_reroute 19 = .ok (.aload_n 0, 1) := by decide +kernel
theorem dX9_reroute_20 : decode cX9_reroute 20 = .ok (.getfield 10, 3) := by decide +kernel
theorem dX9_reroute_23 : decode cX9_reroute 23 = .ok (.iload_n 2, 1) := by decide +kernel
theorem dX9_reroute_24 : decode cX9_reroute 24 = .ok (.invokevirtual 132, 3) := by decide +kernel
theorem dX9_reroute_27 : decode cX9_reroute 27 = .ok (.ifCond .ne 6, 3) := by decide +kernel
theorem dX9_reroute_30 : decode cX9_reroute 30 = .ok (.goto 33, 3) := by decide +kernel
theorem dX9_reroute_33 : decode cX9_reroute 33 = .ok (.aload_n 0, 1) := by decide +kernel
theorem dX9_reroute_34 : decode cX9_reroute 34 = .ok (.getfield 26, 3) := by decide +kernel
theorem dX9_reroute_37 : decode cX9_reroute 37 = .ok (.aload_n 0, 1) := by decide +kernel
theorem dX9_reroute_38 : decode cX9_reroute 38 = .ok (.getfield 10, 3) := by decide +kernel
theorem dX9_reroute_41 : decode cX9_reroute 41 = .ok (.iload_n 2, 1) := by decide +kernel
theorem dX9_reroute_42 : decode cX9_reroute 42 = .ok (.invokevirtual 138, 3) := by decide +kernel
theorem dX9_reroute_45 : decode cX9_reroute 45 = .ok (.istore_n 3, 1) := by decide +kernel
theorem dX9_reroute_46 : decode cX9_reroute 46 = .ok (.iload_n 3, 1) := by decide +kernel
theorem dX9_reroute_47 : decode cX9_reroute 47 = .ok (.sipush (-1000), 3) := by decide +kernel
theorem dX9_reroute_50 : decode cX9_reroute 50 = .ok (.if_icmp .eq 13, 3) := by decide +kernel
theorem dX9_reroute_53 : decode cX9_reroute 53 = .ok (.aload_n 0, 1) := by decide +kernel
theorem dX9_reroute_54 : decode cX9_reroute 54 = .ok (.iload_n 2, 1) := by decide +kernel
theorem dX9_reroute_55 : decode cX9_reroute 55 = .ok (.iload_n 3, 1) := by decide +kernel
theorem dX9_reroute_56 : decode cX9_reroute 56 = .ok (.invokevirtual 142, 3) := by decide +kernel
theorem dX9_reroute_59 : decode cX9_reroute 59 = .ok (.pop, 1) := by decide +kernel
theorem dX9_reroute_60 : decode cX9_reroute 60 = .ok (.iinc 1 1, 3) := by decide +kernel
theorem dX9_reroute_63 : decode cX9_reroute 63 = .ok (.iinc 2 1, 3) := by decide +kernel
theorem dX9_reroute_66 : decode cX9_reroute 66 = .ok (.goto (-58), 3) := by decide +kernel
theorem dX9_reroute_69 : decode cX9_reroute 69 = .ok (.iload_n 1, 1) := by decide +kernel
theorem dX9_reroute_70 : decode cX9_reroute 70 = .ok (.ireturn, 1) := by decide +kernel
theorem dX9_refresh_0 : decode cX9_refresh 0 = .ok (.aload_n 0, 1) := by decide +kernel
theorem dX9_refresh_1 : decode cX9_refresh 1 = .ok (.invokevirtual 63, 3) := by decide +kernel
theorem dX9_refresh_4 : decode cX9_refresh 4 = .ok (.iconst 0, 1) := by decide +kernel
theorem dX9_refresh_5 : decode cX9_refresh 5 = .ok (.istore_n 1, 1) := by decide +kernel
theorem dX9_refresh_6 : decode cX9_refresh 6 = .ok (.iconst 0, 1) := by decide +kernel
theorem dX9_refresh_7 : decode cX9_refresh 7 = .ok (.istore_n 2, 1) := by decide +kernel
theorem dX9_refresh_8 : decode cX9_refresh 8 = .ok (.iload_n 2, 1) := by decide +kernel
theorem dX9_refresh_9 : decode cX9_refresh 9 = .ok (.aload_n 0, 1) := by decide +kernel
theorem dX9_refresh_10 : decode cX9_refresh 10 = .ok (.getfield 10, 3) := by decide +kernel
theorem dX9_refresh_13 : decode cX9_refresh 13 = .ok (.getfield 100, 3) := by decide +kernel
theorem dX9_refresh_16 : decode cX9_refresh 16 = .ok (.if_icmp .ge 78, 3) := by decide +kernel
theorem dX9_refresh_19 : decode cX9_refresh 19 = .ok (.aload_n 0, 1) := by decide +kernel
theorem dX9_refresh_20 : decode cX9_refresh 20 = .ok (.getfield 26, 3) := by decide +kernel
theorem dX9_refresh_23 : decode cX9_refresh 23 = .ok (.aload_n 0, 1) := by decide +kernel
theorem dX9_refresh_24 : decode cX9_refresh 24 = .ok (.getfield 10, 3) := by decide +kernel
theorem dX9_refresh_27 : decode cX9_refresh 27 = .ok (.iload_n 2, 1) := by decide +kernel
theorem dX9_refresh_28 : decode cX9_refresh 28 = .ok (.invokevirtual 138, 3) := by decide +kernel
theorem dX9_refresh_31 : decode cX9_refresh 31 = .ok (.istore_n 3, 1) := by decide +kernel
theorem dX9_refresh_32 : decode cX9_refresh 32 = .ok (.iload_n 3, 1) := by decide +kernel
theorem dX9_refresh_33 : decode cX9_refresh 33 = .ok (.sipush (-1000), 3) := by decide +kernel
theorem dX9_refresh_36 : decode cX9_refresh 36 = .ok (.if_icmp .ne 6, 3) := by decide +kernel
theorem dX9_refresh_39 : decode cX9_refresh 39 = .ok (.goto 49, 3) := by decide +kernel
theorem dX9_refresh_42 : decode cX9_refresh 42 = .ok (.aload_n 0, 1) := by decide +kernel
theorem dX9_refresh_43 : decode cX9_refresh 43 = .ok (.getfield 10, 3) := by decide +kernel
theorem dX9_refresh_46 : decode cX9_refresh 46 = .ok (.getfield 103, 3) := by decide +kernel
theorem dX9_refresh_49 : decode cX9_refresh 49 = .ok (.iload_n 2, 1) := by decide +kernel
theorem dX9_refresh_50 : decode cX9_refresh 50 = .ok (.aaload, 1) := by decide +kernel
theorem dX9_refresh_51 : decode cX9_refresh 51 = .ok (.astore 4, 2) := by decide +kernel
theorem dX9_refresh_53 : decode cX9_refresh 53 = .ok (.aload 4, 2) := by decide +kernel
theorem dX9_refresh_55 : decode cX9_refresh 55 = .ok (.ifnull 23, 3) := by decide +kernel
theorem dX9_refresh_58 : decode cX9_refresh 58 = .ok (.aload 4, 2) := by decide +kernel
theorem dX9_refresh_60 : decode cX9_refresh 60 = .ok (.getfield 146, 3) := by decide +kernel
theorem dX9_refresh_63 : decode cX9_refresh 63 = .ok (.iload_n 3, 1) := by decide +kernel
theorem dX9_refresh_64 : decode cX9_refresh 64 = .ok (.if_icmp .gt 14, 3) := by decide +kernel
theorem dX9_refresh_67 : decode cX9_refresh 67 = .ok (.aload_n 0, 1) := by decide +kernel
theorem dX9_refresh_68 : decode cX9_refresh 68 = .ok (.getfield 10, 3) := by decide +kernel
theorem dX9_refresh_71 : decode cX9_refresh 71 = .ok (.iload_n 2, 1) := by decide +kernel
theorem dX9_refresh_72 : decode cX9_refresh 72 = .ok (.invokevirtual 132, 3) := by decide +kernel
theorem dX9_refresh_75 : decode cX9_refresh 75 = .ok (.ifCond .eq 13, 3) := by decide +kernel
theorem dX9_refresh_78 : decode cX9_refresh 78 = .ok (.aload_n 0, 1) := by decide +kernel
theorem dX9_refresh_79 : decode cX9_refresh 79 = .ok (.iload_n 2, 1) := by decide +kernel
theorem dX9_refresh_80 : decode cX9_refresh 80 = .ok (.iload_n 3, 1) := by decide +kernel
theorem dX9_refresh_81 : decode cX9_refresh 81 = .ok (.invokevirtual 142, 3) := by decide +kernel
theorem dX9_refresh_84 : decode cX9_refresh 84 = .ok (.pop, 1) := by decide +kernel
theorem dX9_refresh_85 : decode cX9_refresh 85 = .ok (.iinc 1 1, 3) := by decide +kernel
theorem dX9_refresh_88 : decode cX9_refresh 88 = .ok (.iinc 2 1, 3) := by decide +kernel
theorem dX9_refresh_91 : decode cX9_refresh 91 = .ok (.goto (-83), 3) := by decide +kernel
theorem dX9_refresh_94 : decode cX9_refresh 94 = .ok (.iload_n 1, 1) := by decide +kernel
theorem dX9_refresh_95 : decode cX9_refresh 95 = .ok (.ireturn, 1) := by decide +kernel
theorem dX9_best_0 : decode cX9_best 0 = .ok (.aload_n 0, 1) := by decide +kernel
theorem dX9_best_1 : decode cX9_best 1 = .ok (.getfield 10, 3) := by decide +kernel
theorem dX9_best_4 : decode cX9_best 4 = .ok (.iload_n 1, 1) := by decide +kernel
theorem dX9_best_5 : decode cX9_best 5 = .ok (.invokevirtual 110, 3) := by decide +kernel
theorem dX9_best_8 : decode cX9_best 8 = .ok (.ifCond .ne 7, 3) := by decide +kernel
theorem dX9_best_11 : decode cX9_best 11 = .ok (.sipush (-1001), 3) := by decide +kernel
theorem dX9_best_14 : decode cX9_best 14 = .ok (.ireturn, 1) := by decide +kernel
theorem dX9_best_15 : decode cX9_best 15 = .ok (.aload_n 0, 1) := by decide +kernel
theorem dX9_best_16 : decode cX9_best 16 = .ok (.getfield 26, 3) := by decide +kernel
theorem dX9_best_19 : decode cX9_best 19 = .ok (.aload_n 0, 1) := by decide +kernel
theorem dX9_best_20 : decode cX9_best 20 = .ok (.getfield 10, 3) := by decide +kernel
theorem dX9_best_23 : decode cX9_best 23 = .ok (.iload_n 1, 1) := by decide +kernel
theorem dX9_best_24 : decode cX9_best 24 = .ok (.invokevirtual 138, 3) := by decide +kernel
theorem dX9_best_27 : decode cX9_best 27 = .ok (.ireturn, 1) := by decide +kernel
theorem dX9_measure_0 : decode cX9_measure 0 = .ok (.aload_n 0, 1) := by decide +kernel
theorem dX9_measure_1 : decode cX9_measure 1 = .ok (.getfield 10, 3) := by decide +kernel
theorem dX9_measure_4 : decode cX9_measure 4 = .ok (.iload_n 1, 1) := by decide +kernel
theorem dX9_measure_5 : decode cX9_measure 5 = .ok (.invokevirtual 110, 3) := by decide +kernel
theorem dX9_measure_8 : decode cX9_measure 8 = .ok (.ifCond .ne 7, 3) := by decide +kernel
theorem dX9_measure_11 : decode cX9_measure 11 = .ok (.sipush (-1001), 3) := by decide +kernel
theorem dX9_measure_14 : decode cX9_measure 14 = .ok (.ireturn, 1) := by decide +kernel
theorem dX9_measure_15 : decode cX9_measure 15 = .ok (.iload_n 2, 1) := by decide +kernel
theorem dX9_measure_16 : decode cX9_measure 16 = .ok (.iconst 0, 1) := by decide +kernel
theorem dX9_measure_17 : decode cX9_measure 17 = .ok (.iconst 3, 1) := by decide +kernel
theorem dX9_measure_18 : decode cX9_measure 18 = .ok (.invokestatic 74, 3) := by decide +kernel
theorem dX9_measure_21 : decode cX9_measure 21 = .ok (.ifCond .ne 7, 3) := by decide +kernel
theorem dX9_measure_24 : decode cX9_measure 24 = .ok (.sipush (-1002), 3) := by decide +kernel
theorem dX9_measure_27 : decode cX9_measure 27 = .ok (.ireturn, 1) := by decide +kernel
theorem dX9_measure_28 : decode cX9_measure 28 = .ok (.aload_n 0, 1) := by decide +kernel
theorem dX9_measure_29 : decode cX9_measure 29 = .ok (.getfield 10, 3) := by decide +kernel
theorem dX9_measure_32 : decode cX9_measure 32 = .ok (.getfield 103, 3) := by decide +kernel
theorem dX9_measure_35 : decode cX9_measure 35 = .ok (.iload_n 1, 1) := by decide +kernel
theorem dX9_measure_36 : decode cX9_measure 36 = .ok (.aaload, 1) := by decide +kernel
theorem dX9_measure_37 : decode cX9_measure 37 = .ok (.astore_n 3, 1) := by decide +kernel
theorem dX9_measure_38 : decode cX9_measure 38 = .ok (.aload_n 3, 1) := by decide +kernel
theorem dX9_measure_39 : decode cX9_measure 39 = .ok (.ifnonnull 7, 3) := by decide +kernel
theorem dX9_measure_42 : decode cX9_measure 42 = .ok (.sipush (-1003), 3) := by decide +kernel
theorem dX9_measure_45 : decode cX9_measure 45 = .ok (.ireturn, 1) := by decide +kernel
theorem dX9_measure_46 : decode cX9_measure 46 = .ok (.iload_n 2, 1) := by decide +kernel
theorem dX9_measure_47 : decode cX9_measure 47 = .ok (.tableswitch 40 0 2 #[25, 30, 35], 25) := by decide +kernel
theorem dX9_measure_72 : decode cX9_measure 72 = .ok (.aload_n 3, 1) := by decide +kernel
theorem dX9_measure_73 : decode cX9_measure 73 = .ok (.getfield 146, 3) := by decide +kernel
theorem dX9_measure_76 : decode cX9_measure 76 = .ok (.ireturn, 1) := by decide +kernel
theorem dX9_measure_77 : decode cX9_measure 77 = .ok (.aload_n 3, 1) := by decide +kernel
theorem dX9_measure_78 : decode cX9_measure 78 = .ok (.invokevirtual 151, 3) := by decide +kernel
theorem dX9_measure_81 : decode cX9_measure 81 = .ok (.ireturn, 1) := by decide +kernel
theorem dX9_measure_82 : decode cX9_measure 82 = .ok (.aload_n 3, 1) := by decide +kernel
theorem dX9_measure_83 : decode cX9_measure 83 = .ok (.invokevirtual 154, 3) := by decide +kernel
theorem dX9_measure_86 : decode cX9_measure 86 = .ok (.ireturn, 1) := by decide +kernel
theorem dX9_measure_87 : decode cX9_measure 87 = .ok (.aload_n 3, 1) := by decide +kernel
theorem dX9_measure_88 : decode cX9_measure 88 = .ok (.invokevirtual 157, 3) := by decide +kernel
theorem dX9_measure_91 : decode cX9_measure 91 = .ok (.ireturn, 1) := by decide +kernel
theorem dX9_corner_0 : decode cX9_corner 0 = .ok (.aload_n 0, 1) := by decide +kernel
theorem dX9_corner_1 : decode cX9_corner 1 = .ok (.getfield 10, 3) := by decide +kernel
theorem dX9_corner_4 : decode cX9_corner 4 = .ok (.iload_n 1, 1) := by decide +kernel
theorem dX9_corner_5 : decode cX9_corner 5 = .ok (.invokevirtual 160, 3) := by decide +kernel
theorem dX9_corner_8 : decode cX9_corner 8 = .ok (.astore 4, 2) := by decide +kernel
theorem dX9_corner_10 : decode cX9_corner 10 = .ok (.aload 4, 2) := by decide +kernel
theorem dX9_corner_12 : decode cX9_corner 12 = .ok (.ifnull 18, 3) := by decide +kernel
theorem dX9_corner_15 : decode cX9_corner 15 = .ok (.iload_n 2, 1) := by decide +kernel
theorem dX9_corner_16 : decode cX9_corner 16 = .ok (.iconst 0, 1) := by decide +kernel
theorem dX9_corner_17 : decode cX9_corner 17 = .ok (.aload 4, 2) := by decide +kernel
theorem dX9_corner_19 : decode cX9_corner 19 = .ok (.invokevirtual 154, 3) := by decide +kernel
theorem dX9_corner_22 : decode cX9_corner 22 = .ok (.iconst 1, 1) := by decide +kernel
theorem dX9_corner_23 : decode cX9_corner 23 = .ok (.isub, 1) := by decide +kernel
theorem dX9_corner_24 : decode cX9_corner 24 = .ok (.invokestatic 74, 3) := by decide +kernel
theorem dX9_corner_27 : decode cX9_corner 27 = .ok (.ifCond .ne 7, 3) := by decide +kernel
theorem dX9_corner_30 : decode cX9_corner 30 = .ok (.sipush (-1001), 3) := by decide +kernel
theorem dX9_corner_33 : decode cX9_corner 33 = .ok (.ireturn, 1) := by decide +kernel
theorem dX9_corner_34 : decode cX9_corner 34 = .ok (.iload_n 3, 1) := by decide +kernel
theorem dX9_corner_35 : decode cX9_corner 35 = .ok (.iconst 0, 1) := by decide +kernel
theorem dX9_corner_36 : decode cX9_corner 36 = .ok (.iconst 1, 1) := by decide +kernel
theorem dX9_corner_37 : decode cX9_corner 37 = .ok (.invokestatic 74, 3) := by decide +kernel
theorem dX9_corner_40 : decode cX9_corner 40 = .ok (.ifCond .ne 7, 3) := by decide +kernel
theorem dX9_corner_43 : decode cX9_corner 43 = .ok (.sipush (-1002), 3) := by decide +kernel
theorem dX9_corner_46 : decode cX9_corner 46 = .ok (.ireturn, 1) := by decide +kernel
theorem dX9_corner_47 : decode cX9_corner 47 = .ok (.iload_n 3, 1) := by decide +kernel
theorem dX9_corner_48 : decode cX9_corner 48 = .ok (.ifCond .ne 13, 3) := by decide +kernel
theorem dX9_corner_51 : decode cX9_corner 51 = .ok (.aload 4, 2) := by decide +kernel
theorem dX9_corner_53 : decode cX9_corner 53 = .ok (.getfield 164, 3) := by decide +kernel
theorem dX9_corner_56 : decode cX9_corner 56 = .ok (.iload_n 2, 1) := by decide +kernel
theorem dX9_corner_57 : decode cX9_corner 57 = .ok (.iaload, 1) := by decide +kernel
theorem dX9_corner_58 : decode cX9_corner 58 = .ok (.goto 10, 3) := by decide +kernel
theorem dX9_corner_61 : decode cX9_corner 61 = .ok (.aload 4, 2) := by decide +kernel
theorem dX9_corner_63 : decode cX9_corner 63 = .ok (.getfield 168, 3) := by decide +kernel
theorem dX9_corner_66 : decode cX9_corner 66 = .ok (.iload_n 2, 1) := by decide +kernel
theorem dX9_corner_67 : decode cX9_corner 67 = .ok (.iaload, 1) := by decide +kernel
theorem dX9_corner_68 : decode cX9_corner 68 = .ok (.ireturn, 1) := by decide +kernel
theorem dX9_isOn_0 : decode cX9_isOn 0 = .ok (.aload_n 0, 1) := by decide +kernel
theorem dX9_isOn_1 : decode cX9_isOn 1 = .ok (.getfield 10, 3) := by decide +kernel
theorem dX9_isOn_4 : decode cX9_isOn 4 = .ok (.iload_n 1, 1) := by decide +kernel
theorem dX9_isOn_5 : decode cX9_isOn 5 = .ok (.invokevirtual 110, 3) := by decide +kernel
theorem dX9_isOn_8 : decode cX9_isOn 8 = .ok (.ifCond .ne 7, 3) := by decide +kernel
theorem dX9_isOn_11 : decode cX9_isOn 11 = .ok (.sipush (-1001), 3) := by decide +kernel
theorem dX9_isOn_14 : decode cX9_isOn 14 = .ok (.ireturn, 1) := by decide +kernel
theorem dX9_isOn_15 : decode cX9_isOn 15 = .ok (.aload_n 0, 1) := by decide +kernel
theorem dX9_isOn_16 : decode cX9_isOn 16 = .ok (.getfield 10, 3) := by decide +kernel
theorem dX9_isOn_19 : decode cX9_isOn 19 = .ok (.getfield 103, 3) := by decide +kernel
theorem dX9_isOn_22 : decode cX9_isOn 22 = .ok (.iload_n 1, 1) := by decide +kernel
theorem dX9_isOn_23 : decode cX9_isOn 23 = .ok (.aaload, 1) := by decide +kernel
theorem dX9_isOn_24 : decode cX9_isOn 24 = .ok (.astore 4, 2) := by decide +kernel
theorem dX9_isOn_26 : decode cX9_isOn 26 = .ok (.aload 4, 2) := by decide +kernel
theorem dX9_isOn_28 : decode cX9_isOn 28 = .ok (.ifnonnull 5, 3) := by decide +kernel
theorem dX9_isOn_31 : decode cX9_isOn 31 = .ok (.iconst 0, 1) := by decide +kernel
theorem dX9_isOn_32 : decode cX9_isOn 32 = .ok (.ireturn, 1) := by decide +kernel
theorem dX9_isOn_33 : decode cX9_isOn 33 = .ok (.aload 4, 2) := by decide +kernel
theorem dX9_isOn_35 : decode cX9_isOn 35 = .ok (.iload_n 2, 1) := by decide +kernel
theorem dX9_isOn_36 : decode cX9_isOn 36 = .ok (.iload_n 3, 1) := by decide +kernel
theorem dX9_isOn_37 : decode cX9_isOn 37 = .ok (.invokevirtual 171, 3) := by decide +kernel
theorem dX9_isOn_40 : decode cX9_isOn 40 = .ok (.ifCond .eq 5, 3) := by decide +kernel
theorem dX9_isOn_43 : decode cX9_isOn 43 = .ok (.iconst 2, 1) := by decide +kernel
theorem dX9_isOn_44 : decode cX9_isOn 44 = .ok (.ireturn, 1) := by decide +kernel
theorem dX9_isOn_45 : decode cX9_isOn 45 = .ok (.aload 4, 2) := by decide +kernel
theorem dX9_isOn_47 : decode cX9_isOn 47 = .ok (.iload_n 2, 1) := by decide +kernel
theorem dX9_isOn_48 : decode cX9_isOn 48 = .ok (.iload_n 3, 1) := by decide +kernel
theorem dX9_isOn_49 : decode cX9_isOn 49 = .ok (.invokevirtual 174, 3) := by decide +kernel
theorem dX9_isOn_52 : decode cX9_isOn 52 = .ok (.ifCond .eq 7, 3) := by decide +kernel
theorem dX9_isOn_55 : decode cX9_isOn 55 = .ok (.iconst 1, 1) := by decide +kernel
theorem dX9_isOn_56 : decode cX9_isOn 56 = .ok (.goto 4, 3) := by decide +kernel
theorem dX9_isOn_59 : decode cX9_isOn 59 = .ok (.iconst 0, 1) := by decide +kernel
theorem dX9_isOn_60 : decode cX9_isOn 60 = .ok (.ireturn, 1) := by decide +kernel
theorem dX9_crossings_0 : decode cX9_crossings 0 = .ok (.aload_n 0, 1) := by decide +kernel
theorem dX9_crossings_1 : decode cX9_crossings 1 = .ok (.getfield 10, 3) := by decide +kernel
theorem dX9_crossings_4 : decode cX9_crossings 4 = .ok (.iload_n 1, 1) := by decide +kernel
theorem dX9_crossings_5 : decode cX9_crossings 5 = .ok (.invokevirtual 110, 3) := by decide +kernel
theorem dX9_crossings_8 : decode cX9_crossings 8 = .ok (.ifCond .eq 14, 3) := by decide +kernel
theorem dX9_crossings_11 : decode cX9_crossings 11 = .ok (.aload_n 0, 1) := by decide +kernel
theorem dX9_crossings_12 : decode cX9_crossings 12 = .ok (.getfield 10, 3) := by decide +kernel
theorem dX9_crossings_15 : decode cX9_crossings 15 = .ok (.iload_n 2, 1) := by decide +kernel
theorem dX9_crossings_16 : decode cX9_crossings 16 = .ok (.invokevirtual 110, 3) := by decide +kernel
theorem dX9_crossings_19 : decode cX9_crossings 19 = .ok (.ifCond .ne 7, 3) := by decide +kernel
theorem dX9_crossings_22 : decode cX9_crossings 22 = .ok (.sipush (-1001), 3) := by decide +kernel
theorem dX9_crossings_25 : decode cX9_crossings 25 = .ok (.ireturn, 1) := by decide +kernel
theorem dX9_crossings_26 : decode cX9_crossings 26 = .ok (.iload_n 1, 1) := by decide +kernel
theorem dX9_crossings_27 : decode cX9_crossings 27 = .ok (.iload_n 2, 1) := by decide +kernel
theorem dX9_crossings_28 : decode cX9_crossings 28 = .ok (.if_icmp .ne 7, 3) := by decide +kernel
theorem dX9_crossings_31 : decode cX9_crossings 31 = .ok (.iconst 0, 1) := by decide +kernel
theorem dX9_crossings_32 : decode cX9_crossings 32 = .ok (.goto 12, 3) := by decide +kernel
theorem dX9_crossings_35 : decode cX9_crossings 35 = .ok (.aload_n 0, 1) := by decide +kernel
theorem dX9_crossings_36 : decode cX9_crossings 36 = .ok (.getfield 10, 3) := by decide +kernel
theorem dX9_crossings_39 : decode cX9_crossings 39 = .ok (.iload_n 1, 1) := by decide +kernel
theorem dX9_crossings_40 : decode cX9_crossings 40 = .ok (.iload_n 2, 1) := by decide +kernel
theorem dX9_crossings_41 : decode cX9_crossings 41 = .ok (.invokevirtual 177, 3) := by decide +kernel
theorem dX9_crossings_44 : decode cX9_crossings 44 = .ok (.ireturn, 1) := by decide +kernel
theorem dX9_shared_0 : decode cX9_shared 0 = .ok (.aload_n 0, 1) := by decide +kernel
theorem dX9_shared_1 : decode cX9_shared 1 = .ok (.getfield 10, 3) := by decide +kernel
theorem dX9_shared_4 : decode cX9_shared 4 = .ok (.iload_n 1, 1) := by decide +kernel
theorem dX9_shared_5 : decode cX9_shared 5 = .ok (.invokevirtual 110, 3) := by decide +kernel
theorem dX9_shared_8 : decode cX9_shared 8 = .ok (.ifCond .eq 14, 3) := by decide +kernel
theorem dX9_shared_11 : decode cX9_shared 11 = .ok (.aload_n 0, 1) := by decide +kernel
theorem dX9_shared_12 : decode cX9_shared 12 = .ok (.getfield 10, 3) := by decide +kernel
theorem dX9_shared_15 : decode cX9_shared 15 = .ok (.iload_n 2, 1) := by decide +kernel
theorem dX9_shared_16 : decode cX9_shared 16 = .ok (.invokevirtual 110, 3) := by decide +kernel
theorem dX9_shared_19 : decode cX9_shared 19 = .ok (.ifCond .ne 7, 3) := by decide +kernel
theorem dX9_shared_22 : decode cX9_shared 22 = .ok (.sipush (-1001), 3) := by decide +kernel
theorem dX9_shared_25 : decode cX9_shared 25 = .ok (.ireturn, 1) := by decide +kernel
theorem dX9_shared_26 : decode cX9_shared 26 = .ok (.aload_n 0, 1) := by decide +kernel
theorem dX9_shared_27 : decode cX9_shared 27 = .ok (.getfield 10, 3) := by decide +kernel
theorem dX9_shared_30 : decode cX9_shared 30 = .ok (.getfield 103, 3) := by decide +kernel
theorem dX9_shared_33 : decode cX9_shared 33 = .ok (.iload_n 1, 1) := by decide +kernel
theorem dX9_shared_34 : decode cX9_shared 34 = .ok (.aaload, 1) := by decide +kernel
theorem dX9_shared_35 : decode cX9_shared 35 = .ok (.astore_n 3, 1) := by decide +kernel
theorem dX9_shared_36 : decode cX9_shared 36 = .ok (.aload_n 0, 1) := by decide +kernel
theorem dX9_shared_37 : decode cX9_shared 37 = .ok (.getfield 10, 3) := by decide +kernel
theorem dX9_shared_40 : decode cX9_shared 40 = .ok (.getfield 103, 3) := by decide +kernel
theorem dX9_shared_43 : decode cX9_shared 43 = .ok (.iload_n 2, 1) := by decide +kernel
theorem dX9_shared_44 : decode cX9_shared 44 = .ok (.aaload, 1) := by decide +kernel
theorem dX9_shared_45 : decode cX9_shared 45 = .ok (.astore 4, 2) := by decide +kernel
theorem dX9_shared_47 : decode cX9_shared 47 = .ok (.aload_n 3, 1) := by decide +kernel
theorem dX9_shared_48 : decode cX9_shared 48 = .ok (.ifnull 8, 3) := by decide +kernel
theorem dX9_shared_51 : decode cX9_shared 51 = .ok (.aload 4, 2) := by decide +kernel
theorem dX9_shared_53 : decode cX9_shared 53 = .ok (.ifnonnull 5, 3) := by decide +kernel
theorem dX9_shared_56 : decode cX9_shared 56 = .ok (.iconst 0, 1) := by decide +kernel
theorem dX9_shared_57 : decode cX9_shared 57 = .ok (.ireturn, 1) := by decide +kernel
theorem dX9_shared_58 : decode cX9_shared 58 = .ok (.iload_n 1, 1) := by decide +kernel
theorem dX9_shared_59 : decode cX9_shared 59 = .ok (.iload_n 2, 1) := by decide +kernel
theorem dX9_shared_60 : decode cX9_shared 60 = .ok (.if_icmp .ne 10, 3) := by decide +kernel
theorem dX9_shared_63 : decode cX9_shared 63 = .ok (.aload_n 3, 1) := by decide +kernel
theorem dX9_shared_64 : decode cX9_shared 64 = .ok (.invokevirtual 151, 3) := by decide +kernel
theorem dX9_shared_67 : decode cX9_shared 67 = .ok (.goto 9, 3) := by decide +kernel
theorem dX9_shared_70 : decode cX9_shared 70 = .ok (.aload_n 3, 1) := by decide +kernel
theorem dX9_shared_71 : decode cX9_shared 71 = .ok (.aload 4, 2) := by decide +kernel
theorem dX9_shared_73 : decode cX9_shared 73 = .ok (.invokevirtual 180, 3) := by decide +kernel
theorem dX9_shared_76 : decode cX9_shared 76 = .ok (.ireturn, 1) := by decide +kernel
theorem dX9_lane_0 : decode cX9_lane 0 = .ok (.aload_n 0, 1) := by decide +kernel
theorem dX9_lane_1 : decode cX9_lane 1 = .ok (.getfield 10, 3) := by decide +kernel
theorem dX9_lane_4 : decode cX9_lane 4 = .ok (.iload_n 1, 1) := by decide +kernel
theorem dX9_lane_5 : decode cX9_lane 5 = .ok (.invokevirtual 160, 3) := by decide +kernel
theorem dX9_lane_8 : decode cX9_lane 8 = .ok (.astore 4, 2) := by decide +kernel
theorem dX9_lane_10 : decode cX9_lane 10 = .ok (.aload 4, 2) := by decide +kernel
theorem dX9_lane_12 : decode cX9_lane 12 = .ok (.ifnull 12, 3) := by decide +kernel
theorem dX9_lane_15 : decode cX9_lane 15 = .ok (.aload 4, 2) := by decide +kernel
theorem dX9_lane_17 : decode cX9_lane 17 = .ok (.iload_n 2, 1) := by decide +kernel
theorem dX9_lane_18 : decode cX9_lane 18 = .ok (.invokevirtual 184, 3) := by decide +kernel
theorem dX9_lane_21 : decode cX9_lane 21 = .ok (.ifCond .ne 7, 3) := by decide +kernel
theorem dX9_lane_24 : decode cX9_lane 24 = .ok (.sipush (-1001), 3) := by decide +kernel
theorem dX9_lane_27 : decode cX9_lane 27 = .ok (.ireturn, 1) := by decide +kernel
theorem dX9_lane_28 : decode cX9_lane 28 = .ok (.iload_n 3, 1) := by decide +kernel
theorem dX9_lane_29 : decode cX9_lane 29 = .ok (.iconst 0, 1) := by decide +kernel
theorem dX9_lane_30 : decode cX9_lane 30 = .ok (.iconst 3, 1) := by decide +kernel
theorem dX9_lane_31 : decode cX9_lane 31 = .ok (.invokestatic 74, 3) := by decide +kernel
theorem dX9_lane_34 : decode cX9_lane 34 = .ok (.ifCond .ne 7, 3) := by decide +kernel
theorem dX9_lane_37 : decode cX9_lane 37 = .ok (.sipush (-1002), 3) := by decide +kernel
theorem dX9_lane_40 : decode cX9_lane 40 = .ok (.ireturn, 1) := by decide +kernel
theorem dX9_lane_41 : decode cX9_lane 41 = .ok (.iload_n 3, 1) := by decide +kernel
theorem dX9_lane_42 : decode cX9_lane 42 = .ok (.ifCond .ne 10, 3) := by decide +kernel
theorem dX9_lane_45 : decode cX9_lane 45 = .ok (.aload 4, 2) := by decide +kernel
theorem dX9_lane_47 : decode cX9_lane 47 = .ok (.iload_n 2, 1) := by decide +kernel
theorem dX9_lane_48 : decode cX9_lane 48 = .ok (.invokevirtual 187, 3) := by decide +kernel
theorem dX9_lane_51 : decode cX9_lane 51 = .ok (.ireturn, 1) := by decide +kernel
theorem dX9_lane_52 : decode cX9_lane 52 = .ok (.aload_n 0, 1) := by decide +kernel
theorem dX9_lane_53 : decode cX9_lane 53 = .ok (.getfield 33, 3) := by decide +kernel
theorem dX9_lane_56 : decode cX9_lane 56 = .ok (.aload_n 0, 1) := by decide +kernel
theorem dX9_lane_57 : decode cX9_lane 57 = .ok (.getfield 10, 3) := by decide +kernel
theorem dX9_lane_60 : decode cX9_lane 60 = .ok (.iload_n 1, 1) := by decide +kernel
theorem dX9_lane_61 : decode cX9_lane 61 = .ok (.iload_n 2, 1) := by decide +kernel
theorem dX9_lane_62 : decode cX9_lane 62 = .ok (.invokevirtual 190, 3) := by decide +kernel
theorem dX9_lane_65 : decode cX9_lane 65 = .ok (.aload_n 0, 1) := by decide +kernel
theorem dX9_lane_66 : decode cX9_lane 66 = .ok (.getfield 33, 3) := by decide +kernel
theorem dX9_lane_69 : decode cX9_lane 69 = .ok (.invokevirtual 194, 3) := by decide +kernel
theorem dX9_lane_72 : decode cX9_lane 72 = .ok (.aload_n 0, 1) := by decide +kernel
theorem dX9_lane_73 : decode cX9_lane 73 = .ok (.getfield 33, 3) := by decide +kernel
theorem dX9_lane_76 : decode cX9_lane 76 = .ok (.invokevirtual 197, 3) := by decide +kernel
theorem dX9_lane_79 : decode cX9_lane 79 = .ok (.istore 5, 2) := by decide +kernel
theorem dX9_lane_81 : decode cX9_lane 81 = .ok (.aload_n 0, 1) := by decide +kernel
theorem dX9_lane_82 : decode cX9_lane 82 = .ok (.getfield 33, 3) := by decide +kernel
theorem dX9_lane_85 : decode cX9_lane 85 = .ok (.invokevirtual 200, 3) := by decide +kernel
theorem dX9_lane_88 : decode cX9_lane 88 = .ok (.istore 6, 2) := by decide +kernel
theorem dX9_lane_90 : decode cX9_lane 90 = .ok (.iload_n 3, 1) := by decide +kernel
theorem dX9_lane_91 : decode cX9_lane 91 = .ok (.lookupswitch 31 #[(1, 25), (2, 28)], 25) := by decide +kernel
theorem dX9_lane_116 : decode cX9_lane 116 = .ok (.iload 5, 2) := by decide +kernel
theorem dX9_lane_118 : decode cX9_lane 118 = .ok (.ireturn, 1) := by decide +kernel
theorem dX9_lane_119 : decode cX9_lane 119 = .ok (.iload 6, 2) := by decide +kernel
theorem dX9_lane_121 : decode cX9_lane 121 = .ok (.ireturn, 1) := by decide +kernel
theorem dX9_lane_122 : decode cX9_lane 122 = .ok (.bipush 20, 2) := by decide +kernel
theorem dX9_lane_124 : decode cX9_lane 124 = .ok (.aload 4, 2) := by decide +kernel
theorem dX9_lane_126 : decode cX9_lane 126 = .ok (.iload_n 2, 1) := by decide +kernel
theorem dX9_lane_127 : decode cX9_lane 127 = .ok (.invokevirtual 203, 3) := by decide +kernel
theorem dX9_lane_130 : decode cX9_lane 130 = .ok (.imul, 1) := by decide +kernel
theorem dX9_lane_131 : decode cX9_lane 131 = .ok (.iconst 2, 1) := by decide +kernel
theorem dX9_lane_132 : decode cX9_lane 132 = .ok (.iload 5, 2) := by decide +kernel
theorem dX9_lane_134 : decode cX9_lane 134 = .ok (.imul, 1) := by decide +kernel
theorem dX9_lane_135 : decode cX9_lane 135 = .ok (.iload 6, 2) := by decide +kernel
theorem dX9_lane_137 : decode cX9_lane 137 = .ok (.iconst 1, 1) := by decide +kernel
theorem dX9_lane_138 : decode cX9_lane 138 = .ok (.isub, 1) := by decide +kernel
theorem dX9_lane_139 : decode cX9_lane 139 = .ok (.isub, 1) := by decide +kernel
theorem dX9_lane_140 : decode cX9_lane 140 = .ok (.iconst 4, 1) := by decide +kernel
theorem dX9_lane_141 : decode cX9_lane 141 = .ok (.imul, 1) := by decide +kernel
theorem dX9_lane_142 : decode cX9_lane 142 = .ok (.iadd, 1) := by decide +kernel
theorem dX9_lane_143 : decode cX9_lane 143 = .ok (.ireturn, 1) := by decide +kernel
theorem dX9_write_0 : decode cX9_write 0 = .ok (.aload_n 0, 1) := by decide +kernel
theorem dX9_write_1 : decode cX9_write 1 = .ok (.getfield 10, 3) := by decide +kernel
theorem dX9_write_4 : decode cX9_write 4 = .ok (.iload_n 1, 1) := by decide +kernel
theorem dX9_write_5 : decode cX9_write 5 = .ok (.invokevirtual 110, 3) := by decide +kernel
theorem dX9_write_8 : decode cX9_write 8 = .ok (.ifCond .ne 7, 3) := by decide +kernel
theorem dX9_write_11 : decode cX9_write 11 = .ok (.sipush (-1001), 3) := by decide +kernel
theorem dX9_write_14 : decode cX9_write 14 = .ok (.ireturn, 1) := by decide +kernel
theorem dX9_write_15 : decode cX9_write 15 = .ok (.aload_n 0, 1) := by decide +kernel
theorem dX9_write_16 : decode cX9_write 16 = .ok (.getfield 10, 3) := by decide +kernel
theorem dX9_write_19 : decode cX9_write 19 = .ok (.getfield 103, 3) := by decide +kernel
theorem dX9_write_22 : decode cX9_write 22 = .ok (.iload_n 1, 1) := by decide +kernel
theorem dX9_write_23 : decode cX9_write 23 = .ok (.aaload, 1) := by decide +kernel
theorem dX9_write_24 : decode cX9_write 24 = .ok (.astore_n 2, 1) := by decide +kernel
theorem dX9_write_25 : decode cX9_write 25 = .ok (.aload_n 2, 1) := by decide +kernel
theorem dX9_write_26 : decode cX9_write 26 = .ok (.ifnonnull 7, 3) := by decide +kernel
theorem dX9_write_29 : decode cX9_write 29 = .ok (.sipush (-1003), 3) := by decide +kernel
theorem dX9_write_32 : decode cX9_write 32 = .ok (.ireturn, 1) := by decide +kernel
theorem dX9_write_33 : decode cX9_write 33 = .ok (.aload_n 0, 1) := by decide +kernel
theorem dX9_write_34 : decode cX9_write 34 = .ok (.getfield 47, 3) := by decide +kernel
theorem dX9_write_37 : decode cX9_write 37 = .ok (.iconst 0, 1) := by decide +kernel
theorem dX9_write_38 : decode cX9_write 38 = .ok (.invokevirtual 206, 3) := by decide +kernel
theorem dX9_write_41 : decode cX9_write 41 = .ok (.iconst 0, 1) := by decide +kernel
theorem dX9_write_42 : decode cX9_write 42 = .ok (.istore_n 3, 1) := by decide +kernel
theorem dX9_write_43 : decode cX9_write 43 = .ok (.iload_n 3, 1) := by decide +kernel
theorem dX9_write_44 : decode cX9_write 44 = .ok (.aload_n 2, 1) := by decide +kernel
theorem dX9_write_45 : decode cX9_write 45 = .ok (.invokevirtual 154, 3) := by decide +kernel
theorem dX9_write_48 : decode cX9_write 48 = .ok (.if_icmp .ge 100, 3) := by decide +kernel
theorem dX9_write_51 : decode cX9_write 51 = .ok (.iload_n 3, 1) := by decide +kernel
theorem dX9_write_52 : decode cX9_write 52 = .ok (.ifCond .ne 39, 3) := by decide +kernel
theorem dX9_write_55 : decode cX9_write 55 = .ok (.aload_n 0, 1) := by decide +kernel
theorem dX9_write_56 : decode cX9_write 56 = .ok (.getfield 47, 3) := by decide +kernel
theorem dX9_write_59 : decode cX9_write 59 = .ok (.bipush 77, 2) := by decide +kernel
theorem dX9_write_61 : decode cX9_write 61 = .ok (.invokevirtual 209, 3) := by decide +kernel
theorem dX9_write_64 : decode cX9_write 64 = .ok (.aload_n 2, 1) := by decide +kernel
theorem dX9_write_65 : decode cX9_write 65 = .ok (.getfield 164, 3) := by decide +kernel
theorem dX9_write_68 : decode cX9_write 68 = .ok (.iload_n 3, 1) := by decide +kernel
theorem dX9_write_69 : decode cX9_write 69 = .ok (.iaload, 1) := by decide +kernel
theorem dX9_write_70 : decode cX9_write 70 = .ok (.invokevirtual 213, 3) := by decide +kernel
theorem dX9_write_73 : decode cX9_write 73 = .ok (.bipush 44, 2) := by decide +kernel
theorem dX9_write_75 : decode cX9_write 75 = .ok (.invokevirtual 209, 3) := by decide +kernel
theorem dX9_write_78 : decode cX9_write 78 = .ok (.aload_n 2, 1) := by decide +kernel
theorem dX9_write_79 : decode cX9_write 79 = .ok (.getfield 168, 3) := by decide +kernel
theorem dX9_write_82 : decode cX9_write 82 = .ok (.iload_n 3, 1) := by decide +kernel
theorem dX9_write_83 : decode cX9_write 83 = .ok (.iaload, 1) := by decide +kernel
theorem dX9_write_84 : decode cX9_write 84 = .ok (.invokevirtual 213, 3) := by decide +kernel
theorem dX9_write_87 : decode cX9_write 87 = .ok (.pop, 1) := by decide +kernel
theorem dX9_write_88 : decode cX9_write 88 = .ok (.goto 54, 3) := by decide +kernel
theorem dX9_write_91 : decode cX9_write 91 = .ok (.aload_n 2, 1) := by decide +kernel
theorem dX9_write_92 : decode cX9_write 92 = .ok (.iload_n 3, 1) := by decide +kernel
theorem dX9_write_93 : decode cX9_write 93 = .ok (.iconst 1, 1) := by decide +kernel
theorem dX9_write_94 : decode cX9_write 94 = .ok (.isub, 1) := by decide +kernel
theorem dX9_write_95 : decode cX9_write 95 = .ok (.invokevirtual 216, 3) := by decide +kernel
theorem dX9_write_98 : decode cX9_write 98 = .ok (.ifCond .eq 25, 3) := by decide +kernel
theorem dX9_write_101 : decode cX9_write 101 = .ok (.aload_n 0, 1) := by decide +kernel
theorem dX9_write_102 : decode cX9_write 102 = .ok (.getfield 47, 3) := by decide +kernel
theorem dX9_write_105 : decode cX9_write 105 = .ok (.bipush 72, 2) := by decide +kernel
theorem dX9_write_107 : decode cX9_write 107 = .ok (.invokevirtual 209, 3) := by decide +kernel
theorem dX9_write_110 : decode cX9_write 110 = .ok (.aload_n 2, 1) := by decide +kernel
theorem dX9_write_111 : decode cX9_write 111 = .ok (.getfield 164, 3) := by decide +kernel
theorem dX9_write_114 : decode cX9_write 114 = .ok (.iload_n 3, 1) := by decide +kernel
theorem dX9_write_115 : decode cX9_write 115 = .ok (.iaload, 1) := by decide +kernel
theorem dX9_write_116 : decode cX9_write 116 = .ok (.invokevirtual 213, 3) := by decide +kernel
theorem dX9_write_119 : decode cX9_write 119 = .ok (.pop, 1) := by decide +kernel
theorem dX9_write_120 : decode cX9_write 120 = .ok (.goto 22, 3) := by decide +kernel
theorem dX9_write_123 : decode cX9_write 123 = .ok (.aload_n 0, 1) := by decide +kernel
theorem dX9_write_124 : decode cX9_write 124 = .ok (.getfield 47, 3) := by decide +kernel
theorem dX9_write_127 : decode cX9_write 127 = .ok (.bipush 86, 2) := by decide +kernel
theorem dX9_write_129 : decode cX9_write 129 = .ok (.invokevirtual 209, 3) := by decide +kernel
theorem dX9_write_132 : decode cX9_write 132 = .ok (.aload_n 2, 1) := by decide +kernel
theorem dX9_write_133 : decode cX9_write 133 = .ok (.getfield 168, 3) := by decide +kernel
theorem dX9_write_136 : decode cX9_write 136 = .ok (.iload_n 3, 1) := by decide +kernel
theorem dX9_write_137 : decode cX9_write 137 = .ok (.iaload, 1) := by decide +kernel
theorem dX9_write_138 : decode cX9_write 138 = .ok (.invokevirtual 213, 3) := by decide +kernel
theorem dX9_write_141 : decode cX9_write 141 = .ok (.pop, 1) := by decide +kernel
theorem dX9_write_142 : decode cX9_write 142 = .ok (.iinc 3 1, 3) := by decide +kernel
theorem dX9_write_145 : decode cX9_write 145 = .ok (.goto (-102), 3) := by decide +kernel
theorem dX9_write_148 : decode cX9_write 148 = .ok (.aload_n 0, 1) := by decide +kernel
theorem dX9_write_149 : decode cX9_write 149 = .ok (.getfield 47, 3) := by decide +kernel
theorem dX9_write_152 : decode cX9_write 152 = .ok (.invokevirtual 219, 3) := by decide +kernel
theorem dX9_write_155 : decode cX9_write 155 = .ok (.ireturn, 1) := by decide +kernel
theorem dX9_written_0 : decode cX9_written 0 = .ok (.iload_n 1, 1) := by decide +kernel
theorem dX9_written_1 : decode cX9_written 1 = .ok (.iconst 0, 1) := by decide +kernel
theorem dX9_written_2 : decode cX9_written 2 = .ok (.aload_n 0, 1) := by decide +kernel
theorem dX9_written_3 : decode cX9_written 3 = .ok (.getfield 47, 3) := by decide +kernel
theorem dX9_written_6 : decode cX9_written 6 = .ok (.invokevirtual 219, 3) := by decide +kernel
theorem dX9_written_9 : decode cX9_written 9 = .ok (.iconst 1, 1) := by decide +kernel
theorem dX9_written_10 : decode cX9_written 10 = .ok (.isub, 1) := by decide +kernel
theorem dX9_written_11 : decode cX9_written 11 = .ok (.invokestatic 74, 3) := by decide +kernel
theorem dX9_written_14 : decode cX9_written 14 = .ok (.ifCond .ne 7, 3) := by decide +kernel
theorem dX9_written_17 : decode cX9_written 17 = .ok (.sipush (-1001), 3) := by decide +kernel
theorem dX9_written_20 : decode cX9_written 20 = .ok (.ireturn, 1) := by decide +kernel
theorem dX9_written_21 : decode cX9_written 21 = .ok (.aload_n 0, 1) := by decide +kernel
theorem dX9_written_22 : decode cX9_written 22 = .ok (.getfield 47, 3) := by decide +kernel
theorem dX9_written_25 : decode cX9_written 25 = .ok (.iload_n 1, 1) := by decide +kernel
theorem dX9_written_26 : decode cX9_written 26 = .ok (.invokevirtual 220, 3) := by decide +kernel
theorem dX9_written_29 : decode cX9_written 29 = .ok (.ireturn, 1) := by decide +kernel
theorem dX9_type_0 : decode cX9_type 0 = .ok (.iload_n 1, 1) := by decide +kernel
theorem dX9_type_1 : decode cX9_type 1 = .ok (.iconst 0, 1) := by decide +kernel
theorem dX9_type_2 : decode cX9_type 2 = .ok (.sipush 255, 3) := by decide +kernel
theorem dX9_type_5 : decode cX9_type 5 = .ok (.invokestatic 74, 3) := by decide +kernel
theorem dX9_type_8 : decode cX9_type 8 = .ok (.ifCond .ne 7, 3) := by decide +kernel
theorem dX9_type_11 : decode cX9_type 11 = .ok (.sipush (-1002), 3) := by decide +kernel
theorem dX9_type_14 : decode cX9_type 14 = .ok (.ireturn, 1) := by decide +kernel
theorem dX9_type_15 : decode cX9_type 15 = .ok (.aload_n 0, 1) := by decide +kernel
theorem dX9_type_16 : decode cX9_type 16 = .ok (.getfield 40, 3) := by decide +kernel
theorem dX9_type_19 : decode cX9_type 19 = .ok (.getfield 224, 3) := by decide +kernel
theorem dX9_type_22 : decode cX9_type 22 = .ok (.bipush 120, 2) := by decide +kernel
theorem dX9_type_24 : decode cX9_type 24 = .ok (.if_icmp .lt 7, 3) := by decide +kernel
theorem dX9_type_27 : decode cX9_type 27 = .ok (.sipush (-1004), 3) := by decide +kernel
theorem dX9_type_30 : decode cX9_type 30 = .ok (.ireturn, 1) := by decide +kernel
theorem dX9_type_31 : decode cX9_type 31 = .ok (.aload_n 0, 1) := by decide +kernel
theorem dX9_type_32 : decode cX9_type 32 = .ok (.getfield 40, 3) := by decide +kernel
theorem dX9_type_35 : decode cX9_type 35 = .ok (.iload_n 1, 1) := by decide +kernel
theorem dX9_type_36 : decode cX9_type 36 = .ok (.invokevirtual 226, 3) := by decide +kernel
theorem dX9_type_39 : decode cX9_type 39 = .ok (.aload_n 0, 1) := by decide +kernel
theorem dX9_type_40 : decode cX9_type 40 = .ok (.getfield 40, 3) := by decide +kernel
theorem dX9_type_43 : decode cX9_type 43 = .ok (.getfield 224, 3) := by decide +kernel
theorem dX9_type_46 : decode cX9_type 46 = .ok (.ireturn, 1) := by decide +kernel
theorem dX9_clearText_0 : decode cX9_clearText 0 = .ok (.aload_n 0, 1) := by decide +kernel
theorem dX9_clearText_1 : decode cX9_clearText 1 = .ok (.getfield 40, 3) := by decide +kernel
theorem dX9_clearText_4 : decode cX9_clearText 4 = .ok (.getfield 224, 3) := by decide +kernel
theorem dX9_clearText_7 : decode cX9_clearText 7 = .ok (.istore_n 1, 1) := by decide +kernel
theorem dX9_clearText_8 : decode cX9_clearText 8 = .ok (.aload_n 0, 1) := by decide +kernel
theorem dX9_clearText_9 : decode cX9_clearText 9 = .ok (.getfield 40, 3) := by decide +kernel
theorem dX9_clearText_12 : decode cX9_clearText 12 = .ok (.iconst 0, 1) := by decide +kernel
theorem dX9_clearText_13 : decode cX9_clearText 13 = .ok (.putfield 224, 3) := by decide +kernel
theorem dX9_clearText_16 : decode cX9_clearText 16 = .ok (.iload_n 1, 1) := by decide +kernel
theorem dX9_clearText_17 : decode cX9_clearText 17 = .ok (.ireturn, 1) := by decide +kernel
theorem dX9_textFault_0 : decode cX9_textFault 0 = .ok (.aload_n 0, 1) := by decide +kernel
theorem dX9_textFault_1 : decode cX9_textFault 1 = .ok (.getfield 40, 3) := by decide +kernel
theorem dX9_textFault_4 : decode cX9_textFault 4 = .ok (.invokevirtual 228, 3) := by decide +kernel
theorem dX9_textFault_7 : decode cX9_textFault 7 = .ok (.ireturn, 1) := by decide +kernel
theorem dX9_run_0 : decode cX9_run 0 = .ok (.aload_n 0, 1) := by decide +kernel
theorem dX9_run_1 : decode cX9_run 1 = .ok (.getfield 40, 3) := by decide +kernel
theorem dX9_run_4 : decode cX9_run 4 = .ok (.invokevirtual 228, 3) := by decide +kernel
theorem dX9_run_7 : decode cX9_run 7 = .ok (.sipush (-1000), 3) := by decide +kernel
theorem dX9_run_10 : decode cX9_run 10 = .ok (.if_icmp .eq 7, 3) := by decide +kernel
theorem dX9_run_13 : decode cX9_run 13 = .ok (.sipush (-1003), 3) := by decide +kernel
theorem dX9_run_16 : decode cX9_run 16 = .ok (.ireturn, 1) := by decide +kernel
theorem dX9_run_17 : decode cX9_run 17 = .ok (.aload_n 0, 1) := by decide +kernel
theorem dX9_run_18 : decode cX9_run 18 = .ok (.invokevirtual 63, 3) := by decide +kernel
theorem dX9_run_21 : decode cX9_run 21 = .ok (.aload_n 0, 1) := by decide +kernel
theorem dX9_run_22 : decode cX9_run 22 = .ok (.iconst 1, 1) := by decide +kernel
theorem dX9_run_23 : decode cX9_run 23 = .ok (.putfield 231, 3) := by decide +kernel
theorem dX9_run_26 : decode cX9_run 26 = .ok (.iconst 0, 1) := by decide +kernel
theorem dX9_run_27 : decode cX9_run 27 = .ok (.istore_n 1, 1) := by decide +kernel
theorem dX9_run_28 : decode cX9_run 28 = .ok (.aload_n 0, 1) := by decide +kernel
theorem dX9_run_29 : decode cX9_run 29 = .ok (.getfield 40, 3) := by decide +kernel
theorem dX9_run_32 : decode cX9_run 32 = .ok (.invokevirtual 235, 3) := by decide +kernel
theorem dX9_run_35 : decode cX9_run 35 = .ok (.iconst 0, 1) := by decide +kernel
theorem dX9_run_36 : decode cX9_run 36 = .ok (.istore_n 2, 1) := by decide +kernel
theorem dX9_run_37 : decode cX9_run 37 = .ok (.iload_n 2, 1) := by decide +kernel
theorem dX9_run_38 : decode cX9_run 38 = .ok (.bipush 120, 2) := by decide +kernel
theorem dX9_run_40 : decode cX9_run 40 = .ok (.if_icmp .ge 49, 3) := by decide +kernel
theorem dX9_run_43 : decode cX9_run 43 = .ok (.aload_n 0, 1) := by decide +kernel
theorem dX9_run_44 : decode cX9_run 44 = .ok (.getfield 40, 3) := by decide +kernel
theorem dX9_run_47 : decode cX9_run 47 = .ok (.invokevirtual 238, 3) := by decide +kernel
theorem dX9_run_50 : decode cX9_run 50 = .ok (.ifCond .eq 39, 3) := by decide +kernel
theorem dX9_run_53 : decode cX9_run 53 = .ok (.aload_n 0, 1) := by decide +kernel
theorem dX9_run_54 : decode cX9_run 54 = .ok (.aload_n 0, 1) := by decide +kernel
theorem dX9_run_55 : decode cX9_run 55 = .ok (.getfield 40, 3) := by decide +kernel
theorem dX9_run_58 : decode cX9_run 58 = .ok (.getfield 242, 3) := by decide +kernel
theorem dX9_run_61 : decode cX9_run 61 = .ok (.aload_n 0, 1) := by decide +kernel
theorem dX9_run_62 : decode cX9_run 62 = .ok (.getfield 40, 3) := by decide +kernel
theorem dX9_run_65 : decode cX9_run 65 = .ok (.getfield 245, 3) := by decide +kernel
theorem dX9_run_68 : decode cX9_run 68 = .ok (.invokevirtual 248, 3) := by decide +kernel
theorem dX9_run_71 : decode cX9_run 71 = .ok (.invokestatic 252, 3) := by decide +kernel
theorem dX9_run_74 : decode cX9_run 74 = .ok (.ifCond .eq 6, 3) := by decide +kernel
theorem dX9_run_77 : decode cX9_run 77 = .ok (.goto 12, 3) := by decide +kernel
theorem dX9_run_80 : decode cX9_run 80 = .ok (.iinc 1 1, 3) := by decide +kernel
theorem dX9_run_83 : decode cX9_run 83 = .ok (.iinc 2 1, 3) := by decide +kernel
theorem dX9_run_86 : decode cX9_run 86 = .ok (.goto (-49), 3) := by decide +kernel
theorem dX9_run_89 : decode cX9_run 89 = .ok (.aload_n 0, 1) := by decide +kernel
theorem dX9_run_90 : decode cX9_run 90 = .ok (.iconst 0, 1) := by decide +kernel
theorem dX9_run_91 : decode cX9_run 91 = .ok (.putfield 231, 3) := by decide +kernel
theorem dX9_run_94 : decode cX9_run 94 = .ok (.iload_n 1, 1) := by decide +kernel
theorem dX9_run_95 : decode cX9_run 95 = .ok (.ireturn, 1) := by decide +kernel
theorem dX9_undo_0 : decode cX9_undo 0 = .ok (.aload_n 0, 1) := by decide +kernel
theorem dX9_undo_1 : decode cX9_undo 1 = .ok (.getfield 19, 3) := by decide +kernel
theorem dX9_undo_4 : decode cX9_undo 4 = .ok (.getfield 255, 3) := by decide +kernel
theorem dX9_undo_7 : decode cX9_undo 7 = .ok (.ifCond .ne 7, 3) := by decide +kernel
theorem dX9_undo_10 : decode cX9_undo 10 = .ok (.sipush (-1003), 3) := by decide +kernel
theorem dX9_undo_13 : decode cX9_undo 13 = .ok (.ireturn, 1) := by decide +kernel
theorem dX9_undo_14 : decode cX9_undo 14 = .ok (.aload_n 0, 1) := by decide +kernel
theorem dX9_undo_15 : decode cX9_undo 15 = .ok (.getfield 19, 3) := by decide +kernel
theorem dX9_undo_18 : decode cX9_undo 18 = .ok (.aload_n 0, 1) := by decide +kernel
theorem dX9_undo_19 : decode cX9_undo 19 = .ok (.getfield 10, 3) := by decide +kernel
theorem dX9_undo_22 : decode cX9_undo 22 = .ok (.invokevirtual 258, 3) := by decide +kernel
theorem dX9_undo_25 : decode cX9_undo 25 = .ok (.aload_n 0, 1) := by decide +kernel
theorem dX9_undo_26 : decode cX9_undo 26 = .ok (.getfield 19, 3) := by decide +kernel
theorem dX9_undo_29 : decode cX9_undo 29 = .ok (.getfield 255, 3) := by decide +kernel
theorem dX9_undo_32 : decode cX9_undo 32 = .ok (.ireturn, 1) := by decide +kernel
theorem dX9_digest_0 : decode cX9_digest 0 = .ok (.ldc2_w 262, 3) := by decide +kernel
theorem dX9_digest_3 : decode cX9_digest 3 = .ok (.aload_n 0, 1) := by decide +kernel
theorem dX9_digest_4 : decode cX9_digest 4 = .ok (.getfield 10, 3) := by decide +kernel
theorem dX9_digest_7 : decode cX9_digest 7 = .ok (.getfield 59, 3) := by decide +kernel
theorem dX9_digest_10 : decode cX9_digest 10 = .ok (.i2l, 1) := by decide +kernel
theorem dX9_digest_11 : decode cX9_digest 11 = .ok (.ladd, 1) := by decide +kernel
theorem dX9_digest_12 : decode cX9_digest 12 = .ok (.lstore_n 1, 1) := by decide +kernel
theorem dX9_digest_13 : decode cX9_digest 13 = .ok (.iconst 0, 1) := by decide +kernel
theorem dX9_digest_14 : decode cX9_digest 14 = .ok (.istore_n 3, 1) := by decide +kernel
theorem dX9_digest_15 : decode cX9_digest 15 = .ok (.iload_n 3, 1) := by decide +kernel
theorem dX9_digest_16 : decode cX9_digest 16 = .ok (.aload_n 0, 1) := by decide +kernel
theorem dX9_digest_17 : decode cX9_digest 17 = .ok (.getfield 10, 3) := by decide +kernel
theorem dX9_digest_20 : decode cX9_digest 20 = .ok (.getfield 59, 3) := by decide +kernel
theorem dX9_digest_23 : decode cX9_digest 23 = .ok (.if_icmp .ge 42, 3) := by decide +kernel
theorem dX9_digest_26 : decode cX9_digest 26 = .ok (.iconst 0, 1) := by decide +kernel
theorem dX9_digest_27 : decode cX9_digest 27 = .ok (.istore 4, 2) := by decide +kernel
theorem dX9_digest_29 : decode cX9_digest 29 = .ok (.iload 4, 2) := by decide +kernel
theorem dX9_digest_31 : decode cX9_digest 31 = .ok (.iconst 4, 1) := by decide +kernel
theorem dX9_digest_32 : decode cX9_digest 32 = .ok (.if_icmp .ge 27, 3) := by decide +kernel
theorem dX9_digest_35 : decode cX9_digest 35 = .ok (.ldc2_w 264, 3) := by decide +kernel
theorem dX9_digest_38 : decode cX9_digest 38 = .ok (.lload_n 1, 1) := by decide +kernel
theorem dX9_digest_39 : decode cX9_digest 39 = .ok (.lmul, 1) := by decide +kernel
theorem dX9_digest_40 : decode cX9_digest 40 = .ok (.aload_n 0, 1) := by decide +kernel
theorem dX9_digest_41 : decode cX9_digest 41 = .ok (.getfield 10, 3) := by decide +kernel
theorem dX9_digest_44 : decode cX9_digest 44 = .ok (.iload_n 3, 1) := by decide +kernel
theorem dX9_digest_45 : decode cX9_digest 45 = .ok (.iload 4, 2) := by decide +kernel
theorem dX9_digest_47 : decode cX9_digest 47 = .ok (.invokevirtual 78, 3) := by decide +kernel
theorem dX9_digest_50 : decode cX9_digest 50 = .ok (.i2l, 1) := by decide +kernel
theorem dX9_digest_51 : decode cX9_digest 51 = .ok (.ladd, 1) := by decide +kernel
theorem dX9_digest_52 : decode cX9_digest 52 = .ok (.lstore_n 1, 1) := by decide +kernel
theorem dX9_digest_53 : decode cX9_digest 53 = .ok (.iinc 4 1, 3) := by decide +kernel
theorem dX9_digest_56 : decode cX9_digest 56 = .ok (.goto (-27), 3) := by decide +kernel
theorem dX9_digest_59 : decode cX9_digest 59 = .ok (.iinc 3 1, 3) := by decide +kernel
theorem dX9_digest_62 : decode cX9_digest 62 = .ok (.goto (-47), 3) := by decide +kernel
theorem dX9_digest_65 : decode cX9_digest 65 = .ok (.ldc2_w 264, 3) := by decide +kernel
theorem dX9_digest_68 : decode cX9_digest 68 = .ok (.lload_n 1, 1) := by decide +kernel
theorem dX9_digest_69 : decode cX9_digest 69 = .ok (.lmul, 1) := by decide +kernel
theorem dX9_digest_70 : decode cX9_digest 70 = .ok (.aload_n 0, 1) := by decide +kernel
theorem dX9_digest_71 : decode cX9_digest 71 = .ok (.getfield 10, 3) := by decide +kernel
theorem dX9_digest_74 : decode cX9_digest 74 = .ok (.getfield 117, 3) := by decide +kernel
theorem dX9_digest_77 : decode cX9_digest 77 = .ok (.i2l, 1) := by decide +kernel
theorem dX9_digest_78 : decode cX9_digest 78 = .ok (.ladd, 1) := by decide +kernel
theorem dX9_digest_79 : decode cX9_digest 79 = .ok (.lstore_n 1, 1) := by decide +kernel
theorem dX9_digest_80 : decode cX9_digest 80 = .ok (.ldc2_w 264, 3) := by decide +kernel
theorem dX9_digest_83 : decode cX9_digest 83 = .ok (.lload_n 1, 1) := by decide +kernel
theorem dX9_digest_84 : decode cX9_digest 84 = .ok (.lmul, 1) := by decide +kernel
theorem dX9_digest_85 : decode cX9_digest 85 = .ok (.aload_n 0, 1) := by decide +kernel
theorem dX9_digest_86 : decode cX9_digest 86 = .ok (.getfield 10, 3) := by decide +kernel
theorem dX9_digest_89 : decode cX9_digest 89 = .ok (.getfield 100, 3) := by decide +kernel
theorem dX9_digest_92 : decode cX9_digest 92 = .ok (.i2l, 1) := by decide +kernel
theorem dX9_digest_93 : decode cX9_digest 93 = .ok (.ladd, 1) := by decide +kernel
theorem dX9_digest_94 : decode cX9_digest 94 = .ok (.lstore_n 1, 1) := by decide +kernel
theorem dX9_digest_95 : decode cX9_digest 95 = .ok (.iconst 0, 1) := by decide +kernel
theorem dX9_digest_96 : decode cX9_digest 96 = .ok (.istore_n 3, 1) := by decide +kernel
theorem dX9_digest_97 : decode cX9_digest 97 = .ok (.iload_n 3, 1) := by decide +kernel
theorem dX9_digest_98 : decode cX9_digest 98 = .ok (.aload_n 0, 1) := by decide +kernel
theorem dX9_digest_99 : decode cX9_digest 99 = .ok (.getfield 10, 3) := by decide +kernel
theorem dX9_digest_102 : decode cX9_digest 102 = .ok (.getfield 100, 3) := by decide +kernel
theorem dX9_digest_105 : decode cX9_digest 105 = .ok (.if_icmp .ge 80, 3) := by decide +kernel
theorem dX9_digest_108 : decode cX9_digest 108 = .ok (.iconst 0, 1) := by decide +kernel
theorem dX9_digest_109 : decode cX9_digest 109 = .ok (.istore 4, 2) := by decide +kernel
theorem dX9_digest_111 : decode cX9_digest 111 = .ok (.iload 4, 2) := by decide +kernel
theorem dX9_digest_113 : decode cX9_digest 113 = .ok (.bipush 6, 2) := by decide +kernel
theorem dX9_digest_115 : decode cX9_digest 115 = .ok (.if_icmp .ge 27, 3) := by decide +kernel
theorem dX9_digest_118 : decode cX9_digest 118 = .ok (.ldc2_w 264, 3) := by decide +kernel
theorem dX9_digest_121 : decode cX9_digest 121 = .ok (.lload_n 1, 1) := by decide +kernel
theorem dX9_digest_122 : decode cX9_digest 122 = .ok (.lmul, 1) := by decide +kernel
theorem dX9_digest_123 : decode cX9_digest 123 = .ok (.aload_n 0, 1) := by decide +kernel
theorem dX9_digest_124 : decode cX9_digest 124 = .ok (.getfield 10, 3) := by decide +kernel
theorem dX9_digest_127 : decode cX9_digest 127 = .ok (.iload_n 3, 1) := by decide +kernel
theorem dX9_digest_128 : decode cX9_digest 128 = .ok (.iload 4, 2) := by decide +kernel
theorem dX9_digest_130 : decode cX9_digest 130 = .ok (.invokevirtual 135, 3) := by decide +kernel
theorem dX9_digest_133 : decode cX9_digest 133 = .ok (.i2l, 1) := by decide +kernel
theorem dX9_digest_134 : decode cX9_digest 134 = .ok (.ladd, 1) := by decide +kernel
theorem dX9_digest_135 : decode cX9_digest 135 = .ok (.lstore_n 1, 1) := by decide +kernel
theorem dX9_digest_136 : decode cX9_digest 136 = .ok (.iinc 4 1, 3) := by decide +kernel
theorem dX9_digest_139 : decode cX9_digest 139 = .ok (.goto (-28), 3) := by decide +kernel
theorem dX9_digest_142 : decode cX9_digest 142 = .ok (.aload_n 0, 1) := by decide +kernel
theorem dX9_digest_143 : decode cX9_digest 143 = .ok (.getfield 10, 3) := by decide +kernel
theorem dX9_digest_146 : decode cX9_digest 146 = .ok (.getfield 103, 3) := by decide +kernel
theorem dX9_digest_149 : decode cX9_digest 149 = .ok (.iload_n 3, 1) := by decide +kernel
theorem dX9_digest_150 : decode cX9_digest 150 = .ok (.aaload, 1) := by decide +kernel
theorem dX9_digest_151 : decode cX9_digest 151 = .ok (.astore 4, 2) := by decide +kernel
theorem dX9_digest_153 : decode cX9_digest 153 = .ok (.aload 4, 2) := by decide +kernel
theorem dX9_digest_155 : decode cX9_digest 155 = .ok (.ifnonnull 11, 3) := by decide +kernel
theorem dX9_digest_158 : decode cX9_digest 158 = .ok (.ldc2_w 264, 3) := by decide +kernel
theorem dX9_digest_161 : decode cX9_digest 161 = .ok (.lload_n 1, 1) := by decide +kernel
theorem dX9_digest_162 : decode cX9_digest 162 = .ok (.lmul, 1) := by decide +kernel
theorem dX9_digest_163 : decode cX9_digest 163 = .ok (.goto 15, 3) := by decide +kernel
theorem dX9_digest_166 : decode cX9_digest 166 = .ok (.aload 4, 2) := by decide +kernel
theorem dX9_digest_168 : decode cX9_digest 168 = .ok (.ldc2_w 264, 3) := by decide +kernel
theorem dX9_digest_171 : decode cX9_digest 171 = .ok (.lload_n 1, 1) := by decide +kernel
theorem dX9_digest_172 : decode cX9_digest 172 = .ok (.lmul, 1) := by decide +kernel
theorem dX9_digest_173 : decode cX9_digest 173 = .ok (.lconst 1, 1) := by decide +kernel
theorem dX9_digest_174 : decode cX9_digest 174 = .ok (.ladd, 1) := by decide +kernel
theorem dX9_digest_175 : decode cX9_digest 175 = .ok (.invokevirtual 266, 3) := by decide +kernel
theorem dX9_digest_178 : decode cX9_digest 178 = .ok (.lstore_n 1, 1) := by decide +kernel
theorem dX9_digest_179 : decode cX9_digest 179 = .ok (.iinc 3 1, 3) := by decide +kernel
theorem dX9_digest_182 : decode cX9_digest 182 = .ok (.goto (-85), 3) := by decide +kernel
theorem dX9_digest_185 : decode cX9_digest 185 = .ok (.lload_n 1, 1) := by decide +kernel
theorem dX9_digest_186 : decode cX9_digest 186 = .ok (.lreturn, 1) := by decide +kernel
theorem dX9_isWithin_0 : decode cX9_isWithin 0 = .ok (.iload_n 0, 1) := by decide +kernel
theorem dX9_isWithin_1 : decode cX9_isWithin 1 = .ok (.iload_n 1, 1) := by decide +kernel
theorem dX9_isWithin_2 : decode cX9_isWithin 2 = .ok (.if_icmp .lt 12, 3) := by decide +kernel
theorem dX9_isWithin_5 : decode cX9_isWithin 5 = .ok (.iload_n 0, 1) := by decide +kernel
theorem dX9_isWithin_6 : decode cX9_isWithin 6 = .ok (.iload_n 2, 1) := by decide +kernel
theorem dX9_isWithin_7 : decode cX9_isWithin 7 = .ok (.if_icmp .gt 7, 3) := by decide +kernel
theorem dX9_isWithin_10 : decode cX9_isWithin 10 = .ok (.iconst 1, 1) := by decide +kernel
theorem dX9_isWithin_11 : decode cX9_isWithin 11 = .ok (.goto 4, 3) := by decide +kernel
theorem dX9_isWithin_14 : decode cX9_isWithin 14 = .ok (.iconst 0, 1) := by decide +kernel
theorem dX9_isWithin_15 : decode cX9_isWithin 15 = .ok (.ireturn, 1) := by decide +kernel
theorem dX9_isError_0 : decode cX9_isError 0 = .ok (.iload_n 0, 1) := by decide +kernel
theorem dX9_isError_1 : decode cX9_isError 1 = .ok (.sipush (-1000), 3) := by decide +kernel
theorem dX9_isError_4 : decode cX9_isError 4 = .ok (.if_icmp .ge 7, 3) := by decide +kernel
theorem dX9_isError_7 : decode cX9_isError 7 = .ok (.iconst 1, 1) := by decide +kernel
theorem dX9_isError_8 : decode cX9_isError 8 = .ok (.goto 4, 3) := by decide +kernel
theorem dX9_isError_11 : decode cX9_isError 11 = .ok (.iconst 0, 1) := by decide +kernel
theorem dX9_isError_12 : decode cX9_isError 12 = .ok (.ireturn, 1) := by decide +kernel
theorem dX9_remember_0 : decode cX9_remember 0 = .ok (.aload_n 0, 1) := by decide +kernel
theorem dX9_remember_1 : decode cX9_remember 1 = .ok (.getfield 231, 3) := by decide +kernel
theorem dX9_remember_4 : decode cX9_remember 4 = .ok (.ifCond .ne 14, 3) := by decide +kernel
theorem dX9_remember_7 : decode cX9_remember 7 = .ok (.aload_n 0, 1) := by decide +kernel
theorem dX9_remember_8 : decode cX9_remember 8 = .ok (.getfield 19, 3) := by decide +kernel
theorem dX9_remember_11 : decode cX9_remember 11 = .ok (.aload_n 0, 1) := by decide +kernel
theorem dX9_remember_12 : decode cX9_remember 12 = .ok (.getfield 10, 3) := by decide +kernel
theorem dX9_remember_15 : decode cX9_remember 15 = .ok (.invokevirtual 270, 3) := by decide +kernel
theorem dX9_remember_18 : decode cX9_remember 18 = .ok (.return_, 1) := by decide +kernel
theorem dX9_takeWay_0 : decode cX9_takeWay 0 = .ok (.aload_n 0, 1) := by decide +kernel
theorem dX9_takeWay_1 : decode cX9_takeWay 1 = .ok (.getfield 26, 3) := by decide +kernel
theorem dX9_takeWay_4 : decode cX9_takeWay 4 = .ok (.invokevirtual 273, 3) := by decide +kernel
theorem dX9_takeWay_7 : decode cX9_takeWay 7 = .ok (.aload_n 0, 1) := by decide +kernel
theorem dX9_takeWay_8 : decode cX9_takeWay 8 = .ok (.getfield 10, 3) := by decide +kernel
theorem dX9_takeWay_11 : decode cX9_takeWay 11 = .ok (.getfield 103, 3) := by decide +kernel
theorem dX9_takeWay_14 : decode cX9_takeWay 14 = .ok (.iload_n 1, 1) := by decide +kernel
theorem dX9_takeWay_15 : decode cX9_takeWay 15 = .ok (.aaload, 1) := by decide +kernel
theorem dX9_takeWay_16 : decode cX9_takeWay 16 = .ok (.astore_n 3, 1) := by decide +kernel
theorem dX9_takeWay_17 : decode cX9_takeWay 17 = .ok (.aload_n 3, 1) := by decide +kernel
theorem dX9_takeWay_18 : decode cX9_takeWay 18 = .ok (.ifnull 14, 3) := by decide +kernel
theorem dX9_takeWay_21 : decode cX9_takeWay 21 = .ok (.aload_n 0, 1) := by decide +kernel
theorem dX9_takeWay_22 : decode cX9_takeWay 22 = .ok (.getfield 26, 3) := by decide +kernel
theorem dX9_takeWay_25 : decode cX9_takeWay 25 = .ok (.aload_n 3, 1) := by decide +kernel
theorem dX9_takeWay_26 : decode cX9_takeWay 26 = .ok (.invokevirtual 276, 3) := by decide +kernel
theorem dX9_takeWay_29 : decode cX9_takeWay 29 = .ok (.ifCond .ne 22, 3) := by decide +kernel
theorem dX9_takeWay_32 : decode cX9_takeWay 32 = .ok (.aload_n 0, 1) := by decide +kernel
theorem dX9_takeWay_33 : decode cX9_takeWay 33 = .ok (.getfield 10, 3) := by decide +kernel
theorem dX9_takeWay_36 : decode cX9_takeWay 36 = .ok (.getfield 103, 3) := by decide +kernel
theorem dX9_takeWay_39 : decode cX9_takeWay 39 = .ok (.iload_n 1, 1) := by decide +kernel
theorem dX9_takeWay_40 : decode cX9_takeWay 40 = .ok (.aload_n 0, 1) := by decide +kernel
theorem dX9_takeWay_41 : decode cX9_takeWay 41 = .ok (.getfield 26, 3) := by decide +kernel
theorem dX9_takeWay_44 : decode cX9_takeWay 44 = .ok (.iload_n 2, 1) := by decide +kernel
theorem dX9_takeWay_45 : decode cX9_takeWay 45 = .ok (.invokevirtual 280, 3) := by decide +kernel
theorem dX9_takeWay_48 : decode cX9_takeWay 48 = .ok (.aastore, 1) := by decide +kernel
theorem dX9_takeWay_49 : decode cX9_takeWay 49 = .ok (.iconst 1, 1) := by decide +kernel
theorem dX9_takeWay_50 : decode cX9_takeWay 50 = .ok (.ireturn, 1) := by decide +kernel
theorem dX9_takeWay_51 : decode cX9_takeWay 51 = .ok (.aload_n 3, 1) := by decide +kernel
theorem dX9_takeWay_52 : decode cX9_takeWay 52 = .ok (.getfield 146, 3) := by decide +kernel
theorem dX9_takeWay_55 : decode cX9_takeWay 55 = .ok (.iload_n 2, 1) := by decide +kernel
theorem dX9_takeWay_56 : decode cX9_takeWay 56 = .ok (.if_icmp .eq 28, 3) := by decide +kernel
theorem dX9_takeWay_59 : decode cX9_takeWay 59 = .ok (.aload_n 0, 1) := by decide +kernel
theorem dX9_takeWay_60 : decode cX9_takeWay 60 = .ok (.getfield 10, 3) := by decide +kernel
theorem dX9_takeWay_63 : decode cX9_takeWay 63 = .ok (.getfield 103, 3) := by decide +kernel
theorem dX9_takeWay_66 : decode cX9_takeWay 66 = .ok (.iload_n 1, 1) := by decide +kernel
theorem dX9_takeWay_67 : decode cX9_takeWay 67 = .ok (.new 147, 3) := by decide +kernel
theorem dX9_takeWay_70 : decode cX9_takeWay 70 = .ok (.dup, 1) := by decide +kernel
theorem dX9_takeWay_71 : decode cX9_takeWay 71 = .ok (.iload_n 2, 1) := by decide +kernel
theorem dX9_takeWay_72 : decode cX9_takeWay 72 = .ok (.aload_n 3, 1) := by decide +kernel
theorem dX9_takeWay_73 : decode cX9_takeWay 73 = .ok (.getfield 164, 3) := by decide +kernel
theorem dX9_takeWay_76 : decode cX9_takeWay 76 = .ok (.aload_n 3, 1) := by decide +kernel
theorem dX9_takeWay_77 : decode cX9_takeWay 77 = .ok (.getfield 168, 3) := by decide +kernel
theorem dX9_takeWay_80 : decode cX9_takeWay 80 = .ok (.invokespecial 283, 3) := by decide +kernel
theorem dX9_takeWay_83 : decode cX9_takeWay 83 = .ok (.aastore, 1) := by decide +kernel
theorem dX9_takeWay_84 : decode cX9_takeWay 84 = .ok (.iconst 0, 1) := by decide +kernel
theorem dX9_takeWay_85 : decode cX9_takeWay 85 = .ok (.ireturn, 1) := by decide +kernel
theorem dX9_carryOut_0 : decode cX9_carryOut 0 = .ok (.iload_n 1, 1) := by decide +kernel
theorem dX9_carryOut_1 : decode cX9_carryOut 1 = .ok (.tableswitch 99 0 4 #[35, 52, 75, 83, 91], 35) := by decide +kernel
theorem dX9_carryOut_36 : decode cX9_carryOut 36 = .ok (.aload_n 0, 1) := by decide +kernel
theorem dX9_carryOut_37 : decode cX9_carryOut 37 = .ok (.aload_n 2, 1) := by decide +kernel
theorem dX9_carryOut_38 : decode cX9_carryOut 38 = .ok (.iconst 0, 1) := by decide +kernel
theorem dX9_carryOut_39 : decode cX9_carryOut 39 = .ok (.iaload, 1) := by decide +kernel
theorem dX9_carryOut_40 : decode cX9_carryOut 40 = .ok (.aload_n 2, 1) := by decide +kernel
theorem dX9_carryOut_41 : decode cX9_carryOut 41 = .ok (.iconst 1, 1) := by decide +kernel
theorem dX9_carryOut_42 : decode cX9_carryOut 42 = .ok (.iaload, 1) := by decide +kernel
theorem dX9_carryOut_43 : decode cX9_carryOut 43 = .ok (.aload_n 2, 1) := by decide +kernel
theorem dX9_carryOut_44 : decode cX9_carryOut 44 = .ok (.iconst 2, 1) := by decide +kernel
theorem dX9_carryOut_45 : decode cX9_carryOut 45 = .ok (.iaload, 1) := by decide +kernel
theorem dX9_carryOut_46 : decode cX9_carryOut 46 = .ok (.aload_n 2, 1) := by decide +kernel
theorem dX9_carryOut_47 : decode cX9_carryOut 47 = .ok (.iconst 3, 1) := by decide +kernel
theorem dX9_carryOut_48 : decode cX9_carryOut 48 = .ok (.iaload, 1) := by decide +kernel
theorem dX9_carryOut_49 : decode cX9_carryOut 49 = .ok (.invokevirtual 286, 3) := by decide +kernel
theorem dX9_carryOut_52 : decode cX9_carryOut 52 = .ok (.ireturn, 1) := by decide +kernel
theorem dX9_carryOut_53 : decode cX9_carryOut 53 = .ok (.aload_n 0, 1) := by decide +kernel
theorem dX9_carryOut_54 : decode cX9_carryOut 54 = .ok (.aload_n 2, 1) := by decide +kernel
theorem dX9_carryOut_55 : decode cX9_carryOut 55 = .ok (.iconst 0, 1) := by decide +kernel
theorem dX9_carryOut_56 : decode cX9_carryOut 56 = .ok (.iaload, 1) := by decide +kernel
theorem dX9_carryOut_57 : decode cX9_carryOut 57 = .ok (.aload_n 2, 1) := by decide +kernel
theorem dX9_carryOut_58 : decode cX9_carryOut 58 = .ok (.iconst 1, 1) := by decide +kernel
theorem dX9_carryOut_59 : decode cX9_carryOut 59 = .ok (.iaload, 1) := by decide +kernel
theorem dX9_carryOut_60 : decode cX9_carryOut 60 = .ok (.aload_n 2, 1) := by decide +kernel
theorem dX9_carryOut_61 : decode cX9_carryOut 61 = .ok (.iconst 2, 1) := by decide +kernel
theorem dX9_carryOut_62 : decode cX9_carryOut 62 = .ok (.iaload, 1) := by decide +kernel
theorem dX9_carryOut_63 : decode cX9_carryOut 63 = .ok (.aload_n 2, 1) := by decide +kernel
theorem dX9_carryOut_64 : decode cX9_carryOut 64 = .ok (.iconst 3, 1) := by decide +kernel
theorem dX9_carryOut_65 : decode cX9_carryOut 65 = .ok (.iaload, 1) := by decide +kernel
theorem dX9_carryOut_66 : decode cX9_carryOut 66 = .ok (.aload_n 2, 1) := by decide +kernel
theorem dX9_carryOut_67 : decode cX9_carryOut 67 = .ok (.iconst 4, 1) := by decide +kernel
theorem dX9_carryOut_68 : decode cX9_carryOut 68 = .ok (.iaload, 1) := by decide +kernel
theorem dX9_carryOut_69 : decode cX9_carryOut 69 = .ok (.aload_n 2, 1) := by decide +kernel
theorem dX9_carryOut_70 : decode cX9_carryOut 70 = .ok (.iconst 5, 1) := by decide +kernel
theorem dX9_carryOut_71 : decode cX9_carryOut 71 = .ok (.iaload, 1) := by decide +kernel
theorem dX9_carryOut_72 : decode cX9_carryOut 72 = .ok (.invokevirtual 289, 3) := by decide +kernel
theorem dX9_carryOut_75 : decode cX9_carryOut 75 = .ok (.ireturn, 1) := by decide +kernel
theorem dX9_carryOut_76 : decode cX9_carryOut 76 = .ok (.aload_n 0, 1) := by decide +kernel
theorem dX9_carryOut_77 : decode cX9_carryOut 77 = .ok (.aload_n 2, 1) := by decide +kernel
theorem dX9_carryOut_78 : decode cX9_carryOut 78 = .ok (.iconst 0, 1) := by decide +kernel
theorem dX9_carryOut_79 : decode cX9_carryOut 79 = .ok (.iaload, 1) := by decide +kernel
theorem dX9_carryOut_80 : decode cX9_carryOut 80 = .ok (.invokevirtual 293, 3) := by decide +kernel
theorem dX9_carryOut_83 : decode cX9_carryOut 83 = .ok (.ireturn, 1) := by decide +kernel
theorem dX9_carryOut_84 : decode cX9_carryOut 84 = .ok (.aload_n 0, 1) := by decide +kernel
theorem dX9_carryOut_85 : decode cX9_carryOut 85 = .ok (.aload_n 2, 1) := by decide +kernel
theorem dX9_carryOut_86 : decode cX9_carryOut 86 = .ok (.iconst 0, 1) := by decide +kernel
theorem dX9_carryOut_87 : decode cX9_carryOut 87 = .ok (.iaload, 1) := by decide +kernel
theorem dX9_carryOut_88 : decode cX9_carryOut 88 = .ok (.invokevirtual 296, 3) := by decide +kernel
theorem dX9_carryOut_91 : decode cX9_carryOut 91 = .ok (.ireturn, 1) := by decide +kernel
theorem dX9_carryOut_92 : decode cX9_carryOut 92 = .ok (.aload_n 0, 1) := by decide +kernel
theorem dX9_carryOut_93 : decode cX9_carryOut 93 = .ok (.aload_n 2, 1) := by decide +kernel
theorem dX9_carryOut_94 : decode cX9_carryOut 94 = .ok (.iconst 0, 1) := by decide +kernel
theorem dX9_carryOut_95 : decode cX9_carryOut 95 = .ok (.iaload, 1) := by decide +kernel
theorem dX9_carryOut_96 : decode cX9_carryOut 96 = .ok (.invokevirtual 299, 3) := by decide +kernel
theorem dX9_carryOut_99 : decode cX9_carryOut 99 = .ok (.ireturn, 1) := by decide +kernel
theorem dX9_carryOut_100 : decode cX9_carryOut 100 = .ok (.aload_n 0, 1) := by decide +kernel
theorem dX9_carryOut_101 : decode cX9_carryOut 101 = .ok (.invokevirtual 302, 3) := by decide +kernel
theorem dX9_carryOut_104 : decode cX9_carryOut 104 = .ok (.ireturn, 1) := by decide +kernel
theorem dX0_init_0 : decode cX0_init 0 = .ok (.aload_n 0, 1) := by decide +kernel
theorem dX0_init_1 : decode cX0_init 1 = .ok (.invokespecial 5, 3) := by decide +kernel
theorem dX0_init_4 : decode cX0_init 4 = .ok (.aload_n 0, 1) := by decide +kernel
theorem dX0_init_5 : decode cX0_init 5 = .ok (.sipush 180, 3) := by decide +kernel
theorem dX0_init_8 : decode cX0_init 8 = .ok (.newarray .int, 2) := by decide +kernel
theorem dX0_init_10 : decode cX0_init 10 = .ok (.putfield 13, 3) := by decide +kernel
theorem dX0_init_13 : decode cX0_init 13 = .ok (.aload_n 0, 1) := by decide +kernel
theorem dX0_init_14 : decode cX0_init 14 = .ok (.sipush 180, 3) := by decide +kernel
theorem dX0_init_17 : decode cX0_init 17 = .ok (.newarray .int, 2) := by decide +kernel
theorem dX0_init_19 : decode cX0_init 19 = .ok (.putfield 17, 3) := by decide +kernel
theorem dX0_init_22 : decode cX0_init 22 = .ok (.aload_n 0, 1) := by decide +kernel
theorem dX0_init_23 : decode cX0_init 23 = .ok (.sipush 180, 3) := by decide +kernel
theorem dX0_init_26 : decode cX0_init 26 = .ok (.newarray .int, 2) := by decide +kernel
theorem dX0_init_28 : decode cX0_init 28 = .ok (.putfield 20, 3) := by decide +kernel
theorem dX0_init_31 : decode cX0_init 31 = .ok (.aload_n 0, 1) := by decide +kernel
theorem dX0_init_32 : decode cX0_init 32 = .ok (.sipush 180, 3) := by decide +kernel
theorem dX0_init_35 : decode cX0_init 35 = .ok (.newarray .int, 2) := by decide +kernel
theorem dX0_init_37 : decode cX0_init 37 = .ok (.putfield 23, 3) := by decide +kernel
theorem dX0_init_40 : decode cX0_init 40 = .ok (.aload_n 0, 1) := by decide +kernel
theorem dX0_init_41 : decode cX0_init 41 = .ok (.sipush 180, 3) := by decide +kernel
theorem dX0_init_44 : decode cX0_init 44 = .ok (.newarray .boolean, 2) := by decide +kernel
theorem dX0_init_46 : decode cX0_init 46 = .ok (.putfield 26, 3) := by decide +kernel
theorem dX0_init_49 : decode cX0_init 49 = .ok (.return_, 1) := by decide +kernel
theorem dX0_gather_0 : decode cX0_gather 0 = .ok (.aload_n 0, 1) := by decide +kernel
theorem dX0_gather_1 : decode cX0_gather 1 = .ok (.iconst 0, 1) := by decide +kernel
theorem dX0_gather_2 : decode cX0_gather 2 = .ok (.putfield 30, 3) := by decide +kernel
theorem dX0_gather_5 : decode cX0_gather 5 = .ok (.aload_n 0, 1) := by decide +kernel
theorem dX0_gather_6 : decode cX0_gather 6 = .ok (.iconst 0, 1) := by decide +kernel
theorem dX0_gather_7 : decode cX0_gather 7 = .ok (.putfield 34, 3) := by decide +kernel
theorem dX0_gather_10 : decode cX0_gather 10 = .ok (.aload_n 1, 1) := by decide +kernel
theorem dX0_gather_11 : decode cX0_gather 11 = .ok (.iload_n 2, 1) := by decide +kernel
theorem dX0_gather_12 : decode cX0_gather 12 = .ok (.invokevirtual 37, 3) := by decide +kernel
theorem dX0_gather_15 : decode cX0_gather 15 = .ok (.astore 4, 2) := by decide +kernel
theorem dX0_gather_17 : decode cX0_gather 17 = .ok (.aload 4, 2) := by decide +kernel
theorem dX0_gather_19 : decode cX0_gather 19 = .ok (.ifnonnull 4, 3) := by decide +kernel
theorem dX0_gather_22 : decode cX0_gather 22 = .ok (.return_, 1) := by decide +kernel
theorem dX0_gather_23 : decode cX0_gather 23 = .ok (.aload 4, 2) := by decide +kernel
theorem dX0_gather_25 : decode cX0_gather 25 = .ok (.iload_n 3, 1) := by decide +kernel
theorem dX0_gather_26 : decode cX0_gather 26 = .ok (.invokevirtual 43, 3) := by decide +kernel
theorem dX0_gather_29 : decode cX0_gather 29 = .ok (.istore 5, 2) := by decide +kernel
theorem dX0_gather_31 : decode cX0_gather 31 = .ok (.aload 4, 2) := by decide +kernel
theorem dX0_gather_33 : decode cX0_gather 33 = .ok (.iload_n 3, 1) := by decide +kernel
theorem dX0_gather_34 : decode cX0_gather 34 = .ok (.invokevirtual 49, 3) := by decide +kernel
theorem dX0_gather_37 : decode cX0_gather 37 = .ok (.istore 6, 2) := by decide +kernel
theorem dX0_gather_39 : decode cX0_gather 39 = .ok (.iconst 0, 1) := by decide +kernel
theorem dX0_gather_40 : decode cX0_gather 40 = .ok (.istore 7, 2) := by decide +kernel
theorem dX0_gather_42 : decode cX0_gather 42 = .ok (.iload 7, 2) := by decide +kernel
theorem dX0_gather_44 : decode cX0_gather 44 = .ok (.aload_n 1, 1) := by decide +kernel
theorem dX0_gather_45 : decode cX0_gather 45 = .ok (.getfield 53, 3) := by decide +kernel
theorem dX0_gather_48 : decode cX0_gather 48 = .ok (.if_icmp .ge 116, 3) := by decide +kernel
theorem dX0_gather_51 : decode cX0_gather 51 = .ok (.aload_n 1, 1) := by decide +kernel
theorem dX0_gather_52 : decode cX0_gather 52 = .ok (.getfield 56, 3) := by decide +kernel
theorem dX0_gather_55 : decode cX0_gather 55 = .ok (.iload 7, 2) := by decide +kernel
theorem dX0_gather_57 : decode cX0_gather 57 = .ok (.aaload, 1) := by decide +kernel
theorem dX0_gather_58 : decode cX0_gather 58 = .ok (.astore 8, 2) := by decide +kernel
theorem dX0_gather_60 : decode cX0_gather 60 = .ok (.aload 8, 2) := by decide +kernel
theorem dX0_gather_62 : decode cX0_gather 62 = .ok (.ifnonnull 6, 3) := by decide +kernel
theorem dX0_gather_65 : decode cX0_gather 65 = .ok (.goto 93, 3) := by decide +kernel
theorem dX0_gather_68 : decode cX0_gather 68 = .ok (.iconst 1, 1) := by decide +kernel
theorem dX0_gather_69 : decode cX0_gather 69 = .ok (.istore 9, 2) := by decide +kernel
theorem dX0_gather_71 : decode cX0_gather 71 = .ok (.iload 9, 2) := by decide +kernel
theorem dX0_gather_73 : decode cX0_gather 73 = .ok (.aload 8, 2) := by decide +kernel
theorem dX0_gather_75 : decode cX0_gather 75 = .ok (.invokevirtual 60, 3) := by decide +kernel
theorem dX0_gather_78 : decode cX0_gather 78 = .ok (.iconst 1, 1) := by decide +kernel
theorem dX0_gather_79 : decode cX0_gather 79 = .ok (.isub, 1) := by decide +kernel
theorem dX0_gather_80 : decode cX0_gather 80 = .ok (.if_icmp .ge 78, 3) := by decide +kernel
theorem dX0_gather_83 : decode cX0_gather 83 = .ok (.aload_n 0, 1) := by decide +kernel
theorem dX0_gather_84 : decode cX0_gather 84 = .ok (.getfield 30, 3) := by decide +kernel
theorem dX0_gather_87 : decode cX0_gather 87 = .ok (.sipush 180, 3) := by decide +kernel
theorem dX0_gather_90 : decode cX0_gather 90 = .ok (.if_icmp .ge 68, 3) := by decide +kernel
theorem dX0_gather_93 : decode cX0_gather 93 = .ok (.aload 8, 2) := by decide +kernel
theorem dX0_gather_95 : decode cX0_gather 95 = .ok (.iload 9, 2) := by decide +kernel
theorem dX0_gather_97 : decode cX0_gather 97 = .ok (.invokevirtual 43, 3) := by decide +kernel
theorem dX0_gather_100 : decode cX0_gather 100 = .ok (.iload 5, 2) := by decide +kernel
theorem dX0_gather_102 : decode cX0_gather 102 = .ok (.if_icmp .ne 50, 3) := by decide +kernel
theorem dX0_gather_105 : decode cX0_gather 105 = .ok (.aload 8, 2) := by decide +kernel
theorem dX0_gather_107 : decode cX0_gather 107 = .ok (.iload 9, 2) := by decide +kernel
theorem dX0_gather_109 : decode cX0_gather 109 = .ok (.invokevirtual 49, 3) := by decide +kernel
theorem dX0_gather_112 : decode cX0_gather 112 = .ok (.iload 6, 2) := by decide +kernel
theorem dX0_gather_114 : decode cX0_gather 114 = .ok (.if_icmp .ne 38, 3) := by decide +kernel
theorem dX0_gather_117 : decode cX0_gather 117 = .ok (.aload_n 0, 1) := by decide +kernel
theorem dX0_gather_118 : decode cX0_gather 118 = .ok (.iload 7, 2) := by decide +kernel
theorem dX0_gather_120 : decode cX0_gather 120 = .ok (.iload_n 2, 1) := by decide +kernel
theorem dX0_gather_121 : decode cX0_gather 121 = .ok (.if_icmp .ne 16, 3) := by decide +kernel
theorem dX0_gather_124 : decode cX0_gather 124 = .ok (.iload 9, 2) := by decide +kernel
theorem dX0_gather_126 : decode cX0_gather 126 = .ok (.iload_n 3, 1) := by decide +kernel
theorem dX0_gather_127 : decode cX0_gather 127 = .ok (.if_icmp .ne 10, 3) := by decide +kernel
theorem dX0_gather_130 : decode cX0_gather 130 = .ok (.aload_n 0, 1) := by decide +kernel
theorem dX0_gather_131 : decode cX0_gather 131 = .ok (.getfield 30, 3) := by decide +kernel
theorem dX0_gather_134 : decode cX0_gather 134 = .ok (.goto 7, 3) := by decide +kernel
theorem dX0_gather_137 : decode cX0_gather 137 = .ok (.aload_n 0, 1) := by decide +kernel
theorem dX0_gather_138 : decode cX0_gather 138 = .ok (.getfield 34, 3) := by decide +kernel
theorem dX0_gather_141 : decode cX0_gather 141 = .ok (.putfield 34, 3) := by decide +kernel
theorem dX0_gather_144 : decode cX0_gather 144 = .ok (.aload_n 0, 1) := by decide +kernel
theorem dX0_gather_145 : decode cX0_gather 145 = .ok (.aload 8, 2) := by decide +kernel
theorem dX0_gather_147 : decode cX0_gather 147 = .ok (.iload 9, 2) := by decide +kernel
theorem dX0_gather_149 : decode cX0_gather 149 = .ok (.invokevirtual 64, 3) := by decide +kernel
theorem dX0_gather_152 : decode cX0_gather 152 = .ok (.iinc 9 1, 3) := by decide +kernel
theorem dX0_gather_155 : decode cX0_gather 155 = .ok (.goto (-84), 3) := by decide +kernel
theorem dX0_gather_158 : decode cX0_gather 158 = .ok (.iinc 7 1, 3) := by decide +kernel
theorem dX0_gather_161 : decode cX0_gather 161 = .ok (.goto (-119), 3) := by decide +kernel
theorem dX0_gather_164 : decode cX0_gather 164 = .ok (.return_, 1) := by decide +kernel
theorem dX0_add_0 : decode cX0_add 0 = .ok (.aload_n 0, 1) := by decide +kernel
theorem dX0_add_1 : decode cX0_add 1 = .ok (.getfield 13, 3) := by decide +kernel
theorem dX0_add_4 : decode cX0_add 4 = .ok (.aload_n 0, 1) := by decide +kernel
theorem dX0_add_5 : decode cX0_add 5 = .ok (.getfield 30, 3) := by decide +kernel
theorem dX0_add_8 : decode cX0_add 8 = .ok (.aload_n 1, 1) := by decide +kernel
theorem dX0_add_9 : decode cX0_add 9 = .ok (.iload_n 2, 1) := by decide +kernel
theorem dX0_add_10 : decode cX0_add 10 = .ok (.invokevirtual 68, 3) := by decide +kernel
theorem dX0_add_13 : decode cX0_add 13 = .ok (.iastore, 1) := by decide +kernel
theorem dX0_add_14 : decode cX0_add 14 = .ok (.aload_n 0, 1) := by decide +kernel
theorem dX0_add_15 : decode cX0_add 15 = .ok (.getfield 17, 3) := by decide +kernel
theorem dX0_add_18 : decode cX0_add 18 = .ok (.aload_n 0, 1) := by decide +kernel
theorem dX0_add_19 : decode cX0_add 19 = .ok (.getfield 30, 3) := by decide +kernel
theorem dX0_add_22 : decode cX0_add 22 = .ok (.aload_n 1, 1) := by decide +kernel
theorem dX0_add_23 : decode cX0_add 23 = .ok (.iload_n 2, 1) := by decide +kernel
theorem dX0_add_24 : decode cX0_add 24 = .ok (.invokevirtual 71, 3) := by decide +kernel
theorem dX0_add_27 : decode cX0_add 27 = .ok (.iastore, 1) := by decide +kernel
theorem dX0_add_28 : decode cX0_add 28 = .ok (.aload_n 0, 1) := by decide +kernel
theorem dX0_add_29 : decode cX0_add 29 = .ok (.getfield 20, 3) := by decide +kernel
theorem dX0_add_32 : decode cX0_add 32 = .ok (.aload_n 0, 1) := by decide +kernel
theorem dX0_add_33 : decode cX0_add 33 = .ok (.getfield 30, 3) := by decide +kernel
theorem dX0_add_36 : decode cX0_add 36 = .ok (.aload_n 1, 1) := by decide +kernel
theorem dX0_add_37 : decode cX0_add 37 = .ok (.iload_n 2, 1) := by decide +kernel
theorem dX0_add_38 : decode cX0_add 38 = .ok (.invokevirtual 74, 3) := by decide +kernel
theorem dX0_add_41 : decode cX0_add 41 = .ok (.iastore, 1) := by decide +kernel
theorem dX0_add_42 : decode cX0_add 42 = .ok (.aload_n 0, 1) := by decide +kernel
theorem dX0_add_43 : decode cX0_add 43 = .ok (.getfield 23, 3) := by decide +kernel
theorem dX0_add_46 : decode cX0_add 46 = .ok (.aload_n 0, 1) := by decide +kernel
theorem dX0_add_47 : decode cX0_add 47 = .ok (.getfield 30, 3) := by decide +kernel
theorem dX0_add_50 : decode cX0_add 50 = .ok (.iconst (-1), 1) := by decide +kernel
theorem dX0_add_51 : decode cX0_add 51 = .ok (.iastore, 1) := by decide +kernel
theorem dX0_add_52 : decode cX0_add 52 = .ok (.aload_n 0, 1) := by decide +kernel
theorem dX0_add_53 : decode cX0_add 53 = .ok (.getfield 26, 3) := by decide +kernel
theorem dX0_add_56 : decode cX0_add 56 = .ok (.aload_n 0, 1) := by decide +kernel
theorem dX0_add_57 : decode cX0_add 57 = .ok (.getfield 30, 3) := by decide +kernel
theorem dX0_add_60 : decode cX0_add 60 = .ok (.iconst 0, 1) := by decide +kernel
theorem dX0_add_61 : decode cX0_add 61 = .ok (.bastore, 1) := by decide +kernel
theorem dX0_add_62 : decode cX0_add 62 = .ok (.aload_n 0, 1) := by decide +kernel
theorem dX0_add_63 : decode cX0_add 63 = .ok (.dup, 1) := by decide +kernel
theorem dX0_add_64 : decode cX0_add 64 = .ok (.getfield 30, 3) := by decide +kernel
theorem dX0_add_67 : decode cX0_add 67 = .ok (.iconst 1, 1) := by decide +kernel
theorem dX0_add_68 : decode cX0_add 68 = .ok (.iadd, 1) := by decide +kernel
theorem dX0_add_69 : decode cX0_add 69 = .ok (.putfield 30, 3) := by decide +kernel
theorem dX0_add_72 : decode cX0_add 72 = .ok (.return_, 1) := by decide +kernel
theorem dX0_collide_0 : decode cX0_collide 0 = .ok (.aload_n 0, 1) := by decide +kernel
theorem dX0_collide_1 : decode cX0_collide 1 = .ok (.getfield 17, 3) := by decide +kernel
theorem dX0_collide_4 : decode cX0_collide 4 = .ok (.iload_n 1, 1) := by decide +kernel
theorem dX0_collide_5 : decode cX0_collide 5 = .ok (.iaload, 1) := by decide +kernel
theorem dX0_collide_6 : decode cX0_collide 6 = .ok (.aload_n 0, 1) := by decide +kernel
theorem dX0_collide_7 : decode cX0_collide 7 = .ok (.getfield 17, 3) := by decide +kernel
theorem dX0_collide_10 : decode cX0_collide 10 = .ok (.iload_n 2, 1) := by decide +kernel
theorem dX0_collide_11 : decode cX0_collide 11 = .ok (.iaload, 1) := by decide +kernel
theorem dX0_collide_12 : decode cX0_collide 12 = .ok (.invokestatic 77, 3) := by decide +kernel
theorem dX0_collide_15 : decode cX0_collide 15 = .ok (.aload_n 0, 1) := by decide +kernel
theorem dX0_collide_16 : decode cX0_collide 16 = .ok (.getfield 13, 3) := by decide +kernel
theorem dX0_collide_19 : decode cX0_collide 19 = .ok (.iload_n 1, 1) := by decide +kernel
theorem dX0_collide_20 : decode cX0_collide 20 = .ok (.iaload, 1) := by decide +kernel
theorem dX0_collide_21 : decode cX0_collide 21 = .ok (.aload_n 0, 1) := by decide +kernel
theorem dX0_collide_22 : decode cX0_collide 22 = .ok (.getfield 13, 3) := by decide +kernel
theorem dX0_collide_25 : decode cX0_collide 25 = .ok (.iload_n 2, 1) := by decide +kernel
theorem dX0_collide_26 : decode cX0_collide 26 = .ok (.iaload, 1) := by decide +kernel
theorem dX0_collide_27 : decode cX0_collide 27 = .ok (.invokestatic 83, 3) := by decide +kernel
theorem dX0_collide_30 : decode cX0_collide 30 = .ok (.if_icmp .le 7, 3) := by decide +kernel
theorem dX0_collide_33 : decode cX0_collide 33 = .ok (.iconst 1, 1) := by decide +kernel
theorem dX0_collide_34 : decode cX0_collide 34 = .ok (.goto 4, 3) := by decide +kernel
theorem dX0_collide_37 : decode cX0_collide 37 = .ok (.iconst 0, 1) := by decide +kernel
theorem dX0_collide_38 : decode cX0_collide 38 = .ok (.ireturn, 1) := by decide +kernel
theorem dX0_assignLanes_0 : decode cX0_assignLanes 0 = .ok (.iconst 0, 1) := by decide +kernel
theorem dX0_assignLanes_1 : decode cX0_assignLanes 1 = .ok (.istore_n 1, 1) := by decide +kernel
theorem dX0_assignLanes_2 : decode cX0_assignLanes 2 = .ok (.iload_n 1, 1) := by decide +kernel
theorem dX0_assignLanes_3 : decode cX0_assignLanes 3 = .ok (.aload_n 0, 1) := by decide +kernel
theorem dX0_assignLanes_4 : decode cX0_assignLanes 4 = .ok (.getfield 30, 3) := by decide +kernel
theorem dX0_assignLanes_7 : decode cX0_assignLanes 7 = .ok (.if_icmp .ge 72, 3) := by decide +kernel
theorem dX0_assignLanes_10 : decode cX0_assignLanes 10 = .ok (.aload_n 0, 1) := by decide +kernel
theorem dX0_assignLanes_11 : decode cX0_assignLanes 11 = .ok (.invokevirtual 86, 3) := by decide +kernel
theorem dX0_assignLanes_14 : decode cX0_assignLanes 14 = .ok (.istore_n 2, 1) := by decide +kernel
theorem dX0_assignLanes_15 : decode cX0_assignLanes 15 = .ok (.iconst 0, 1) := by decide +kernel
theorem dX0_assignLanes_16 : decode cX0_assignLanes 16 = .ok (.istore_n 3, 1) := by decide +kernel
theorem dX0_assignLanes_17 : decode cX0_assignLanes 17 = .ok (.iconst 0, 1) := by decide +kernel
theorem dX0_assignLanes_18 : decode cX0_assignLanes 18 = .ok (.istore 4, 2) := by decide +kernel
theorem dX0_assignLanes_20 : decode cX0_assignLanes 20 = .ok (.iload 4, 2) := by decide +kernel
theorem dX0_assignLanes_22 : decode cX0_assignLanes 22 = .ok (.aload_n 0, 1) := by decide +kernel
theorem dX0_assignLanes_23 : decode cX0_assignLanes 23 = .ok (.getfield 30, 3) := by decide +kernel
theorem dX0_assignLanes_26 : decode cX0_assignLanes 26 = .ok (.if_icmp .ge 40, 3) := by decide +kernel
theorem dX0_assignLanes_29 : decode cX0_assignLanes 29 = .ok (.aload_n 0, 1) := by decide +kernel
theorem dX0_assignLanes_30 : decode cX0_assignLanes 30 = .ok (.getfield 23, 3) := by decide +kernel
theorem dX0_assignLanes_33 : decode cX0_assignLanes 33 = .ok (.iload 4, 2) := by decide +kernel
theorem dX0_assignLanes_35 : decode cX0_assignLanes 35 = .ok (.iaload, 1) := by decide +kernel
theorem dX0_assignLanes_36 : decode cX0_assignLanes 36 = .ok (.iload_n 3, 1) := by decide +kernel
theorem dX0_assignLanes_37 : decode cX0_assignLanes 37 = .ok (.if_icmp .lt 23, 3) := by decide +kernel
theorem dX0_assignLanes_40 : decode cX0_assignLanes 40 = .ok (.aload_n 0, 1) := by decide +kernel
theorem dX0_assignLanes_41 : decode cX0_assignLanes 41 = .ok (.iload_n 2, 1) := by decide +kernel
theorem dX0_assignLanes_42 : decode cX0_assignLanes 42 = .ok (.iload 4, 2) := by decide +kernel
theorem dX0_assignLanes_44 : decode cX0_assignLanes 44 = .ok (.invokevirtual 89, 3) := by decide +kernel
theorem dX0_assignLanes_47 : decode cX0_assignLanes 47 = .ok (.ifCond .eq 13, 3) := by decide +kernel
theorem dX0_assignLanes_50 : decode cX0_assignLanes 50 = .ok (.aload_n 0, 1) := by decide +kernel
theorem dX0_assignLanes_51 : decode cX0_assignLanes 51 = .ok (.getfield 23, 3) := by decide +kernel
theorem dX0_assignLanes_54 : decode cX0_assignLanes 54 = .ok (.iload 4, 2) := by decide +kernel
theorem dX0_assignLanes_56 : decode cX0_assignLanes 56 = .ok (.iaload, 1) := by decide +kernel
theorem dX0_assignLanes_57 : decode cX0_assignLanes 57 = .ok (.iconst 1, 1) := by decide +kernel
theorem dX0_assignLanes_58 : decode cX0_assignLanes 58 = .ok (.iadd, 1) := by decide +kernel
theorem dX0_assignLanes_59 : decode cX0_assignLanes 59 = .ok (.istore_n 3, 1) := by decide +kernel
theorem dX0_assignLanes_60 : decode cX0_assignLanes 60 = .ok (.iinc 4 1, 3) := by decide +kernel
theorem dX0_assignLanes_63 : decode cX0_assignLanes 63 = .ok (.goto (-43), 3) := by decide +kernel
theorem dX0_assignLanes_66 : decode cX0_assignLanes 66 = .ok (.aload_n 0, 1) := by decide +kernel
theorem dX0_assignLanes_67 : decode cX0_assignLanes 67 = .ok (.getfield 23, 3) := by decide +kernel
theorem dX0_assignLanes_70 : decode cX0_assignLanes 70 = .ok (.iload_n 2, 1) := by decide +kernel
theorem dX0_assignLanes_71 : decode cX0_assignLanes 71 = .ok (.iload_n 3, 1) := by decide +kernel
theorem dX0_assignLanes_72 : decode cX0_assignLanes 72 = .ok (.iastore, 1) := by decide +kernel
theorem dX0_assignLanes_73 : decode cX0_assignLanes 73 = .ok (.iinc 1 1, 3) := by decide +kernel
theorem dX0_assignLanes_76 : decode cX0_assignLanes 76 = .ok (.goto (-74), 3) := by decide +kernel
theorem dX0_assignLanes_79 : decode cX0_assignLanes 79 = .ok (.return_, 1) := by decide +kernel
theorem dX0_nextWithoutLane_0 : decode cX0_nextWithoutLane 0 = .ok (.iconst 0, 1) := by decide +kernel
theorem dX0_nextWithoutLane_1 : decode cX0_nextWithoutLane 1 = .ok (.istore_n 1, 1) := by decide +kernel
theorem dX0_nextWithoutLane_2 : decode cX0_nextWithoutLane 2 = .ok (.iconst 1, 1) := by decide +kernel
theorem dX0_nextWithoutLane_3 : decode cX0_nextWithoutLane 3 = .ok (.istore_n 2, 1) := by decide +kernel
theorem dX0_nextWithoutLane_4 : decode cX0_nextWithoutLane 4 = .ok (.iload_n 2, 1) := by decide +kernel
theorem dX0_nextWithoutLane_5 : decode cX0_nextWithoutLane 5 = .ok (.aload_n 0, 1) := by decide +kernel
theorem dX0_nextWithoutLane_6 : decode cX0_nextWithoutLane 6 = .ok (.getfield 30, 3) := by decide +kernel
theorem dX0_nextWithoutLane_9 : decode cX0_nextWithoutLane 9 = .ok (.if_icmp .ge 46, 3) := by decide +kernel
theorem dX0_nextWithoutLane_12 : decode cX0_nextWithoutLane 12 = .ok (.aload_n 0, 1) := by decide +kernel
theorem dX0_nextWithoutLane_13 : decode cX0_nextWithoutLane 13 = .ok (.getfield 23, 3) := by decide +kernel
theorem dX0_nextWithoutLane_16 : decode cX0_nextWithoutLane 16 = .ok (.iload_n 2, 1) := by decide +kernel
theorem dX0_nextWithoutLane_17 : decode cX0_nextWithoutLane 17 = .ok (.iaload, 1) := by decide +kernel
theorem dX0_nextWithoutLane_18 : decode cX0_nextWithoutLane 18 = .ok (.iconst (-1), 1) := by decide +kernel
theorem dX0_nextWithoutLane_19 : decode cX0_nextWithoutLane 19 = .ok (.if_icmp .ne 30, 3) := by decide +kernel
theorem dX0_nextWithoutLane_22 : decode cX0_nextWithoutLane 22 = .ok (.aload_n 0, 1) := by decide +kernel
theorem dX0_nextWithoutLane_23 : decode cX0_nextWithoutLane 23 = .ok (.getfield 23, 3) := by decide +kernel
theorem dX0_nextWithoutLane_26 : decode cX0_nextWithoutLane 26 = .ok (.iload_n 1, 1) := by decide +kernel
theorem dX0_nextWithoutLane_27 : decode cX0_nextWithoutLane 27 = .ok (.iaload, 1) := by decide +kernel
theorem dX0_nextWithoutLane_28 : decode cX0_nextWithoutLane 28 = .ok (.iconst (-1), 1) := by decide +kernel
theorem dX0_nextWithoutLane_29 : decode cX0_nextWithoutLane 29 = .ok (.if_icmp .ne 18, 3) := by decide +kernel
theorem dX0_nextWithoutLane_32 : decode cX0_nextWithoutLane 32 = .ok (.aload_n 0, 1) := by decide +kernel
theorem dX0_nextWithoutLane_33 : decode cX0_nextWithoutLane 33 = .ok (.getfield 20, 3) := by decide +kernel
theorem dX0_nextWithoutLane_36 : decode cX0_nextWithoutLane 36 = .ok (.iload_n 2, 1) := by decide +kernel
theorem dX0_nextWithoutLane_37 : decode cX0_nextWithoutLane 37 = .ok (.iaload, 1) := by decide +kernel
theorem dX0_nextWithoutLane_38 : decode cX0_nextWithoutLane 38 = .ok (.aload_n 0, 1) := by decide +kernel
theorem dX0_nextWithoutLane_39 : decode cX0_nextWithoutLane 39 = .ok (.getfield 20, 3) := by decide +kernel
theorem dX0_nextWithoutLane_42 : decode cX0_nextWithoutLane 42 = .ok (.iload_n 1, 1) := by decide +kernel
theorem dX0_nextWithoutLane_43 : decode cX0_nextWithoutLane 43 = .ok (.iaload, 1) := by decide +kernel
theorem dX0_nextWithoutLane_44 : decode cX0_nextWithoutLane 44 = .ok (.if_icmp .ge 5, 3) := by decide +kernel
theorem dX0_nextWithoutLane_47 : decode cX0_nextWithoutLane 47 = .ok (.iload_n 2, 1) := by decide +kernel
theorem dX0_nextWithoutLane_48 : decode cX0_nextWithoutLane 48 = .ok (.istore_n 1, 1) := by decide +kernel
theorem dX0_nextWithoutLane_49 : decode cX0_nextWithoutLane 49 = .ok (.iinc 2 1, 3) := by decide +kernel
theorem dX0_nextWithoutLane_52 : decode cX0_nextWithoutLane 52 = .ok (.goto (-48), 3) := by decide +kernel
theorem dX0_nextWithoutLane_55 : decode cX0_nextWithoutLane 55 = .ok (.iload_n 1, 1) := by decide +kernel
theorem dX0_nextWithoutLane_56 : decode cX0_nextWithoutLane 56 = .ok (.ireturn, 1) := by decide +kernel
theorem dX0_ownLane_0 : decode cX0_ownLane 0 = .ok (.aload_n 0, 1) := by decide +kernel
theorem dX0_ownLane_1 : decode cX0_ownLane 1 = .ok (.getfield 23, 3) := by decide +kernel
theorem dX0_ownLane_4 : decode cX0_ownLane 4 = .ok (.aload_n 0, 1) := by decide +kernel
theorem dX0_ownLane_5 : decode cX0_ownLane 5 = .ok (.getfield 34, 3) := by decide +kernel
theorem dX0_ownLane_8 : decode cX0_ownLane 8 = .ok (.iaload, 1) := by decide +kernel
theorem dX0_ownLane_9 : decode cX0_ownLane 9 = .ok (.ireturn, 1) := by decide +kernel
theorem dX0_lanesOfOwn_0 : decode cX0_lanesOfOwn 0 = .ok (.aload_n 0, 1) := by decide +kernel
theorem dX0_lanesOfOwn_1 : decode cX0_lanesOfOwn 1 = .ok (.getfield 26, 3) := by decide +kernel
theorem dX0_lanesOfOwn_4 : decode cX0_lanesOfOwn 4 = .ok (.aload_n 0, 1) := by decide +kernel
theorem dX0_lanesOfOwn_5 : decode cX0_lanesOfOwn 5 = .ok (.getfield 34, 3) := by decide +kernel
theorem dX0_lanesOfOwn_8 : decode cX0_lanesOfOwn 8 = .ok (.iconst 1, 1) := by decide +kernel
theorem dX0_lanesOfOwn_9 : decode cX0_lanesOfOwn 9 = .ok (.bastore, 1) := by decide +kernel
theorem dX0_lanesOfOwn_10 : decode cX0_lanesOfOwn 10 = .ok (.iconst 1, 1) := by decide +kernel
theorem dX0_lanesOfOwn_11 : decode cX0_lanesOfOwn 11 = .ok (.istore_n 1, 1) := by decide +kernel
theorem dX0_lanesOfOwn_12 : decode cX0_lanesOfOwn 12 = .ok (.iconst 0, 1) := by decide +kernel
theorem dX0_lanesOfOwn_13 : decode cX0_lanesOfOwn 13 = .ok (.istore_n 2, 1) := by decide +kernel
theorem dX0_lanesOfOwn_14 : decode cX0_lanesOfOwn 14 = .ok (.iload_n 2, 1) := by decide +kernel
theorem dX0_lanesOfOwn_15 : decode cX0_lanesOfOwn 15 = .ok (.aload_n 0, 1) := by decide +kernel
theorem dX0_lanesOfOwn_16 : decode cX0_lanesOfOwn 16 = .ok (.getfield 30, 3) := by decide +kernel
theorem dX0_lanesOfOwn_19 : decode cX0_lanesOfOwn 19 = .ok (.if_icmp .ge 57, 3) := by decide +kernel
theorem dX0_lanesOfOwn_22 : decode cX0_lanesOfOwn 22 = .ok (.iload_n 1, 1) := by decide +kernel
theorem dX0_lanesOfOwn_23 : decode cX0_lanesOfOwn 23 = .ok (.ifCond .eq 53, 3) := by decide +kernel
theorem dX0_lanesOfOwn_26 : decode cX0_lanesOfOwn 26 = .ok (.iconst 0, 1) := by decide +kernel
theorem dX0_lanesOfOwn_27 : decode cX0_lanesOfOwn 27 = .ok (.istore_n 1, 1) := by decide +kernel
theorem dX0_lanesOfOwn_28 : decode cX0_lanesOfOwn 28 = .ok (.iconst 0, 1) := by decide +kernel
theorem dX0_lanesOfOwn_29 : decode cX0_lanesOfOwn 29 = .ok (.istore_n 3, 1) := by decide +kernel
theorem dX0_lanesOfOwn_30 : decode cX0_lanesOfOwn 30 = .ok (.iload_n 3, 1) := by decide +kernel
theorem dX0_lanesOfOwn_31 : decode cX0_lanesOfOwn 31 = .ok (.aload_n 0, 1) := by decide +kernel
theorem dX0_lanesOfOwn_32 : decode cX0_lanesOfOwn 32 = .ok (.getfield 30, 3) := by decide +kernel
theorem dX0_lanesOfOwn_35 : decode cX0_lanesOfOwn 35 = .ok (.if_icmp .ge 35, 3) := by decide +kernel
theorem dX0_lanesOfOwn_38 : decode cX0_lanesOfOwn 38 = .ok (.aload_n 0, 1) := by decide +kernel
theorem dX0_lanesOfOwn_39 : decode cX0_lanesOfOwn 39 = .ok (.getfield 26, 3) := by decide +kernel
theorem dX0_lanesOfOwn_42 : decode cX0_lanesOfOwn 42 = .ok (.iload_n 3, 1) := by decide +kernel
theorem dX0_lanesOfOwn_43 : decode cX0_lanesOfOwn 43 = .ok (.baload, 1) := by decide +kernel
theorem dX0_lanesOfOwn_44 : decode cX0_lanesOfOwn 44 = .ok (.ifCond .ne 20, 3) := by decide +kernel
theorem dX0_lanesOfOwn_47 : decode cX0_lanesOfOwn 47 = .ok (.aload_n 0, 1) := by decide +kernel
theorem dX0_lanesOfOwn_48 : decode cX0_lanesOfOwn 48 = .ok (.iload_n 3, 1) := by decide +kernel
theorem dX0_lanesOfOwn_49 : decode cX0_lanesOfOwn 49 = .ok (.invokevirtual 93, 3) := by decide +kernel
theorem dX0_lanesOfOwn_52 : decode cX0_lanesOfOwn 52 = .ok (.ifCond .eq 12, 3) := by decide +kernel
theorem dX0_lanesOfOwn_55 : decode cX0_lanesOfOwn 55 = .ok (.aload_n 0, 1) := by decide +kernel
theorem dX0_lanesOfOwn_56 : decode cX0_lanesOfOwn 56 = .ok (.getfield 26, 3) := by decide +kernel
theorem dX0_lanesOfOwn_59 : decode cX0_lanesOfOwn 59 = .ok (.iload_n 3, 1) := by decide +kernel
theorem dX0_lanesOfOwn_60 : decode cX0_lanesOfOwn 60 = .ok (.iconst 1, 1) := by decide +kernel
theorem dX0_lanesOfOwn_61 : decode cX0_lanesOfOwn 61 = .ok (.bastore, 1) := by decide +kernel
theorem dX0_lanesOfOwn_62 : decode cX0_lanesOfOwn 62 = .ok (.iconst 1, 1) := by decide +kernel
theorem dX0_lanesOfOwn_63 : decode cX0_lanesOfOwn 63 = .ok (.istore_n 1, 1) := by decide +kernel
theorem dX0_lanesOfOwn_64 : decode cX0_lanesOfOwn 64 = .ok (.iinc 3 1, 3) := by decide +kernel
theorem dX0_lanesOfOwn_67 : decode cX0_lanesOfOwn 67 = .ok (.goto (-37), 3) := by decide +kernel
theorem dX0_lanesOfOwn_70 : decode cX0_lanesOfOwn 70 = .ok (.iinc 2 1, 3) := by decide +kernel
theorem dX0_lanesOfOwn_73 : decode cX0_lanesOfOwn 73 = .ok (.goto (-59), 3) := by decide +kernel
theorem dX0_lanesOfOwn_76 : decode cX0_lanesOfOwn 76 = .ok (.iconst 0, 1) := by decide +kernel
theorem dX0_lanesOfOwn_77 : decode cX0_lanesOfOwn 77 = .ok (.istore_n 2, 1) := by decide +kernel
theorem dX0_lanesOfOwn_78 : decode cX0_lanesOfOwn 78 = .ok (.iconst 0, 1) := by decide +kernel
theorem dX0_lanesOfOwn_79 : decode cX0_lanesOfOwn 79 = .ok (.istore_n 3, 1) := by decide +kernel
theorem dX0_lanesOfOwn_80 : decode cX0_lanesOfOwn 80 = .ok (.iload_n 3, 1) := by decide +kernel
theorem dX0_lanesOfOwn_81 : decode cX0_lanesOfOwn 81 = .ok (.aload_n 0, 1) := by decide +kernel
theorem dX0_lanesOfOwn_82 : decode cX0_lanesOfOwn 82 = .ok (.getfield 30, 3) := by decide +kernel
theorem dX0_lanesOfOwn_85 : decode cX0_lanesOfOwn 85 = .ok (.if_icmp .ge 29, 3) := by decide +kernel
theorem dX0_lanesOfOwn_88 : decode cX0_lanesOfOwn 88 = .ok (.aload_n 0, 1) := by decide +kernel
theorem dX0_lanesOfOwn_89 : decode cX0_lanesOfOwn 89 = .ok (.getfield 26, 3) := by decide +kernel
theorem dX0_lanesOfOwn_92 : decode cX0_lanesOfOwn 92 = .ok (.iload_n 3, 1) := by decide +kernel
theorem dX0_lanesOfOwn_93 : decode cX0_lanesOfOwn 93 = .ok (.baload, 1) := by decide +kernel
theorem dX0_lanesOfOwn_94 : decode cX0_lanesOfOwn 94 = .ok (.ifCond .eq 14, 3) := by decide +kernel
theorem dX0_lanesOfOwn_97 : decode cX0_lanesOfOwn 97 = .ok (.iload_n 2, 1) := by decide +kernel
theorem dX0_lanesOfOwn_98 : decode cX0_lanesOfOwn 98 = .ok (.aload_n 0, 1) := by decide +kernel
theorem dX0_lanesOfOwn_99 : decode cX0_lanesOfOwn 99 = .ok (.getfield 23, 3) := by decide +kernel
theorem dX0_lanesOfOwn_102 : decode cX0_lanesOfOwn 102 = .ok (.iload_n 3, 1) := by decide +kernel
theorem dX0_lanesOfOwn_103 : decode cX0_lanesOfOwn 103 = .ok (.iaload, 1) := by decide +kernel
theorem dX0_lanesOfOwn_104 : decode cX0_lanesOfOwn 104 = .ok (.invokestatic 83, 3) := by decide +kernel
theorem dX0_lanesOfOwn_107 : decode cX0_lanesOfOwn 107 = .ok (.istore_n 2, 1) := by decide +kernel
theorem dX0_lanesOfOwn_108 : decode cX0_lanesOfOwn 108 = .ok (.iinc 3 1, 3) := by decide +kernel
theorem dX0_lanesOfOwn_111 : decode cX0_lanesOfOwn 111 = .ok (.goto (-31), 3) := by decide +kernel
theorem dX0_lanesOfOwn_114 : decode cX0_lanesOfOwn 114 = .ok (.iload_n 2, 1) := by decide +kernel
theorem dX0_lanesOfOwn_115 : decode cX0_lanesOfOwn 115 = .ok (.iconst 1, 1) := by decide +kernel
theorem dX0_lanesOfOwn_116 : decode cX0_lanesOfOwn 116 = .ok (.iadd, 1) := by decide +kernel
theorem dX0_lanesOfOwn_117 : decode cX0_lanesOfOwn 117 = .ok (.ireturn, 1) := by decide +kernel
theorem dX0_touchesReached_0 : decode cX0_touchesReached 0 = .ok (.iconst 0, 1) := by decide +kernel
theorem dX0_touchesReached_1 : decode cX0_touchesReached 1 = .ok (.istore_n 2, 1) := by decide +kernel
theorem dX0_touchesReached_2 : decode cX0_touchesReached 2 = .ok (.iload_n 2, 1) := by decide +kernel
theorem dX0_touchesReached_3 : decode cX0_touchesReached 3 = .ok (.aload_n 0, 1) := by decide +kernel
theorem dX0_touchesReached_4 : decode cX0_touchesReached 4 = .ok (.getfield 30, 3) := by decide +kernel
theorem dX0_touchesReached_7 : decode cX0_touchesReached 7 = .ok (.if_icmp .ge 29, 3) := by decide +kernel
theorem dX0_touchesReached_10 : decode cX0_touchesReached 10 = .ok (.aload_n 0, 1) := by decide +kernel
theorem dX0_touchesReached_11 : decode cX0_touchesReached 11 = .ok (.getfield 26, 3) := by decide +kernel
theorem dX0_touchesReached_14 : decode cX0_touchesReached 14 = .ok (.iload_n 2, 1) := by decide +kernel
theorem dX0_touchesReached_15 : decode cX0_touchesReached 15 = .ok (.baload, 1) := by decide +kernel
theorem dX0_touchesReached_16 : decode cX0_touchesReached 16 = .ok (.ifCond .eq 14, 3) := by decide +kernel
theorem dX0_touchesReached_19 : decode cX0_touchesReached 19 = .ok (.aload_n 0, 1) := by decide +kernel
theorem dX0_touchesReached_20 : decode cX0_touchesReached 20 = .ok (.iload_n 1, 1) := by decide +kernel
theorem dX0_touchesReached_21 : decode cX0_touchesReached 21 = .ok (.iload_n 2, 1) := by decide +kernel
theorem dX0_touchesReached_22 : decode cX0_touchesReached 22 = .ok (.invokevirtual 89, 3) := by decide +kernel
theorem dX0_touchesReached_25 : decode cX0_touchesReached 25 = .ok (.ifCond .eq 5, 3) := by decide +kernel
theorem dX0_touchesReached_28 : decode cX0_touchesReached 28 = .ok (.iconst 1, 1) := by decide +kernel
theorem dX0_touchesReached_29 : decode cX0_touchesReached 29 = .ok (.ireturn, 1) := by decide +kernel
theorem dX0_touchesReached_30 : decode cX0_touchesReached 30 = .ok (.iinc 2 1, 3) := by decide +kernel
theorem dX0_touchesReached_33 : decode cX0_touchesReached 33 = .ok (.goto (-31), 3) := by decide +kernel
theorem dX0_touchesReached_36 : decode cX0_touchesReached 36 = .ok (.iconst 0, 1) := by decide +kernel
theorem dX0_touchesReached_37 : decode cX0_touchesReached 37 = .ok (.ireturn, 1) := by decide +kernel
