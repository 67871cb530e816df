theorem dX6_init_0 : decode cX6_init 0 = .ok (.aload_n 0, 1) := by decide +kernel
theorem dX6_init_1 : decode cX6_init 1 = .ok (.invokespecial 1, 3) := by decide +kernel
theorem dX6_init_4 : decode cX6_init 4 = .ok (.aload_n 0, 1) := by decide +kernel
theorem dX6_init_5 : decode cX6_init 5 = .ok (.iload_n 1, 1) := by decide +kernel
theorem dX6_init_6 : decode cX6_init 6 = .ok (.putfield 7, 3) := by decide +kernel
theorem dX6_init_9 : decode cX6_init 9 = .ok (.aload_n 0, 1) := by decide +kernel
theorem dX6_init_10 : decode cX6_init 10 = .ok (.aload_n 2, 1) := by decide +kernel
theorem dX6_init_11 : decode cX6_init 11 = .ok (.putfield 13, 3) := by decide +kernel
theorem dX6_init_14 : decode cX6_init 14 = .ok (.aload_n 0, 1) := by decide +kernel
theorem dX6_init_15 : decode cX6_init 15 = .ok (.aload_n 3, 1) := by decide +kernel
theorem dX6_init_16 : decode cX6_init 16 = .ok (.putfield 17, 3) := by decide +kernel
theorem dX6_init_19 : decode cX6_init 19 = .ok (.return_, 1) := by decide +kernel
theorem dX6_corners_0 : decode cX6_corners 0 = .ok (.aload_n 0, 1) := by decide +kernel
theorem dX6_corners_1 : decode cX6_corners 1 = .ok (.getfield 13, 3) := by decide +kernel
theorem dX6_corners_4 : decode cX6_corners 4 = .ok (.arraylength, 1) := by decide +kernel
theorem dX6_corners_5 : decode cX6_corners 5 = .ok (.ireturn, 1) := by decide +kernel
theorem dX6_segments_0 : decode cX6_segments 0 = .ok (.aload_n 0, 1) := by decide +kernel
theorem dX6_segments_1 : decode cX6_segments 1 = .ok (.getfield 13, 3) := by decide +kernel
theorem dX6_segments_4 : decode cX6_segments 4 = .ok (.arraylength, 1) := by decide +kernel
theorem dX6_segments_5 : decode cX6_segments 5 = .ok (.iconst 1, 1) := by decide +kernel
theorem dX6_segments_6 : decode cX6_segments 6 = .ok (.isub, 1) := by decide +kernel
theorem dX6_segments_7 : decode cX6_segments 7 = .ok (.ireturn, 1) := by decide +kernel
theorem dX6_isInner_0 : decode cX6_isInner 0 = .ok (.iload_n 1, 1) := by decide +kernel
theorem dX6_isInner_1 : decode cX6_isInner 1 = .ok (.iconst 1, 1) := by decide +kernel
theorem dX6_isInner_2 : decode cX6_isInner 2 = .ok (.if_icmp .lt 17, 3) := by decide +kernel
theorem dX6_isInner_5 : decode cX6_isInner 5 = .ok (.iload_n 1, 1) := by decide +kernel
theorem dX6_isInner_6 : decode cX6_isInner 6 = .ok (.aload_n 0, 1) := by decide +kernel
theorem dX6_isInner_7 : decode cX6_isInner 7 = .ok (.invokevirtual 20, 3) := by decide +kernel
theorem dX6_isInner_10 : decode cX6_isInner 10 = .ok (.iconst 1, 1) := by decide +kernel
theorem dX6_isInner_11 : decode cX6_isInner 11 = .ok (.isub, 1) := by decide +kernel
theorem dX6_isInner_12 : decode cX6_isInner 12 = .ok (.if_icmp .ge 7, 3) := by decide +kernel
theorem dX6_isInner_15 : decode cX6_isInner 15 = .ok (.iconst 1, 1) := by decide +kernel
theorem dX6_isInner_16 : decode cX6_isInner 16 = .ok (.goto 4, 3) := by decide +kernel
theorem dX6_isInner_19 : decode cX6_isInner 19 = .ok (.iconst 0, 1) := by decide +kernel
theorem dX6_isInner_20 : decode cX6_isInner 20 = .ok (.ireturn, 1) := by decide +kernel
theorem dX6_isLevel_0 : decode cX6_isLevel 0 = .ok (.aload_n 0, 1) := by decide +kernel
theorem dX6_isLevel_1 : decode cX6_isLevel 1 = .ok (.getfield 17, 3) := by decide +kernel
theorem dX6_isLevel_4 : decode cX6_isLevel 4 = .ok (.iload_n 1, 1) := by decide +kernel
theorem dX6_isLevel_5 : decode cX6_isLevel 5 = .ok (.iaload, 1) := by decide +kernel
theorem dX6_isLevel_6 : decode cX6_isLevel 6 = .ok (.aload_n 0, 1) := by decide +kernel
theorem dX6_isLevel_7 : decode cX6_isLevel 7 = .ok (.getfield 17, 3) := by decide +kernel
theorem dX6_isLevel_10 : decode cX6_isLevel 10 = .ok (.iload_n 1, 1) := by decide +kernel
theorem dX6_isLevel_11 : decode cX6_isLevel 11 = .ok (.iconst 1, 1) := by decide +kernel
theorem dX6_isLevel_12 : decode cX6_isLevel 12 = .ok (.iadd, 1) := by decide +kernel
theorem dX6_isLevel_13 : decode cX6_isLevel 13 = .ok (.iaload, 1) := by decide +kernel
theorem dX6_isLevel_14 : decode cX6_isLevel 14 = .ok (.if_icmp .ne 7, 3) := by decide +kernel
theorem dX6_isLevel_17 : decode cX6_isLevel 17 = .ok (.iconst 1, 1) := by decide +kernel
theorem dX6_isLevel_18 : decode cX6_isLevel 18 = .ok (.goto 4, 3) := by decide +kernel
theorem dX6_isLevel_21 : decode cX6_isLevel 21 = .ok (.iconst 0, 1) := by decide +kernel
theorem dX6_isLevel_22 : decode cX6_isLevel 22 = .ok (.ireturn, 1) := by decide +kernel
theorem dX6_lineOf_0 : decode cX6_lineOf 0 = .ok (.aload_n 0, 1) := by decide +kernel
theorem dX6_lineOf_1 : decode cX6_lineOf 1 = .ok (.iload_n 1, 1) := by decide +kernel
theorem dX6_lineOf_2 : decode cX6_lineOf 2 = .ok (.invokevirtual 24, 3) := by decide +kernel
theorem dX6_lineOf_5 : decode cX6_lineOf 5 = .ok (.ifCond .eq 12, 3) := by decide +kernel
theorem dX6_lineOf_8 : decode cX6_lineOf 8 = .ok (.aload_n 0, 1) := by decide +kernel
theorem dX6_lineOf_9 : decode cX6_lineOf 9 = .ok (.getfield 17, 3) := by decide +kernel
theorem dX6_lineOf_12 : decode cX6_lineOf 12 = .ok (.iload_n 1, 1) := by decide +kernel
theorem dX6_lineOf_13 : decode cX6_lineOf 13 = .ok (.iaload, 1) := by decide +kernel
theorem dX6_lineOf_14 : decode cX6_lineOf 14 = .ok (.goto 9, 3) := by decide +kernel
theorem dX6_lineOf_17 : decode cX6_lineOf 17 = .ok (.aload_n 0, 1) := by decide +kernel
theorem dX6_lineOf_18 : decode cX6_lineOf 18 = .ok (.getfield 13, 3) := by decide +kernel
theorem dX6_lineOf_21 : decode cX6_lineOf 21 = .ok (.iload_n 1, 1) := by decide +kernel
theorem dX6_lineOf_22 : decode cX6_lineOf 22 = .ok (.iaload, 1) := by decide +kernel
theorem dX6_lineOf_23 : decode cX6_lineOf 23 = .ok (.ireturn, 1) := by decide +kernel
theorem dX6_runsUp_0 : decode cX6_runsUp 0 = .ok (.aload_n 0, 1) := by decide +kernel
theorem dX6_runsUp_1 : decode cX6_runsUp 1 = .ok (.iload_n 1, 1) := by decide +kernel
theorem dX6_runsUp_2 : decode cX6_runsUp 2 = .ok (.invokevirtual 24, 3) := by decide +kernel
theorem dX6_runsUp_5 : decode cX6_runsUp 5 = .ok (.ifCond .eq 28, 3) := by decide +kernel
theorem dX6_runsUp_8 : decode cX6_runsUp 8 = .ok (.aload_n 0, 1) := by decide +kernel
theorem dX6_runsUp_9 : decode cX6_runsUp 9 = .ok (.getfield 13, 3) := by decide +kernel
theorem dX6_runsUp_12 : decode cX6_runsUp 12 = .ok (.iload_n 1, 1) := by decide +kernel
theorem dX6_runsUp_13 : decode cX6_runsUp 13 = .ok (.iconst 1, 1) := by decide +kernel
theorem dX6_runsUp_14 : decode cX6_runsUp 14 = .ok (.iadd, 1) := by decide +kernel
theorem dX6_runsUp_15 : decode cX6_runsUp 15 = .ok (.iaload, 1) := by decide +kernel
theorem dX6_runsUp_16 : decode cX6_runsUp 16 = .ok (.aload_n 0, 1) := by decide +kernel
theorem dX6_runsUp_17 : decode cX6_runsUp 17 = .ok (.getfield 13, 3) := by decide +kernel
theorem dX6_runsUp_20 : decode cX6_runsUp 20 = .ok (.iload_n 1, 1) := by decide +kernel
theorem dX6_runsUp_21 : decode cX6_runsUp 21 = .ok (.iaload, 1) := by decide +kernel
theorem dX6_runsUp_22 : decode cX6_runsUp 22 = .ok (.if_icmp .ge 7, 3) := by decide +kernel
theorem dX6_runsUp_25 : decode cX6_runsUp 25 = .ok (.iconst 1, 1) := by decide +kernel
theorem dX6_runsUp_26 : decode cX6_runsUp 26 = .ok (.goto 29, 3) := by decide +kernel
theorem dX6_runsUp_29 : decode cX6_runsUp 29 = .ok (.iconst 0, 1) := by decide +kernel
theorem dX6_runsUp_30 : decode cX6_runsUp 30 = .ok (.goto 25, 3) := by decide +kernel
theorem dX6_runsUp_33 : decode cX6_runsUp 33 = .ok (.aload_n 0, 1) := by decide +kernel
theorem dX6_runsUp_34 : decode cX6_runsUp 34 = .ok (.getfield 17, 3) := by decide +kernel
theorem dX6_runsUp_37 : decode cX6_runsUp 37 = .ok (.iload_n 1, 1) := by decide +kernel
theorem dX6_runsUp_38 : decode cX6_runsUp 38 = .ok (.iconst 1, 1) := by decide +kernel
theorem dX6_runsUp_39 : decode cX6_runsUp 39 = .ok (.iadd, 1) := by decide +kernel
theorem dX6_runsUp_40 : decode cX6_runsUp 40 = .ok (.iaload, 1) := by decide +kernel
theorem dX6_runsUp_41 : decode cX6_runsUp 41 = .ok (.aload_n 0, 1) := by decide +kernel
theorem dX6_runsUp_42 : decode cX6_runsUp 42 = .ok (.getfield 17, 3) := by decide +kernel
theorem dX6_runsUp_45 : decode cX6_runsUp 45 = .ok (.iload_n 1, 1) := by decide +kernel
theorem dX6_runsUp_46 : decode cX6_runsUp 46 = .ok (.iaload, 1) := by decide +kernel
theorem dX6_runsUp_47 : decode cX6_runsUp 47 = .ok (.if_icmp .ge 7, 3) := by decide +kernel
theorem dX6_runsUp_50 : decode cX6_runsUp 50 = .ok (.iconst 1, 1) := by decide +kernel
theorem dX6_runsUp_51 : decode cX6_runsUp 51 = .ok (.goto 4, 3) := by decide +kernel
theorem dX6_runsUp_54 : decode cX6_runsUp 54 = .ok (.iconst 0, 1) := by decide +kernel
theorem dX6_runsUp_55 : decode cX6_runsUp 55 = .ok (.ireturn, 1) := by decide +kernel
theorem dX6_startOf_0 : decode cX6_startOf 0 = .ok (.aload_n 0, 1) := by decide +kernel
theorem dX6_startOf_1 : decode cX6_startOf 1 = .ok (.iload_n 1, 1) := by decide +kernel
theorem dX6_startOf_2 : decode cX6_startOf 2 = .ok (.invokevirtual 24, 3) := by decide +kernel
theorem dX6_startOf_5 : decode cX6_startOf 5 = .ok (.ifCond .eq 23, 3) := by decide +kernel
theorem dX6_startOf_8 : decode cX6_startOf 8 = .ok (.aload_n 0, 1) := by decide +kernel
theorem dX6_startOf_9 : decode cX6_startOf 9 = .ok (.getfield 13, 3) := by decide +kernel
theorem dX6_startOf_12 : decode cX6_startOf 12 = .ok (.iload_n 1, 1) := by decide +kernel
theorem dX6_startOf_13 : decode cX6_startOf 13 = .ok (.iaload, 1) := by decide +kernel
theorem dX6_startOf_14 : decode cX6_startOf 14 = .ok (.aload_n 0, 1) := by decide +kernel
theorem dX6_startOf_15 : decode cX6_startOf 15 = .ok (.getfield 13, 3) := by decide +kernel
theorem dX6_startOf_18 : decode cX6_startOf 18 = .ok (.iload_n 1, 1) := by decide +kernel
theorem dX6_startOf_19 : decode cX6_startOf 19 = .ok (.iconst 1, 1) := by decide +kernel
theorem dX6_startOf_20 : decode cX6_startOf 20 = .ok (.iadd, 1) := by decide +kernel
theorem dX6_startOf_21 : decode cX6_startOf 21 = .ok (.iaload, 1) := by decide +kernel
theorem dX6_startOf_22 : decode cX6_startOf 22 = .ok (.invokestatic 28, 3) := by decide +kernel
theorem dX6_startOf_25 : decode cX6_startOf 25 = .ok (.goto 20, 3) := by decide +kernel
theorem dX6_startOf_28 : decode cX6_startOf 28 = .ok (.aload_n 0, 1) := by decide +kernel
theorem dX6_startOf_29 : decode cX6_startOf 29 = .ok (.getfield 17, 3) := by decide +kernel
theorem dX6_startOf_32 : decode cX6_startOf 32 = .ok (.iload_n 1, 1) := by decide +kernel
theorem dX6_startOf_33 : decode cX6_startOf 33 = .ok (.iaload, 1) := by decide +kernel
theorem dX6_startOf_34 : decode cX6_startOf 34 = .ok (.aload_n 0, 1) := by decide +kernel
theorem dX6_startOf_35 : decode cX6_startOf 35 = .ok (.getfield 17, 3) := by decide +kernel
theorem dX6_startOf_38 : decode cX6_startOf 38 = .ok (.iload_n 1, 1) := by decide +kernel
theorem dX6_startOf_39 : decode cX6_startOf 39 = .ok (.iconst 1, 1) := by decide +kernel
theorem dX6_startOf_40 : decode cX6_startOf 40 = .ok (.iadd, 1) := by decide +kernel
theorem dX6_startOf_41 : decode cX6_startOf 41 = .ok (.iaload, 1) := by decide +kernel
theorem dX6_startOf_42 : decode cX6_startOf 42 = .ok (.invokestatic 28, 3) := by decide +kernel
theorem dX6_startOf_45 : decode cX6_startOf 45 = .ok (.ireturn, 1) := by decide +kernel
theorem dX6_endOf_0 : decode cX6_endOf 0 = .ok (.aload_n 0, 1) := by decide +kernel
theorem dX6_endOf_1 : decode cX6_endOf 1 = .ok (.iload_n 1, 1) := by decide +kernel
theorem dX6_endOf_2 : decode cX6_endOf 2 = .ok (.invokevirtual 24, 3) := by decide +kernel
theorem dX6_endOf_5 : decode cX6_endOf 5 = .ok (.ifCond .eq 23, 3) := by decide +kernel
theorem dX6_endOf_8 : decode cX6_endOf 8 = .ok (.aload_n 0, 1) := by decide +kernel
theorem dX6_endOf_9 : decode cX6_endOf 9 = .ok (.getfield 13, 3) := by decide +kernel
theorem dX6_endOf_12 : decode cX6_endOf 12 = .ok (.iload_n 1, 1) := by decide +kernel
theorem dX6_endOf_13 : decode cX6_endOf 13 = .ok (.iaload, 1) := by decide +kernel
theorem dX6_endOf_14 : decode cX6_endOf 14 = .ok (.aload_n 0, 1) := by decide +kernel
theorem dX6_endOf_15 : decode cX6_endOf 15 = .ok (.getfield 13, 3) := by decide +kernel
theorem dX6_endOf_18 : decode cX6_endOf 18 = .ok (.iload_n 1, 1) := by decide +kernel
theorem dX6_endOf_19 : decode cX6_endOf 19 = .ok (.iconst 1, 1) := by decide +kernel
theorem dX6_endOf_20 : decode cX6_endOf 20 = .ok (.iadd, 1) := by decide +kernel
theorem dX6_endOf_21 : decode cX6_endOf 21 = .ok (.iaload, 1) := by decide +kernel
theorem dX6_endOf_22 : decode cX6_endOf 22 = .ok (.invokestatic 34, 3) := by decide +kernel
theorem dX6_endOf_25 : decode cX6_endOf 25 = .ok (.goto 20, 3) := by decide +kernel
theorem dX6_endOf_28 : decode cX6_endOf 28 = .ok (.aload_n 0, 1) := by decide +kernel
theorem dX6_endOf_29 : decode cX6_endOf 29 = .ok (.getfield 17, 3) := by decide +kernel
theorem dX6_endOf_32 : decode cX6_endOf 32 = .ok (.iload_n 1, 1) := by decide +kernel
theorem dX6_endOf_33 : decode cX6_endOf 33 = .ok (.iaload, 1) := by decide +kernel
theorem dX6_endOf_34 : decode cX6_endOf 34 = .ok (.aload_n 0, 1) := by decide +kernel
theorem dX6_endOf_35 : decode cX6_endOf 35 = .ok (.getfield 17, 3) := by decide +kernel
theorem dX6_endOf_38 : decode cX6_endOf 38 = .ok (.iload_n 1, 1) := by decide +kernel
theorem dX6_endOf_39 : decode cX6_endOf 39 = .ok (.iconst 1, 1) := by decide +kernel
theorem dX6_endOf_40 : decode cX6_endOf 40 = .ok (.iadd, 1) := by decide +kernel
theorem dX6_endOf_41 : decode cX6_endOf 41 = .ok (.iaload, 1) := by decide +kernel
theorem dX6_endOf_42 : decode cX6_endOf 42 = .ok (.invokestatic 34, 3) := by decide +kernel
theorem dX6_endOf_45 : decode cX6_endOf 45 = .ok (.ireturn, 1) := by decide +kernel
theorem dX6_length_0 : decode cX6_length 0 = .ok (.iconst 0, 1) := by decide +kernel
theorem dX6_length_1 : decode cX6_length 1 = .ok (.istore_n 1, 1) := by decide +kernel
theorem dX6_length_2 : decode cX6_length 2 = .ok (.iconst 0, 1) := by decide +kernel
theorem dX6_length_3 : decode cX6_length 3 = .ok (.istore_n 2, 1) := by decide +kernel
theorem dX6_length_4 : decode cX6_length 4 = .ok (.iload_n 2, 1) := by decide +kernel
theorem dX6_length_5 : decode cX6_length 5 = .ok (.aload_n 0, 1) := by decide +kernel
theorem dX6_length_6 : decode cX6_length 6 = .ok (.invokevirtual 20, 3) := by decide +kernel
theorem dX6_length_9 : decode cX6_length 9 = .ok (.if_icmp .ge 23, 3) := by decide +kernel
theorem dX6_length_12 : decode cX6_length 12 = .ok (.iload_n 1, 1) := by decide +kernel
theorem dX6_length_13 : decode cX6_length 13 = .ok (.aload_n 0, 1) := by decide +kernel
theorem dX6_length_14 : decode cX6_length 14 = .ok (.iload_n 2, 1) := by decide +kernel
theorem dX6_length_15 : decode cX6_length 15 = .ok (.invokevirtual 37, 3) := by decide +kernel
theorem dX6_length_18 : decode cX6_length 18 = .ok (.aload_n 0, 1) := by decide +kernel
theorem dX6_length_19 : decode cX6_length 19 = .ok (.iload_n 2, 1) := by decide +kernel
theorem dX6_length_20 : decode cX6_length 20 = .ok (.invokevirtual 41, 3) := by decide +kernel
theorem dX6_length_23 : decode cX6_length 23 = .ok (.isub, 1) := by decide +kernel
theorem dX6_length_24 : decode cX6_length 24 = .ok (.iadd, 1) := by decide +kernel
theorem dX6_length_25 : decode cX6_length 25 = .ok (.istore_n 1, 1) := by decide +kernel
theorem dX6_length_26 : decode cX6_length 26 = .ok (.iinc 2 1, 3) := by decide +kernel
theorem dX6_length_29 : decode cX6_length 29 = .ok (.goto (-25), 3) := by decide +kernel
theorem dX6_length_32 : decode cX6_length 32 = .ok (.iload_n 1, 1) := by decide +kernel
theorem dX6_length_33 : decode cX6_length 33 = .ok (.ireturn, 1) := by decide +kernel
theorem dX6_pullOf_0 : decode cX6_pullOf 0 = .ok (.aload_n 0, 1) := by decide +kernel
theorem dX6_pullOf_1 : decode cX6_pullOf 1 = .ok (.iload_n 1, 1) := by decide +kernel
theorem dX6_pullOf_2 : decode cX6_pullOf 2 = .ok (.invokevirtual 24, 3) := by decide +kernel
theorem dX6_pullOf_5 : decode cX6_pullOf 5 = .ok (.ifCond .eq 10, 3) := by decide +kernel
theorem dX6_pullOf_8 : decode cX6_pullOf 8 = .ok (.aload_n 0, 1) := by decide +kernel
theorem dX6_pullOf_9 : decode cX6_pullOf 9 = .ok (.getfield 17, 3) := by decide +kernel
theorem dX6_pullOf_12 : decode cX6_pullOf 12 = .ok (.goto 7, 3) := by decide +kernel
theorem dX6_pullOf_15 : decode cX6_pullOf 15 = .ok (.aload_n 0, 1) := by decide +kernel
theorem dX6_pullOf_16 : decode cX6_pullOf 16 = .ok (.getfield 13, 3) := by decide +kernel
theorem dX6_pullOf_19 : decode cX6_pullOf 19 = .ok (.astore_n 2, 1) := by decide +kernel
theorem dX6_pullOf_20 : decode cX6_pullOf 20 = .ok (.aload_n 2, 1) := by decide +kernel
theorem dX6_pullOf_21 : decode cX6_pullOf 21 = .ok (.iload_n 1, 1) := by decide +kernel
theorem dX6_pullOf_22 : decode cX6_pullOf 22 = .ok (.iconst 1, 1) := by decide +kernel
theorem dX6_pullOf_23 : decode cX6_pullOf 23 = .ok (.isub, 1) := by decide +kernel
theorem dX6_pullOf_24 : decode cX6_pullOf 24 = .ok (.iaload, 1) := by decide +kernel
theorem dX6_pullOf_25 : decode cX6_pullOf 25 = .ok (.aload_n 2, 1) := by decide +kernel
theorem dX6_pullOf_26 : decode cX6_pullOf 26 = .ok (.iload_n 1, 1) := by decide +kernel
theorem dX6_pullOf_27 : decode cX6_pullOf 27 = .ok (.iconst 2, 1) := by decide +kernel
theorem dX6_pullOf_28 : decode cX6_pullOf 28 = .ok (.iadd, 1) := by decide +kernel
theorem dX6_pullOf_29 : decode cX6_pullOf 29 = .ok (.iaload, 1) := by decide +kernel
theorem dX6_pullOf_30 : decode cX6_pullOf 30 = .ok (.iadd, 1) := by decide +kernel
theorem dX6_pullOf_31 : decode cX6_pullOf 31 = .ok (.iconst 2, 1) := by decide +kernel
theorem dX6_pullOf_32 : decode cX6_pullOf 32 = .ok (.aload_n 2, 1) := by decide +kernel
theorem dX6_pullOf_33 : decode cX6_pullOf 33 = .ok (.iload_n 1, 1) := by decide +kernel
theorem dX6_pullOf_34 : decode cX6_pullOf 34 = .ok (.iaload, 1) := by decide +kernel
theorem dX6_pullOf_35 : decode cX6_pullOf 35 = .ok (.imul, 1) := by decide +kernel
theorem dX6_pullOf_36 : decode cX6_pullOf 36 = .ok (.isub, 1) := by decide +kernel
theorem dX6_pullOf_37 : decode cX6_pullOf 37 = .ok (.ireturn, 1) := by decide +kernel
theorem dX6_hasCornerAt_0 : decode cX6_hasCornerAt 0 = .ok (.iconst 0, 1) := by decide +kernel
theorem dX6_hasCornerAt_1 : decode cX6_hasCornerAt 1 = .ok (.istore_n 3, 1) := by decide +kernel
theorem dX6_hasCornerAt_2 : decode cX6_hasCornerAt 2 = .ok (.iload_n 3, 1) := by decide +kernel
theorem dX6_hasCornerAt_3 : decode cX6_hasCornerAt 3 = .ok (.aload_n 0, 1) := by decide +kernel
theorem dX6_hasCornerAt_4 : decode cX6_hasCornerAt 4 = .ok (.invokevirtual 44, 3) := by decide +kernel
theorem dX6_hasCornerAt_7 : decode cX6_hasCornerAt 7 = .ok (.if_icmp .ge 31, 3) := by decide +kernel
theorem dX6_hasCornerAt_10 : decode cX6_hasCornerAt 10 = .ok (.aload_n 0, 1) := by decide +kernel
theorem dX6_hasCornerAt_11 : decode cX6_hasCornerAt 11 = .ok (.getfield 13, 3) := by decide +kernel
theorem dX6_hasCornerAt_14 : decode cX6_hasCornerAt 14 = .ok (.iload_n 3, 1) := by decide +kernel
theorem dX6_hasCornerAt_15 : decode cX6_hasCornerAt 15 = .ok (.iaload, 1) := by decide +kernel
theorem dX6_hasCornerAt_16 : decode cX6_hasCornerAt 16 = .ok (.iload_n 1, 1) := by decide +kernel
theorem dX6_hasCornerAt_17 : decode cX6_hasCornerAt 17 = .ok (.if_icmp .ne 15, 3) := by decide +kernel
theorem dX6_hasCornerAt_20 : decode cX6_hasCornerAt 20 = .ok (.aload_n 0, 1) := by decide +kernel
theorem dX6_hasCornerAt_21 : decode cX6_hasCornerAt 21 = .ok (.getfield 17, 3) := by decide +kernel
theorem dX6_hasCornerAt_24 : decode cX6_hasCornerAt 24 = .ok (.iload_n 3, 1) := by decide +kernel
theorem dX6_hasCornerAt_25 : decode cX6_hasCornerAt 25 = .ok (.iaload, 1) := by decide +kernel
theorem dX6_hasCornerAt_26 : decode cX6_hasCornerAt 26 = .ok (.iload_n 2, 1) := by decide +kernel
theorem dX6_hasCornerAt_27 : decode cX6_hasCornerAt 27 = .ok (.if_icmp .ne 5, 3) := by decide +kernel
theorem dX6_hasCornerAt_30 : decode cX6_hasCornerAt 30 = .ok (.iconst 1, 1) := by decide +kernel
theorem dX6_hasCornerAt_31 : decode cX6_hasCornerAt 31 = .ok (.ireturn, 1) := by decide +kernel
theorem dX6_hasCornerAt_32 : decode cX6_hasCornerAt 32 = .ok (.iinc 3 1, 3) := by decide +kernel
theorem dX6_hasCornerAt_35 : decode cX6_hasCornerAt 35 = .ok (.goto (-33), 3) := by decide +kernel
theorem dX6_hasCornerAt_38 : decode cX6_hasCornerAt 38 = .ok (.iconst 0, 1) := by decide +kernel
theorem dX6_hasCornerAt_39 : decode cX6_hasCornerAt 39 = .ok (.ireturn, 1) := by decide +kernel
theorem dX6_passes_0 : decode cX6_passes 0 = .ok (.iconst 0, 1) := by decide +kernel
theorem dX6_passes_1 : decode cX6_passes 1 = .ok (.istore_n 3, 1) := by decide +kernel
theorem dX6_passes_2 : decode cX6_passes 2 = .ok (.iload_n 3, 1) := by decide +kernel
theorem dX6_passes_3 : decode cX6_passes 3 = .ok (.aload_n 0, 1) := by decide +kernel
theorem dX6_passes_4 : decode cX6_passes 4 = .ok (.invokevirtual 20, 3) := by decide +kernel
theorem dX6_passes_7 : decode cX6_passes 7 = .ok (.if_icmp .ge 71, 3) := by decide +kernel
theorem dX6_passes_10 : decode cX6_passes 10 = .ok (.aload_n 0, 1) := by decide +kernel
theorem dX6_passes_11 : decode cX6_passes 11 = .ok (.iload_n 3, 1) := by decide +kernel
theorem dX6_passes_12 : decode cX6_passes 12 = .ok (.invokevirtual 24, 3) := by decide +kernel
theorem dX6_passes_15 : decode cX6_passes 15 = .ok (.ifCond .eq 7, 3) := by decide +kernel
theorem dX6_passes_18 : decode cX6_passes 18 = .ok (.iload_n 1, 1) := by decide +kernel
theorem dX6_passes_19 : decode cX6_passes 19 = .ok (.goto 4, 3) := by decide +kernel
theorem dX6_passes_22 : decode cX6_passes 22 = .ok (.iload_n 2, 1) := by decide +kernel
theorem dX6_passes_23 : decode cX6_passes 23 = .ok (.istore 4, 2) := by decide +kernel
theorem dX6_passes_25 : decode cX6_passes 25 = .ok (.aload_n 0, 1) := by decide +kernel
theorem dX6_passes_26 : decode cX6_passes 26 = .ok (.iload_n 3, 1) := by decide +kernel
theorem dX6_passes_27 : decode cX6_passes 27 = .ok (.invokevirtual 24, 3) := by decide +kernel
theorem dX6_passes_30 : decode cX6_passes 30 = .ok (.ifCond .eq 7, 3) := by decide +kernel
theorem dX6_passes_33 : decode cX6_passes 33 = .ok (.iload_n 2, 1) := by decide +kernel
theorem dX6_passes_34 : decode cX6_passes 34 = .ok (.goto 4, 3) := by decide +kernel
theorem dX6_passes_37 : decode cX6_passes 37 = .ok (.iload_n 1, 1) := by decide +kernel
theorem dX6_passes_38 : decode cX6_passes 38 = .ok (.istore 5, 2) := by decide +kernel
theorem dX6_passes_40 : decode cX6_passes 40 = .ok (.iload 5, 2) := by decide +kernel
theorem dX6_passes_42 : decode cX6_passes 42 = .ok (.aload_n 0, 1) := by decide +kernel
theorem dX6_passes_43 : decode cX6_passes 43 = .ok (.iload_n 3, 1) := by decide +kernel
theorem dX6_passes_44 : decode cX6_passes 44 = .ok (.invokevirtual 47, 3) := by decide +kernel
theorem dX6_passes_47 : decode cX6_passes 47 = .ok (.if_icmp .ne 25, 3) := by decide +kernel
theorem dX6_passes_50 : decode cX6_passes 50 = .ok (.iload 4, 2) := by decide +kernel
theorem dX6_passes_52 : decode cX6_passes 52 = .ok (.aload_n 0, 1) := by decide +kernel
theorem dX6_passes_53 : decode cX6_passes 53 = .ok (.iload_n 3, 1) := by decide +kernel
theorem dX6_passes_54 : decode cX6_passes 54 = .ok (.invokevirtual 41, 3) := by decide +kernel
theorem dX6_passes_57 : decode cX6_passes 57 = .ok (.if_icmp .lt 15, 3) := by decide +kernel
theorem dX6_passes_60 : decode cX6_passes 60 = .ok (.iload 4, 2) := by decide +kernel
theorem dX6_passes_62 : decode cX6_passes 62 = .ok (.aload_n 0, 1) := by decide +kernel
theorem dX6_passes_63 : decode cX6_passes 63 = .ok (.iload_n 3, 1) := by decide +kernel
theorem dX6_passes_64 : decode cX6_passes 64 = .ok (.invokevirtual 37, 3) := by decide +kernel
theorem dX6_passes_67 : decode cX6_passes 67 = .ok (.if_icmp .gt 5, 3) := by decide +kernel
theorem dX6_passes_70 : decode cX6_passes 70 = .ok (.iconst 1, 1) := by decide +kernel
theorem dX6_passes_71 : decode cX6_passes 71 = .ok (.ireturn, 1) := by decide +kernel
theorem dX6_passes_72 : decode cX6_passes 72 = .ok (.iinc 3 1, 3) := by decide +kernel
theorem dX6_passes_75 : decode cX6_passes 75 = .ok (.goto (-73), 3) := by decide +kernel
theorem dX6_passes_78 : decode cX6_passes 78 = .ok (.iconst 0, 1) := by decide +kernel
theorem dX6_passes_79 : decode cX6_passes 79 = .ok (.ireturn, 1) := by decide +kernel
theorem dX6_crossingsWith_0 : decode cX6_crossingsWith 0 = .ok (.iconst 0, 1) := by decide +kernel
theorem dX6_crossingsWith_1 : decode cX6_crossingsWith 1 = .ok (.istore_n 2, 1) := by decide +kernel
theorem dX6_crossingsWith_2 : decode cX6_crossingsWith 2 = .ok (.iconst 0, 1) := by decide +kernel
theorem dX6_crossingsWith_3 : decode cX6_crossingsWith 3 = .ok (.istore_n 3, 1) := by decide +kernel
theorem dX6_crossingsWith_4 : decode cX6_crossingsWith 4 = .ok (.iload_n 3, 1) := by decide +kernel
theorem dX6_crossingsWith_5 : decode cX6_crossingsWith 5 = .ok (.aload_n 0, 1) := by decide +kernel
theorem dX6_crossingsWith_6 : decode cX6_crossingsWith 6 = .ok (.invokevirtual 20, 3) := by decide +kernel
theorem dX6_crossingsWith_9 : decode cX6_crossingsWith 9 = .ok (.if_icmp .ge 72, 3) := by decide +kernel
theorem dX6_crossingsWith_12 : decode cX6_crossingsWith 12 = .ok (.iconst 0, 1) := by decide +kernel
theorem dX6_crossingsWith_13 : decode cX6_crossingsWith 13 = .ok (.istore 4, 2) := by decide +kernel
theorem dX6_crossingsWith_15 : decode cX6_crossingsWith 15 = .ok (.iload 4, 2) := by decide +kernel
theorem dX6_crossingsWith_17 : decode cX6_crossingsWith 17 = .ok (.aload_n 1, 1) := by decide +kernel
theorem dX6_crossingsWith_18 : decode cX6_crossingsWith 18 = .ok (.invokevirtual 20, 3) := by decide +kernel
theorem dX6_crossingsWith_21 : decode cX6_crossingsWith 21 = .ok (.if_icmp .ge 54, 3) := by decide +kernel
theorem dX6_crossingsWith_24 : decode cX6_crossingsWith 24 = .ok (.aload_n 0, 1) := by decide +kernel
theorem dX6_crossingsWith_25 : decode cX6_crossingsWith 25 = .ok (.iload_n 3, 1) := by decide +kernel
theorem dX6_crossingsWith_26 : decode cX6_crossingsWith 26 = .ok (.invokevirtual 24, 3) := by decide +kernel
theorem dX6_crossingsWith_29 : decode cX6_crossingsWith 29 = .ok (.aload_n 1, 1) := by decide +kernel
theorem dX6_crossingsWith_30 : decode cX6_crossingsWith 30 = .ok (.iload 4, 2) := by decide +kernel
theorem dX6_crossingsWith_32 : decode cX6_crossingsWith 32 = .ok (.invokevirtual 24, 3) := by decide +kernel
theorem dX6_crossingsWith_35 : decode cX6_crossingsWith 35 = .ok (.if_icmp .eq 34, 3) := by decide +kernel
theorem dX6_crossingsWith_38 : decode cX6_crossingsWith 38 = .ok (.aload_n 0, 1) := by decide +kernel
theorem dX6_crossingsWith_39 : decode cX6_crossingsWith 39 = .ok (.aload_n 1, 1) := by decide +kernel
theorem dX6_crossingsWith_40 : decode cX6_crossingsWith 40 = .ok (.iload 4, 2) := by decide +kernel
theorem dX6_crossingsWith_42 : decode cX6_crossingsWith 42 = .ok (.invokevirtual 47, 3) := by decide +kernel
theorem dX6_crossingsWith_45 : decode cX6_crossingsWith 45 = .ok (.iload_n 3, 1) := by decide +kernel
theorem dX6_crossingsWith_46 : decode cX6_crossingsWith 46 = .ok (.invokevirtual 50, 3) := by decide +kernel
theorem dX6_crossingsWith_49 : decode cX6_crossingsWith 49 = .ok (.ifCond .eq 20, 3) := by decide +kernel
theorem dX6_crossingsWith_52 : decode cX6_crossingsWith 52 = .ok (.aload_n 1, 1) := by decide +kernel
theorem dX6_crossingsWith_53 : decode cX6_crossingsWith 53 = .ok (.aload_n 0, 1) := by decide +kernel
theorem dX6_crossingsWith_54 : decode cX6_crossingsWith 54 = .ok (.iload_n 3, 1) := by decide +kernel
theorem dX6_crossingsWith_55 : decode cX6_crossingsWith 55 = .ok (.invokevirtual 47, 3) := by decide +kernel
theorem dX6_crossingsWith_58 : decode cX6_crossingsWith 58 = .ok (.iload 4, 2) := by decide +kernel
theorem dX6_crossingsWith_60 : decode cX6_crossingsWith 60 = .ok (.invokevirtual 50, 3) := by decide +kernel
theorem dX6_crossingsWith_63 : decode cX6_crossingsWith 63 = .ok (.ifCond .eq 6, 3) := by decide +kernel
theorem dX6_crossingsWith_66 : decode cX6_crossingsWith 66 = .ok (.iinc 2 1, 3) := by decide +kernel
theorem dX6_crossingsWith_69 : decode cX6_crossingsWith 69 = .ok (.iinc 4 1, 3) := by decide +kernel
theorem dX6_crossingsWith_72 : decode cX6_crossingsWith 72 = .ok (.goto (-57), 3) := by decide +kernel
theorem dX6_crossingsWith_75 : decode cX6_crossingsWith 75 = .ok (.iinc 3 1, 3) := by decide +kernel
theorem dX6_crossingsWith_78 : decode cX6_crossingsWith 78 = .ok (.goto (-74), 3) := by decide +kernel
theorem dX6_crossingsWith_81 : decode cX6_crossingsWith 81 = .ok (.iload_n 2, 1) := by decide +kernel
theorem dX6_crossingsWith_82 : decode cX6_crossingsWith 82 = .ok (.ireturn, 1) := by decide +kernel
theorem dX6_isInside_0 : decode cX6_isInside 0 = .ok (.iload_n 1, 1) := by decide +kernel
theorem dX6_isInside_1 : decode cX6_isInside 1 = .ok (.aload_n 0, 1) := by decide +kernel
theorem dX6_isInside_2 : decode cX6_isInside 2 = .ok (.iload_n 2, 1) := by decide +kernel
theorem dX6_isInside_3 : decode cX6_isInside 3 = .ok (.invokevirtual 41, 3) := by decide +kernel
theorem dX6_isInside_6 : decode cX6_isInside 6 = .ok (.if_icmp .le 16, 3) := by decide +kernel
theorem dX6_isInside_9 : decode cX6_isInside 9 = .ok (.iload_n 1, 1) := by decide +kernel
theorem dX6_isInside_10 : decode cX6_isInside 10 = .ok (.aload_n 0, 1) := by decide +kernel
theorem dX6_isInside_11 : decode cX6_isInside 11 = .ok (.iload_n 2, 1) := by decide +kernel
theorem dX6_isInside_12 : decode cX6_isInside 12 = .ok (.invokevirtual 37, 3) := by decide +kernel
theorem dX6_isInside_15 : decode cX6_isInside 15 = .ok (.if_icmp .ge 7, 3) := by decide +kernel
theorem dX6_isInside_18 : decode cX6_isInside 18 = .ok (.iconst 1, 1) := by decide +kernel
theorem dX6_isInside_19 : decode cX6_isInside 19 = .ok (.goto 4, 3) := by decide +kernel
theorem dX6_isInside_22 : decode cX6_isInside 22 = .ok (.iconst 0, 1) := by decide +kernel
theorem dX6_isInside_23 : decode cX6_isInside 23 = .ok (.ireturn, 1) := by decide +kernel
theorem dX6_sharedLengthWith_0 : decode cX6_sharedLengthWith 0 = .ok (.iconst 0, 1) := by decide +kernel
theorem dX6_sharedLengthWith_1 : decode cX6_sharedLengthWith 1 = .ok (.istore_n 2, 1) := by decide +kernel
theorem dX6_sharedLengthWith_2 : decode cX6_sharedLengthWith 2 = .ok (.iconst 0, 1) := by decide +kernel
theorem dX6_sharedLengthWith_3 : decode cX6_sharedLengthWith 3 = .ok (.istore_n 3, 1) := by decide +kernel
theorem dX6_sharedLengthWith_4 : decode cX6_sharedLengthWith 4 = .ok (.iload_n 3, 1) := by decide +kernel
theorem dX6_sharedLengthWith_5 : decode cX6_sharedLengthWith 5 = .ok (.aload_n 0, 1) := by decide +kernel
theorem dX6_sharedLengthWith_6 : decode cX6_sharedLengthWith 6 = .ok (.invokevirtual 20, 3) := by decide +kernel
theorem dX6_sharedLengthWith_9 : decode cX6_sharedLengthWith 9 = .ok (.if_icmp .ge 95, 3) := by decide +kernel
theorem dX6_sharedLengthWith_12 : decode cX6_sharedLengthWith 12 = .ok (.iconst 0, 1) := by decide +kernel
theorem dX6_sharedLengthWith_13 : decode cX6_sharedLengthWith 13 = .ok (.istore 4, 2) := by decide +kernel
theorem dX6_sharedLengthWith_15 : decode cX6_sharedLengthWith 15 = .ok (.iload 4, 2) := by decide +kernel
theorem dX6_sharedLengthWith_17 : decode cX6_sharedLengthWith 17 = .ok (.aload_n 1, 1) := by decide +kernel
theorem dX6_sharedLengthWith_18 : decode cX6_sharedLengthWith 18 = .ok (.invokevirtual 20, 3) := by decide +kernel
theorem dX6_sharedLengthWith_21 : decode cX6_sharedLengthWith 21 = .ok (.if_icmp .ge 77, 3) := by decide +kernel
theorem dX6_sharedLengthWith_24 : decode cX6_sharedLengthWith 24 = .ok (.aload_n 0, 1) := by decide +kernel
theorem dX6_sharedLengthWith_25 : decode cX6_sharedLengthWith 25 = .ok (.iload_n 3, 1) := by decide +kernel
theorem dX6_sharedLengthWith_26 : decode cX6_sharedLengthWith 26 = .ok (.invokevirtual 24, 3) := by decide +kernel
theorem dX6_sharedLengthWith_29 : decode cX6_sharedLengthWith 29 = .ok (.aload_n 1, 1) := by decide +kernel
theorem dX6_sharedLengthWith_30 : decode cX6_sharedLengthWith 30 = .ok (.iload 4, 2) := by decide +kernel
theorem dX6_sharedLengthWith_32 : decode cX6_sharedLengthWith 32 = .ok (.invokevirtual 24, 3) := by decide +kernel
theorem dX6_sharedLengthWith_35 : decode cX6_sharedLengthWith 35 = .ok (.if_icmp .ne 57, 3) := by decide +kernel
theorem dX6_sharedLengthWith_38 : decode cX6_sharedLengthWith 38 = .ok (.aload_n 0, 1) := by decide +kernel
theorem dX6_sharedLengthWith_39 : decode cX6_sharedLengthWith 39 = .ok (.iload_n 3, 1) := by decide +kernel
theorem dX6_sharedLengthWith_40 : decode cX6_sharedLengthWith 40 = .ok (.invokevirtual 47, 3) := by decide +kernel
theorem dX6_sharedLengthWith_43 : decode cX6_sharedLengthWith 43 = .ok (.aload_n 1, 1) := by decide +kernel
theorem dX6_sharedLengthWith_44 : decode cX6_sharedLengthWith 44 = .ok (.iload 4, 2) := by decide +kernel
theorem dX6_sharedLengthWith_46 : decode cX6_sharedLengthWith 46 = .ok (.invokevirtual 47, 3) := by decide +kernel
theorem dX6_sharedLengthWith_49 : decode cX6_sharedLengthWith 49 = .ok (.if_icmp .ne 43, 3) := by decide +kernel
theorem dX6_sharedLengthWith_52 : decode cX6_sharedLengthWith 52 = .ok (.aload_n 0, 1) := by decide +kernel
theorem dX6_sharedLengthWith_53 : decode cX6_sharedLengthWith 53 = .ok (.iload_n 3, 1) := by decide +kernel
theorem dX6_sharedLengthWith_54 : decode cX6_sharedLengthWith 54 = .ok (.invokevirtual 37, 3) := by decide +kernel
theorem dX6_sharedLengthWith_57 : decode cX6_sharedLengthWith 57 = .ok (.aload_n 1, 1) := by decide +kernel
theorem dX6_sharedLengthWith_58 : decode cX6_sharedLengthWith 58 = .ok (.iload 4, 2) := by decide +kernel
theorem dX6_sharedLengthWith_60 : decode cX6_sharedLengthWith 60 = .ok (.invokevirtual 37, 3) := by decide +kernel
theorem dX6_sharedLengthWith_63 : decode cX6_sharedLengthWith 63 = .ok (.invokestatic 28, 3) := by decide +kernel
theorem dX6_sharedLengthWith_66 : decode cX6_sharedLengthWith 66 = .ok (.aload_n 0, 1) := by decide +kernel
theorem dX6_sharedLengthWith_67 : decode cX6_sharedLengthWith 67 = .ok (.iload_n 3, 1) := by decide +kernel
theorem dX6_sharedLengthWith_68 : decode cX6_sharedLengthWith 68 = .ok (.invokevirtual 41, 3) := by decide +kernel
theorem dX6_sharedLengthWith_71 : decode cX6_sharedLengthWith 71 = .ok (.aload_n 1, 1) := by decide +kernel
theorem dX6_sharedLengthWith_72 : decode cX6_sharedLengthWith 72 = .ok (.iload 4, 2) := by decide +kernel
theorem dX6_sharedLengthWith_74 : decode cX6_sharedLengthWith 74 = .ok (.invokevirtual 41, 3) := by decide +kernel
theorem dX6_sharedLengthWith_77 : decode cX6_sharedLengthWith 77 = .ok (.invokestatic 34, 3) := by decide +kernel
theorem dX6_sharedLengthWith_80 : decode cX6_sharedLengthWith 80 = .ok (.isub, 1) := by decide +kernel
theorem dX6_sharedLengthWith_81 : decode cX6_sharedLengthWith 81 = .ok (.istore 5, 2) := by decide +kernel
theorem dX6_sharedLengthWith_83 : decode cX6_sharedLengthWith 83 = .ok (.iload_n 2, 1) := by decide +kernel
theorem dX6_sharedLengthWith_84 : decode cX6_sharedLengthWith 84 = .ok (.iload 5, 2) := by decide +kernel
theorem dX6_sharedLengthWith_86 : decode cX6_sharedLengthWith 86 = .ok (.iconst 0, 1) := by decide +kernel
theorem dX6_sharedLengthWith_87 : decode cX6_sharedLengthWith 87 = .ok (.invokestatic 34, 3) := by decide +kernel
theorem dX6_sharedLengthWith_90 : decode cX6_sharedLengthWith 90 = .ok (.iadd, 1) := by decide +kernel
theorem dX6_sharedLengthWith_91 : decode cX6_sharedLengthWith 91 = .ok (.istore_n 2, 1) := by decide +kernel
theorem dX6_sharedLengthWith_92 : decode cX6_sharedLengthWith 92 = .ok (.iinc 4 1, 3) := by decide +kernel
theorem dX6_sharedLengthWith_95 : decode cX6_sharedLengthWith 95 = .ok (.goto (-80), 3) := by decide +kernel
theorem dX6_sharedLengthWith_98 : decode cX6_sharedLengthWith 98 = .ok (.iinc 3 1, 3) := by decide +kernel
theorem dX6_sharedLengthWith_101 : decode cX6_sharedLengthWith 101 = .ok (.goto (-97), 3) := by decide +kernel
theorem dX6_sharedLengthWith_104 : decode cX6_sharedLengthWith 104 = .ok (.iload_n 2, 1) := by decide +kernel
theorem dX6_sharedLengthWith_105 : decode cX6_sharedLengthWith 105 = .ok (.ireturn, 1) := by decide +kernel
theorem dX6_hashOnto_0 : decode cX6_hashOnto 0 = .ok (.ldc2_w 54, 3) := by decide +kernel
theorem dX6_hashOnto_3 : decode cX6_hashOnto 3 = .ok (.lload_n 1, 1) := by decide +kernel
theorem dX6_hashOnto_4 : decode cX6_hashOnto 4 = .ok (.lmul, 1) := by decide +kernel
theorem dX6_hashOnto_5 : decode cX6_hashOnto 5 = .ok (.aload_n 0, 1) := by decide +kernel
theorem dX6_hashOnto_6 : decode cX6_hashOnto 6 = .ok (.getfield 7, 3) := by decide +kernel
theorem dX6_hashOnto_9 : decode cX6_hashOnto 9 = .ok (.i2l, 1) := by decide +kernel
theorem dX6_hashOnto_10 : decode cX6_hashOnto 10 = .ok (.ladd, 1) := by decide +kernel
theorem dX6_hashOnto_11 : decode cX6_hashOnto 11 = .ok (.lstore_n 3, 1) := by decide +kernel
theorem dX6_hashOnto_12 : decode cX6_hashOnto 12 = .ok (.ldc2_w 54, 3) := by decide +kernel
theorem dX6_hashOnto_15 : decode cX6_hashOnto 15 = .ok (.lload_n 3, 1) := by decide +kernel
theorem dX6_hashOnto_16 : decode cX6_hashOnto 16 = .ok (.lmul, 1) := by decide +kernel
theorem dX6_hashOnto_17 : decode cX6_hashOnto 17 = .ok (.aload_n 0, 1) := by decide +kernel
theorem dX6_hashOnto_18 : decode cX6_hashOnto 18 = .ok (.invokevirtual 44, 3) := by decide +kernel
theorem dX6_hashOnto_21 : decode cX6_hashOnto 21 = .ok (.i2l, 1) := by decide +kernel
theorem dX6_hashOnto_22 : decode cX6_hashOnto 22 = .ok (.ladd, 1) := by decide +kernel
theorem dX6_hashOnto_23 : decode cX6_hashOnto 23 = .ok (.lstore_n 3, 1) := by decide +kernel
theorem dX6_hashOnto_24 : decode cX6_hashOnto 24 = .ok (.iconst 0, 1) := by decide +kernel
theorem dX6_hashOnto_25 : decode cX6_hashOnto 25 = .ok (.istore 5, 2) := by decide +kernel
theorem dX6_hashOnto_27 : decode cX6_hashOnto 27 = .ok (.iload 5, 2) := by decide +kernel
theorem dX6_hashOnto_29 : decode cX6_hashOnto 29 = .ok (.aload_n 0, 1) := by decide +kernel
theorem dX6_hashOnto_30 : decode cX6_hashOnto 30 = .ok (.invokevirtual 44, 3) := by decide +kernel
theorem dX6_hashOnto_33 : decode cX6_hashOnto 33 = .ok (.if_icmp .ge 39, 3) := by decide +kernel
theorem dX6_hashOnto_36 : decode cX6_hashOnto 36 = .ok (.ldc2_w 54, 3) := by decide +kernel
theorem dX6_hashOnto_39 : decode cX6_hashOnto 39 = .ok (.lload_n 3, 1) := by decide +kernel
theorem dX6_hashOnto_40 : decode cX6_hashOnto 40 = .ok (.lmul, 1) := by decide +kernel
theorem dX6_hashOnto_41 : decode cX6_hashOnto 41 = .ok (.aload_n 0, 1) := by decide +kernel
theorem dX6_hashOnto_42 : decode cX6_hashOnto 42 = .ok (.getfield 13, 3) := by decide +kernel
theorem dX6_hashOnto_45 : decode cX6_hashOnto 45 = .ok (.iload 5, 2) := by decide +kernel
theorem dX6_hashOnto_47 : decode cX6_hashOnto 47 = .ok (.iaload, 1) := by decide +kernel
theorem dX6_hashOnto_48 : decode cX6_hashOnto 48 = .ok (.i2l, 1) := by decide +kernel
theorem dX6_hashOnto_49 : decode cX6_hashOnto 49 = .ok (.ladd, 1) := by decide +kernel
theorem dX6_hashOnto_50 : decode cX6_hashOnto 50 = .ok (.lstore_n 3, 1) := by decide +kernel
theorem dX6_hashOnto_51 : decode cX6_hashOnto 51 = .ok (.ldc2_w 54, 3) := by decide +kernel
theorem dX6_hashOnto_54 : decode cX6_hashOnto 54 = .ok (.lload_n 3, 1) := by decide +kernel
theorem dX6_hashOnto_55 : decode cX6_hashOnto 55 = .ok (.lmul, 1) := by decide +kernel
theorem dX6_hashOnto_56 : decode cX6_hashOnto 56 = .ok (.aload_n 0, 1) := by decide +kernel
theorem dX6_hashOnto_57 : decode cX6_hashOnto 57 = .ok (.getfield 17, 3) := by decide +kernel
theorem dX6_hashOnto_60 : decode cX6_hashOnto 60 = .ok (.iload 5, 2) := by decide +kernel
theorem dX6_hashOnto_62 : decode cX6_hashOnto 62 = .ok (.iaload, 1) := by decide +kernel
theorem dX6_hashOnto_63 : decode cX6_hashOnto 63 = .ok (.i2l, 1) := by decide +kernel
theorem dX6_hashOnto_64 : decode cX6_hashOnto 64 = .ok (.ladd, 1) := by decide +kernel
theorem dX6_hashOnto_65 : decode cX6_hashOnto 65 = .ok (.lstore_n 3, 1) := by decide +kernel
theorem dX6_hashOnto_66 : decode cX6_hashOnto 66 = .ok (.iinc 5 1, 3) := by decide +kernel
theorem dX6_hashOnto_69 : decode cX6_hashOnto 69 = .ok (.goto (-42), 3) := by decide +kernel
theorem dX6_hashOnto_72 : decode cX6_hashOnto 72 = .ok (.lload_n 3, 1) := by decide +kernel
theorem dX6_hashOnto_73 : decode cX6_hashOnto 73 = .ok (.lreturn, 1) := by decide +kernel
theorem dX7_init_0 : decode cX7_init 0 = .ok (.aload_n 0, 1) := by decide +kernel
theorem dX7_init_1 : decode cX7_init 1 = .ok (.invokespecial 3, 3) := by decide +kernel
theorem dX7_init_4 : decode cX7_init 4 = .ok (.aload_n 0, 1) := by decide +kernel
theorem dX7_init_5 : decode cX7_init 5 = .ok (.sipush 256, 3) := by decide +kernel
theorem dX7_init_8 : decode cX7_init 8 = .ok (.newarray .int, 2) := by decide +kernel
theorem dX7_init_10 : decode cX7_init 10 = .ok (.putfield 11, 3) := by decide +kernel
theorem dX7_init_13 : decode cX7_init 13 = .ok (.aload_n 0, 1) := by decide +kernel
theorem dX7_init_14 : decode cX7_init 14 = .ok (.iload_n 1, 1) := by decide +kernel
theorem dX7_init_15 : decode cX7_init 15 = .ok (.newarray .int, 2) := by decide +kernel
theorem dX7_init_17 : decode cX7_init 17 = .ok (.putfield 15, 3) := by decide +kernel
theorem dX7_init_20 : decode cX7_init 20 = .ok (.aload_n 0, 1) := by decide +kernel
theorem dX7_init_21 : decode cX7_init 21 = .ok (.iload_n 1, 1) := by decide +kernel
theorem dX7_init_22 : decode cX7_init 22 = .ok (.newarray .int, 2) := by decide +kernel
theorem dX7_init_24 : decode cX7_init 24 = .ok (.putfield 18, 3) := by decide +kernel
theorem dX7_init_27 : decode cX7_init 27 = .ok (.return_, 1) := by decide +kernel
theorem dX7_clear_0 : decode cX7_clear 0 = .ok (.aload_n 0, 1) := by decide +kernel
theorem dX7_clear_1 : decode cX7_clear 1 = .ok (.iconst 0, 1) := by decide +kernel
theorem dX7_clear_2 : decode cX7_clear 2 = .ok (.putfield 21, 3) := by decide +kernel
theorem dX7_clear_5 : decode cX7_clear 5 = .ok (.aload_n 0, 1) := by decide +kernel
theorem dX7_clear_6 : decode cX7_clear 6 = .ok (.getfield 11, 3) := by decide +kernel
theorem dX7_clear_9 : decode cX7_clear 9 = .ok (.iconst (-1), 1) := by decide +kernel
theorem dX7_clear_10 : decode cX7_clear 10 = .ok (.invokestatic 25, 3) := by decide +kernel
theorem dX7_clear_13 : decode cX7_clear 13 = .ok (.return_, 1) := by decide +kernel
theorem dX7_put_0 : decode cX7_put 0 = .ok (.iload_n 2, 1) := by decide +kernel
theorem dX7_put_1 : decode cX7_put 1 = .ok (.sipush 255, 3) := by decide +kernel
theorem dX7_put_4 : decode cX7_put 4 = .ok (.iand, 1) := by decide +kernel
theorem dX7_put_5 : decode cX7_put 5 = .ok (.istore_n 3, 1) := by decide +kernel
theorem dX7_put_6 : decode cX7_put 6 = .ok (.aload_n 0, 1) := by decide +kernel
theorem dX7_put_7 : decode cX7_put 7 = .ok (.getfield 11, 3) := by decide +kernel
theorem dX7_put_10 : decode cX7_put 10 = .ok (.iload_n 3, 1) := by decide +kernel
theorem dX7_put_11 : decode cX7_put 11 = .ok (.iaload, 1) := by decide +kernel
theorem dX7_put_12 : decode cX7_put 12 = .ok (.istore 4, 2) := by decide +kernel
theorem dX7_put_14 : decode cX7_put 14 = .ok (.aload_n 0, 1) := by decide +kernel
theorem dX7_put_15 : decode cX7_put 15 = .ok (.getfield 15, 3) := by decide +kernel
theorem dX7_put_18 : decode cX7_put 18 = .ok (.iload_n 1, 1) := by decide +kernel
theorem dX7_put_19 : decode cX7_put 19 = .ok (.iload 4, 2) := by decide +kernel
theorem dX7_put_21 : decode cX7_put 21 = .ok (.iastore, 1) := by decide +kernel
theorem dX7_put_22 : decode cX7_put 22 = .ok (.aload_n 0, 1) := by decide +kernel
theorem dX7_put_23 : decode cX7_put 23 = .ok (.getfield 18, 3) := by decide +kernel
theorem dX7_put_26 : decode cX7_put 26 = .ok (.iload_n 1, 1) := by decide +kernel
theorem dX7_put_27 : decode cX7_put 27 = .ok (.iconst (-1), 1) := by decide +kernel
theorem dX7_put_28 : decode cX7_put 28 = .ok (.iastore, 1) := by decide +kernel
theorem dX7_put_29 : decode cX7_put 29 = .ok (.iload 4, 2) := by decide +kernel
theorem dX7_put_31 : decode cX7_put 31 = .ok (.ifCond .lt 11, 3) := by decide +kernel
theorem dX7_put_34 : decode cX7_put 34 = .ok (.aload_n 0, 1) := by decide +kernel
theorem dX7_put_35 : decode cX7_put 35 = .ok (.getfield 18, 3) := by decide +kernel
theorem dX7_put_38 : decode cX7_put 38 = .ok (.iload 4, 2) := by decide +kernel
theorem dX7_put_40 : decode cX7_put 40 = .ok (.iload_n 1, 1) := by decide +kernel
theorem dX7_put_41 : decode cX7_put 41 = .ok (.iastore, 1) := by decide +kernel
theorem dX7_put_42 : decode cX7_put 42 = .ok (.aload_n 0, 1) := by decide +kernel
theorem dX7_put_43 : decode cX7_put 43 = .ok (.getfield 11, 3) := by decide +kernel
theorem dX7_put_46 : decode cX7_put 46 = .ok (.iload_n 3, 1) := by decide +kernel
theorem dX7_put_47 : decode cX7_put 47 = .ok (.iload_n 1, 1) := by decide +kernel
theorem dX7_put_48 : decode cX7_put 48 = .ok (.iastore, 1) := by decide +kernel
theorem dX7_put_49 : decode cX7_put 49 = .ok (.return_, 1) := by decide +kernel
theorem dX7_remove_0 : decode cX7_remove 0 = .ok (.aload_n 0, 1) := by decide +kernel
theorem dX7_remove_1 : decode cX7_remove 1 = .ok (.getfield 15, 3) := by decide +kernel
theorem dX7_remove_4 : decode cX7_remove 4 = .ok (.iload_n 1, 1) := by decide +kernel
theorem dX7_remove_5 : decode cX7_remove 5 = .ok (.iaload, 1) := by decide +kernel
theorem dX7_remove_6 : decode cX7_remove 6 = .ok (.istore_n 3, 1) := by decide +kernel
theorem dX7_remove_7 : decode cX7_remove 7 = .ok (.aload_n 0, 1) := by decide +kernel
theorem dX7_remove_8 : decode cX7_remove 8 = .ok (.getfield 18, 3) := by decide +kernel
theorem dX7_remove_11 : decode cX7_remove 11 = .ok (.iload_n 1, 1) := by decide +kernel
theorem dX7_remove_12 : decode cX7_remove 12 = .ok (.iaload, 1) := by decide +kernel
theorem dX7_remove_13 : decode cX7_remove 13 = .ok (.istore 4, 2) := by decide +kernel
theorem dX7_remove_15 : decode cX7_remove 15 = .ok (.iload_n 3, 1) := by decide +kernel
theorem dX7_remove_16 : decode cX7_remove 16 = .ok (.ifCond .lt 11, 3) := by decide +kernel
theorem dX7_remove_19 : decode cX7_remove 19 = .ok (.aload_n 0, 1) := by decide +kernel
theorem dX7_remove_20 : decode cX7_remove 20 = .ok (.getfield 18, 3) := by decide +kernel
theorem dX7_remove_23 : decode cX7_remove 23 = .ok (.iload_n 3, 1) := by decide +kernel
theorem dX7_remove_24 : decode cX7_remove 24 = .ok (.iload 4, 2) := by decide +kernel
theorem dX7_remove_26 : decode cX7_remove 26 = .ok (.iastore, 1) := by decide +kernel
theorem dX7_remove_27 : decode cX7_remove 27 = .ok (.iload 4, 2) := by decide +kernel
theorem dX7_remove_29 : decode cX7_remove 29 = .ok (.ifCond .lt 14, 3) := by decide +kernel
theorem dX7_remove_32 : decode cX7_remove 32 = .ok (.aload_n 0, 1) := by decide +kernel
theorem dX7_remove_33 : decode cX7_remove 33 = .ok (.getfield 15, 3) := by decide +kernel
theorem dX7_remove_36 : decode cX7_remove 36 = .ok (.iload 4, 2) := by decide +kernel
theorem dX7_remove_38 : decode cX7_remove 38 = .ok (.iload_n 3, 1) := by decide +kernel
theorem dX7_remove_39 : decode cX7_remove 39 = .ok (.iastore, 1) := by decide +kernel
theorem dX7_remove_40 : decode cX7_remove 40 = .ok (.goto 14, 3) := by decide +kernel
theorem dX7_remove_43 : decode cX7_remove 43 = .ok (.aload_n 0, 1) := by decide +kernel
theorem dX7_remove_44 : decode cX7_remove 44 = .ok (.getfield 11, 3) := by decide +kernel
theorem dX7_remove_47 : decode cX7_remove 47 = .ok (.iload_n 2, 1) := by decide +kernel
theorem dX7_remove_48 : decode cX7_remove 48 = .ok (.sipush 255, 3) := by decide +kernel
theorem dX7_remove_51 : decode cX7_remove 51 = .ok (.iand, 1) := by decide +kernel
theorem dX7_remove_52 : decode cX7_remove 52 = .ok (.iload_n 3, 1) := by decide +kernel
theorem dX7_remove_53 : decode cX7_remove 53 = .ok (.iastore, 1) := by decide +kernel
theorem dX7_remove_54 : decode cX7_remove 54 = .ok (.return_, 1) := by decide +kernel
theorem dX7_takeCheapest_0 : decode cX7_takeCheapest 0 = .ok (.iconst 0, 1) := by decide +kernel
theorem dX7_takeCheapest_1 : decode cX7_takeCheapest 1 = .ok (.istore_n 1, 1) := by decide +kernel
theorem dX7_takeCheapest_2 : decode cX7_takeCheapest 2 = .ok (.iload_n 1, 1) := by decide +kernel
theorem dX7_takeCheapest_3 : decode cX7_takeCheapest 3 = .ok (.sipush 256, 3) := by decide +kernel
theorem dX7_takeCheapest_6 : decode cX7_takeCheapest 6 = .ok (.if_icmp .ge 44, 3) := by decide +kernel
theorem dX7_takeCheapest_9 : decode cX7_takeCheapest 9 = .ok (.aload_n 0, 1) := by decide +kernel
theorem dX7_takeCheapest_10 : decode cX7_takeCheapest 10 = .ok (.getfield 21, 3) := by decide +kernel
theorem dX7_takeCheapest_13 : decode cX7_takeCheapest 13 = .ok (.iload_n 1, 1) := by decide +kernel
theorem dX7_takeCheapest_14 : decode cX7_takeCheapest 14 = .ok (.iadd, 1) := by decide +kernel
theorem dX7_takeCheapest_15 : decode cX7_takeCheapest 15 = .ok (.istore_n 2, 1) := by decide +kernel
theorem dX7_takeCheapest_16 : decode cX7_takeCheapest 16 = .ok (.aload_n 0, 1) := by decide +kernel
theorem dX7_takeCheapest_17 : decode cX7_takeCheapest 17 = .ok (.getfield 11, 3) := by decide +kernel
theorem dX7_takeCheapest_20 : decode cX7_takeCheapest 20 = .ok (.iload_n 2, 1) := by decide +kernel
theorem dX7_takeCheapest_21 : decode cX7_takeCheapest 21 = .ok (.sipush 255, 3) := by decide +kernel
theorem dX7_takeCheapest_24 : decode cX7_takeCheapest 24 = .ok (.iand, 1) := by decide +kernel
theorem dX7_takeCheapest_25 : decode cX7_takeCheapest 25 = .ok (.iaload, 1) := by decide +kernel
theorem dX7_takeCheapest_26 : decode cX7_takeCheapest 26 = .ok (.istore_n 3, 1) := by decide +kernel
theorem dX7_takeCheapest_27 : decode cX7_takeCheapest 27 = .ok (.iload_n 3, 1) := by decide +kernel
theorem dX7_takeCheapest_28 : decode cX7_takeCheapest 28 = .ok (.ifCond .lt 16, 3) := by decide +kernel
theorem dX7_takeCheapest_31 : decode cX7_takeCheapest 31 = .ok (.aload_n 0, 1) := by decide +kernel
theorem dX7_takeCheapest_32 : decode cX7_takeCheapest 32 = .ok (.iload_n 2, 1) := by decide +kernel
theorem dX7_takeCheapest_33 : decode cX7_takeCheapest 33 = .ok (.putfield 21, 3) := by decide +kernel
theorem dX7_takeCheapest_36 : decode cX7_takeCheapest 36 = .ok (.aload_n 0, 1) := by decide +kernel
theorem dX7_takeCheapest_37 : decode cX7_takeCheapest 37 = .ok (.iload_n 3, 1) := by decide +kernel
theorem dX7_takeCheapest_38 : decode cX7_takeCheapest 38 = .ok (.iload_n 2, 1) := by decide +kernel
theorem dX7_takeCheapest_39 : decode cX7_takeCheapest 39 = .ok (.invokevirtual 31, 3) := by decide +kernel
theorem dX7_takeCheapest_42 : decode cX7_takeCheapest 42 = .ok (.iload_n 3, 1) := by decide +kernel
theorem dX7_takeCheapest_43 : decode cX7_takeCheapest 43 = .ok (.ireturn, 1) := by decide +kernel
theorem dX7_takeCheapest_44 : decode cX7_takeCheapest 44 = .ok (.iinc 1 1, 3) := by decide +kernel
theorem dX7_takeCheapest_47 : decode cX7_takeCheapest 47 = .ok (.goto (-45), 3) := by decide +kernel
theorem dX7_takeCheapest_50 : decode cX7_takeCheapest 50 = .ok (.iconst (-1), 1) := by decide +kernel
theorem dX7_takeCheapest_51 : decode cX7_takeCheapest 51 = .ok (.ireturn, 1) := by decide +kernel
theorem dX8_init_0 : decode cX8_init 0 = .ok (.aload_n 0, 1) := by decide +kernel
theorem dX8_init_1 : decode cX8_init 1 = .ok (.invokespecial 7, 3) := by decide +kernel
theorem dX8_init_4 : decode cX8_init 4 = .ok (.aload_n 0, 1) := by decide +kernel
theorem dX8_init_5 : decode cX8_init 5 = .ok (.new 1, 3) := by decide +kernel
theorem dX8_init_8 : decode cX8_init 8 = .ok (.dup, 1) := by decide +kernel
theorem dX8_init_9 : decode cX8_init 9 = .ok (.invokespecial 13, 3) := by decide +kernel
theorem dX8_init_12 : decode cX8_init 12 = .ok (.putfield 14, 3) := by decide +kernel
theorem dX8_init_15 : decode cX8_init 15 = .ok (.aload_n 0, 1) := by decide +kernel
theorem dX8_init_16 : decode cX8_init 16 = .ok (.new 20, 3) := by decide +kernel
theorem dX8_init_19 : decode cX8_init 19 = .ok (.dup, 1) := by decide +kernel
theorem dX8_init_20 : decode cX8_init 20 = .ok (.sipush 1296, 3) := by decide +kernel
theorem dX8_init_23 : decode cX8_init 23 = .ok (.invokespecial 22, 3) := by decide +kernel
theorem dX8_init_26 : decode cX8_init 26 = .ok (.putfield 25, 3) := by decide +kernel
theorem dX8_init_29 : decode cX8_init 29 = .ok (.aload_n 0, 1) := by decide +kernel
theorem dX8_init_30 : decode cX8_init 30 = .ok (.sipush 1296, 3) := by decide +kernel
theorem dX8_init_33 : decode cX8_init 33 = .ok (.newarray .int, 2) := by decide +kernel
theorem dX8_init_35 : decode cX8_init 35 = .ok (.putfield 29, 3) := by decide +kernel
theorem dX8_init_38 : decode cX8_init 38 = .ok (.aload_n 0, 1) := by decide +kernel
theorem dX8_init_39 : decode cX8_init 39 = .ok (.sipush 326, 3) := by decide +kernel
theorem dX8_init_42 : decode cX8_init 42 = .ok (.newarray .int, 2) := by decide +kernel
theorem dX8_init_44 : decode cX8_init 44 = .ok (.putfield 33, 3) := by decide +kernel
theorem dX8_init_47 : decode cX8_init 47 = .ok (.aload_n 0, 1) := by decide +kernel
theorem dX8_init_48 : decode cX8_init 48 = .ok (.sipush 326, 3) := by decide +kernel
theorem dX8_init_51 : decode cX8_init 51 = .ok (.newarray .int, 2) := by decide +kernel
theorem dX8_init_53 : decode cX8_init 53 = .ok (.putfield 36, 3) := by decide +kernel
theorem dX8_init_56 : decode cX8_init 56 = .ok (.return_, 1) := by decide +kernel
theorem dX8_findCost_0 : decode cX8_findCost 0 = .ok (.aload_n 0, 1) := by decide +kernel
theorem dX8_findCost_1 : decode cX8_findCost 1 = .ok (.aload_n 1, 1) := by decide +kernel
theorem dX8_findCost_2 : decode cX8_findCost 2 = .ok (.iload_n 2, 1) := by decide +kernel
theorem dX8_findCost_3 : decode cX8_findCost 3 = .ok (.invokevirtual 39, 3) := by decide +kernel
theorem dX8_findCost_6 : decode cX8_findCost 6 = .ok (.aload_n 0, 1) := by decide +kernel
theorem dX8_findCost_7 : decode cX8_findCost 7 = .ok (.getfield 43, 3) := by decide +kernel
theorem dX8_findCost_10 : decode cX8_findCost 10 = .ok (.aload_n 0, 1) := by decide +kernel
theorem dX8_findCost_11 : decode cX8_findCost 11 = .ok (.getfield 47, 3) := by decide +kernel
theorem dX8_findCost_14 : decode cX8_findCost 14 = .ok (.invokestatic 50, 3) := by decide +kernel
theorem dX8_findCost_17 : decode cX8_findCost 17 = .ok (.istore_n 3, 1) := by decide +kernel
theorem dX8_findCost_18 : decode cX8_findCost 18 = .ok (.iconst 0, 1) := by decide +kernel
theorem dX8_findCost_19 : decode cX8_findCost 19 = .ok (.istore 4, 2) := by decide +kernel
theorem dX8_findCost_21 : decode cX8_findCost 21 = .ok (.iload 4, 2) := by decide +kernel
theorem dX8_findCost_23 : decode cX8_findCost 23 = .ok (.iconst 4, 1) := by decide +kernel
theorem dX8_findCost_24 : decode cX8_findCost 24 = .ok (.if_icmp .ge 28, 3) := by decide +kernel
theorem dX8_findCost_27 : decode cX8_findCost 27 = .ok (.aload_n 0, 1) := by decide +kernel
theorem dX8_findCost_28 : decode cX8_findCost 28 = .ok (.aload_n 0, 1) := by decide +kernel
theorem dX8_findCost_29 : decode cX8_findCost 29 = .ok (.getfield 54, 3) := by decide +kernel
theorem dX8_findCost_32 : decode cX8_findCost 32 = .ok (.iload 4, 2) := by decide +kernel
theorem dX8_findCost_34 : decode cX8_findCost 34 = .ok (.invokestatic 50, 3) := by decide +kernel
theorem dX8_findCost_37 : decode cX8_findCost 37 = .ok (.aload_n 0, 1) := by decide +kernel
theorem dX8_findCost_38 : decode cX8_findCost 38 = .ok (.iload 4, 2) := by decide +kernel
theorem dX8_findCost_40 : decode cX8_findCost 40 = .ok (.invokevirtual 57, 3) := by decide +kernel
theorem dX8_findCost_43 : decode cX8_findCost 43 = .ok (.invokevirtual 61, 3) := by decide +kernel
theorem dX8_findCost_46 : decode cX8_findCost 46 = .ok (.iinc 4 1, 3) := by decide +kernel
theorem dX8_findCost_49 : decode cX8_findCost 49 = .ok (.goto (-28), 3) := by decide +kernel
theorem dX8_findCost_52 : decode cX8_findCost 52 = .ok (.iconst 0, 1) := by decide +kernel
theorem dX8_findCost_53 : decode cX8_findCost 53 = .ok (.istore 4, 2) := by decide +kernel
theorem dX8_findCost_55 : decode cX8_findCost 55 = .ok (.iload 4, 2) := by decide +kernel
theorem dX8_findCost_57 : decode cX8_findCost 57 = .ok (.sipush 1296, 3) := by decide +kernel
theorem dX8_findCost_60 : decode cX8_findCost 60 = .ok (.if_icmp .ge 39, 3) := by decide +kernel
theorem dX8_findCost_63 : decode cX8_findCost 63 = .ok (.aload_n 0, 1) := by decide +kernel
theorem dX8_findCost_64 : decode cX8_findCost 64 = .ok (.getfield 25, 3) := by decide +kernel
theorem dX8_findCost_67 : decode cX8_findCost 67 = .ok (.invokevirtual 65, 3) := by decide +kernel
theorem dX8_findCost_70 : decode cX8_findCost 70 = .ok (.istore 5, 2) := by decide +kernel
theorem dX8_findCost_72 : decode cX8_findCost 72 = .ok (.iload 5, 2) := by decide +kernel
theorem dX8_findCost_74 : decode cX8_findCost 74 = .ok (.iconst (-1), 1) := by decide +kernel
theorem dX8_findCost_75 : decode cX8_findCost 75 = .ok (.if_icmp .eq 24, 3) := by decide +kernel
theorem dX8_findCost_78 : decode cX8_findCost 78 = .ok (.iload 5, 2) := by decide +kernel
theorem dX8_findCost_80 : decode cX8_findCost 80 = .ok (.iload_n 3, 1) := by decide +kernel
theorem dX8_findCost_81 : decode cX8_findCost 81 = .ok (.if_icmp .ne 6, 3) := by decide +kernel
theorem dX8_findCost_84 : decode cX8_findCost 84 = .ok (.goto 15, 3) := by decide +kernel
theorem dX8_findCost_87 : decode cX8_findCost 87 = .ok (.aload_n 0, 1) := by decide +kernel
theorem dX8_findCost_88 : decode cX8_findCost 88 = .ok (.iload 5, 2) := by decide +kernel
theorem dX8_findCost_90 : decode cX8_findCost 90 = .ok (.invokevirtual 69, 3) := by decide +kernel
theorem dX8_findCost_93 : decode cX8_findCost 93 = .ok (.iinc 4 1, 3) := by decide +kernel
theorem dX8_findCost_96 : decode cX8_findCost 96 = .ok (.goto (-41), 3) := by decide +kernel
theorem dX8_findCost_99 : decode cX8_findCost 99 = .ok (.aload_n 0, 1) := by decide +kernel
theorem dX8_findCost_100 : decode cX8_findCost 100 = .ok (.getfield 29, 3) := by decide +kernel
theorem dX8_findCost_103 : decode cX8_findCost 103 = .ok (.iload_n 3, 1) := by decide +kernel
theorem dX8_findCost_104 : decode cX8_findCost 104 = .ok (.iaload, 1) := by decide +kernel
theorem dX8_findCost_105 : decode cX8_findCost 105 = .ok (.ldc 72, 2) := by decide +kernel
theorem dX8_findCost_107 : decode cX8_findCost 107 = .ok (.if_icmp .lt 9, 3) := by decide +kernel
theorem dX8_findCost_110 : decode cX8_findCost 110 = .ok (.sipush (-1000), 3) := by decide +kernel
theorem dX8_findCost_113 : decode cX8_findCost 113 = .ok (.goto 11, 3) := by decide +kernel
theorem dX8_findCost_116 : decode cX8_findCost 116 = .ok (.iconst 2, 1) := by decide +kernel
theorem dX8_findCost_117 : decode cX8_findCost 117 = .ok (.aload_n 0, 1) := by decide +kernel
theorem dX8_findCost_118 : decode cX8_findCost 118 = .ok (.getfield 29, 3) := by decide +kernel
theorem dX8_findCost_121 : decode cX8_findCost 121 = .ok (.iload_n 3, 1) := by decide +kernel
theorem dX8_findCost_122 : decode cX8_findCost 122 = .ok (.iaload, 1) := by decide +kernel
theorem dX8_findCost_123 : decode cX8_findCost 123 = .ok (.iadd, 1) := by decide +kernel
theorem dX8_findCost_124 : decode cX8_findCost 124 = .ok (.ireturn, 1) := by decide +kernel
theorem dX8_prepare_0 : decode cX8_prepare 0 = .ok (.aload_n 0, 1) := by decide +kernel
theorem dX8_prepare_1 : decode cX8_prepare 1 = .ok (.aload_n 1, 1) := by decide +kernel
theorem dX8_prepare_2 : decode cX8_prepare 2 = .ok (.getfield 73, 3) := by decide +kernel
theorem dX8_prepare_5 : decode cX8_prepare 5 = .ok (.putfield 78, 3) := by decide +kernel
theorem dX8_prepare_8 : decode cX8_prepare 8 = .ok (.aload_n 0, 1) := by decide +kernel
theorem dX8_prepare_9 : decode cX8_prepare 9 = .ok (.aload_n 1, 1) := by decide +kernel
theorem dX8_prepare_10 : decode cX8_prepare 10 = .ok (.iload_n 2, 1) := by decide +kernel
theorem dX8_prepare_11 : decode cX8_prepare 11 = .ok (.iconst 0, 1) := by decide +kernel
theorem dX8_prepare_12 : decode cX8_prepare 12 = .ok (.invokevirtual 79, 3) := by decide +kernel
theorem dX8_prepare_15 : decode cX8_prepare 15 = .ok (.putfield 47, 3) := by decide +kernel
theorem dX8_prepare_18 : decode cX8_prepare 18 = .ok (.aload_n 0, 1) := by decide +kernel
theorem dX8_prepare_19 : decode cX8_prepare 19 = .ok (.aload_n 1, 1) := by decide +kernel
theorem dX8_prepare_20 : decode cX8_prepare 20 = .ok (.iload_n 2, 1) := by decide +kernel
theorem dX8_prepare_21 : decode cX8_prepare 21 = .ok (.iconst 1, 1) := by decide +kernel
theorem dX8_prepare_22 : decode cX8_prepare 22 = .ok (.invokevirtual 79, 3) := by decide +kernel
theorem dX8_prepare_25 : decode cX8_prepare 25 = .ok (.putfield 82, 3) := by decide +kernel
theorem dX8_prepare_28 : decode cX8_prepare 28 = .ok (.aload_n 1, 1) := by decide +kernel
theorem dX8_prepare_29 : decode cX8_prepare 29 = .ok (.iload_n 2, 1) := by decide +kernel
theorem dX8_prepare_30 : decode cX8_prepare 30 = .ok (.iconst 0, 1) := by decide +kernel
theorem dX8_prepare_31 : decode cX8_prepare 31 = .ok (.invokevirtual 85, 3) := by decide +kernel
theorem dX8_prepare_34 : decode cX8_prepare 34 = .ok (.aload_n 0, 1) := by decide +kernel
theorem dX8_prepare_35 : decode cX8_prepare 35 = .ok (.getfield 47, 3) := by decide +kernel
theorem dX8_prepare_38 : decode cX8_prepare 38 = .ok (.invokestatic 88, 3) := by decide +kernel
theorem dX8_prepare_41 : decode cX8_prepare 41 = .ok (.iadd, 1) := by decide +kernel
theorem dX8_prepare_42 : decode cX8_prepare 42 = .ok (.istore_n 3, 1) := by decide +kernel
theorem dX8_prepare_43 : decode cX8_prepare 43 = .ok (.aload_n 1, 1) := by decide +kernel
theorem dX8_prepare_44 : decode cX8_prepare 44 = .ok (.iload_n 2, 1) := by decide +kernel
theorem dX8_prepare_45 : decode cX8_prepare 45 = .ok (.iconst 0, 1) := by decide +kernel
theorem dX8_prepare_46 : decode cX8_prepare 46 = .ok (.invokevirtual 91, 3) := by decide +kernel
theorem dX8_prepare_49 : decode cX8_prepare 49 = .ok (.aload_n 0, 1) := by decide +kernel
theorem dX8_prepare_50 : decode cX8_prepare 50 = .ok (.getfield 47, 3) := by decide +kernel
theorem dX8_prepare_53 : decode cX8_prepare 53 = .ok (.invokestatic 94, 3) := by decide +kernel
theorem dX8_prepare_56 : decode cX8_prepare 56 = .ok (.iadd, 1) := by decide +kernel
theorem dX8_prepare_57 : decode cX8_prepare 57 = .ok (.istore 4, 2) := by decide +kernel
theorem dX8_prepare_59 : decode cX8_prepare 59 = .ok (.aload_n 1, 1) := by decide +kernel
theorem dX8_prepare_60 : decode cX8_prepare 60 = .ok (.iload_n 2, 1) := by decide +kernel
theorem dX8_prepare_61 : decode cX8_prepare 61 = .ok (.iconst 1, 1) := by decide +kernel
theorem dX8_prepare_62 : decode cX8_prepare 62 = .ok (.invokevirtual 85, 3) := by decide +kernel
theorem dX8_prepare_65 : decode cX8_prepare 65 = .ok (.aload_n 0, 1) := by decide +kernel
theorem dX8_prepare_66 : decode cX8_prepare 66 = .ok (.getfield 82, 3) := by decide +kernel
theorem dX8_prepare_69 : decode cX8_prepare 69 = .ok (.invokestatic 88, 3) := by decide +kernel
theorem dX8_prepare_72 : decode cX8_prepare 72 = .ok (.iadd, 1) := by decide +kernel
theorem dX8_prepare_73 : decode cX8_prepare 73 = .ok (.istore 5, 2) := by decide +kernel
theorem dX8_prepare_75 : decode cX8_prepare 75 = .ok (.aload_n 1, 1) := by decide +kernel
theorem dX8_prepare_76 : decode cX8_prepare 76 = .ok (.iload_n 2, 1) := by decide +kernel
theorem dX8_prepare_77 : decode cX8_prepare 77 = .ok (.iconst 1, 1) := by decide +kernel
theorem dX8_prepare_78 : decode cX8_prepare 78 = .ok (.invokevirtual 91, 3) := by decide +kernel
theorem dX8_prepare_81 : decode cX8_prepare 81 = .ok (.aload_n 0, 1) := by decide +kernel
theorem dX8_prepare_82 : decode cX8_prepare 82 = .ok (.getfield 82, 3) := by decide +kernel
theorem dX8_prepare_85 : decode cX8_prepare 85 = .ok (.invokestatic 94, 3) := by decide +kernel
theorem dX8_prepare_88 : decode cX8_prepare 88 = .ok (.iadd, 1) := by decide +kernel
theorem dX8_prepare_89 : decode cX8_prepare 89 = .ok (.istore 6, 2) := by decide +kernel
theorem dX8_prepare_91 : decode cX8_prepare 91 = .ok (.aload_n 0, 1) := by decide +kernel
theorem dX8_prepare_92 : decode cX8_prepare 92 = .ok (.getfield 14, 3) := by decide +kernel
theorem dX8_prepare_95 : decode cX8_prepare 95 = .ok (.invokevirtual 97, 3) := by decide +kernel
theorem dX8_prepare_98 : decode cX8_prepare 98 = .ok (.aload_n 0, 1) := by decide +kernel
theorem dX8_prepare_99 : decode cX8_prepare 99 = .ok (.getfield 14, 3) := by decide +kernel
theorem dX8_prepare_102 : decode cX8_prepare 102 = .ok (.aload_n 1, 1) := by decide +kernel
theorem dX8_prepare_103 : decode cX8_prepare 103 = .ok (.invokevirtual 100, 3) := by decide +kernel
theorem dX8_prepare_106 : decode cX8_prepare 106 = .ok (.aload_n 0, 1) := by decide +kernel
theorem dX8_prepare_107 : decode cX8_prepare 107 = .ok (.getfield 14, 3) := by decide +kernel
theorem dX8_prepare_110 : decode cX8_prepare 110 = .ok (.iload_n 3, 1) := by decide +kernel
theorem dX8_prepare_111 : decode cX8_prepare 111 = .ok (.iload 4, 2) := by decide +kernel
theorem dX8_prepare_113 : decode cX8_prepare 113 = .ok (.invokevirtual 104, 3) := by decide +kernel
theorem dX8_prepare_116 : decode cX8_prepare 116 = .ok (.aload_n 0, 1) := by decide +kernel
theorem dX8_prepare_117 : decode cX8_prepare 117 = .ok (.getfield 14, 3) := by decide +kernel
theorem dX8_prepare_120 : decode cX8_prepare 120 = .ok (.iload 5, 2) := by decide +kernel
theorem dX8_prepare_122 : decode cX8_prepare 122 = .ok (.iload 6, 2) := by decide +kernel
theorem dX8_prepare_124 : decode cX8_prepare 124 = .ok (.invokevirtual 104, 3) := by decide +kernel
theorem dX8_prepare_127 : decode cX8_prepare 127 = .ok (.aload_n 0, 1) := by decide +kernel
theorem dX8_prepare_128 : decode cX8_prepare 128 = .ok (.getfield 14, 3) := by decide +kernel
theorem dX8_prepare_131 : decode cX8_prepare 131 = .ok (.aload_n 1, 1) := by decide +kernel
theorem dX8_prepare_132 : decode cX8_prepare 132 = .ok (.invokevirtual 107, 3) := by decide +kernel
theorem dX8_prepare_135 : decode cX8_prepare 135 = .ok (.aload_n 0, 1) := by decide +kernel
theorem dX8_prepare_136 : decode cX8_prepare 136 = .ok (.aload_n 0, 1) := by decide +kernel
theorem dX8_prepare_137 : decode cX8_prepare 137 = .ok (.getfield 14, 3) := by decide +kernel
theorem dX8_prepare_140 : decode cX8_prepare 140 = .ok (.iload_n 3, 1) := by decide +kernel
theorem dX8_prepare_141 : decode cX8_prepare 141 = .ok (.iload 4, 2) := by decide +kernel
theorem dX8_prepare_143 : decode cX8_prepare 143 = .ok (.invokevirtual 110, 3) := by decide +kernel
theorem dX8_prepare_146 : decode cX8_prepare 146 = .ok (.putfield 43, 3) := by decide +kernel
theorem dX8_prepare_149 : decode cX8_prepare 149 = .ok (.aload_n 0, 1) := by decide +kernel
theorem dX8_prepare_150 : decode cX8_prepare 150 = .ok (.aload_n 0, 1) := by decide +kernel
theorem dX8_prepare_151 : decode cX8_prepare 151 = .ok (.getfield 14, 3) := by decide +kernel
theorem dX8_prepare_154 : decode cX8_prepare 154 = .ok (.iload 5, 2) := by decide +kernel
theorem dX8_prepare_156 : decode cX8_prepare 156 = .ok (.iload 6, 2) := by decide +kernel
theorem dX8_prepare_158 : decode cX8_prepare 158 = .ok (.invokevirtual 110, 3) := by decide +kernel
theorem dX8_prepare_161 : decode cX8_prepare 161 = .ok (.putfield 54, 3) := by decide +kernel
theorem dX8_prepare_164 : decode cX8_prepare 164 = .ok (.aload_n 0, 1) := by decide +kernel
theorem dX8_prepare_165 : decode cX8_prepare 165 = .ok (.getfield 29, 3) := by decide +kernel
theorem dX8_prepare_168 : decode cX8_prepare 168 = .ok (.ldc 72, 2) := by decide +kernel
theorem dX8_prepare_170 : decode cX8_prepare 170 = .ok (.invokestatic 113, 3) := by decide +kernel
theorem dX8_prepare_173 : decode cX8_prepare 173 = .ok (.aload_n 0, 1) := by decide +kernel
theorem dX8_prepare_174 : decode cX8_prepare 174 = .ok (.getfield 25, 3) := by decide +kernel
theorem dX8_prepare_177 : decode cX8_prepare 177 = .ok (.invokevirtual 119, 3) := by decide +kernel
theorem dX8_prepare_180 : decode cX8_prepare 180 = .ok (.return_, 1) := by decide +kernel
theorem dX8_stateOf_0 : decode cX8_stateOf 0 = .ok (.iload_n 0, 1) := by decide +kernel
theorem dX8_stateOf_1 : decode cX8_stateOf 1 = .ok (.iconst 4, 1) := by decide +kernel
theorem dX8_stateOf_2 : decode cX8_stateOf 2 = .ok (.imul, 1) := by decide +kernel
theorem dX8_stateOf_3 : decode cX8_stateOf 3 = .ok (.iload_n 1, 1) := by decide +kernel
theorem dX8_stateOf_4 : decode cX8_stateOf 4 = .ok (.iadd, 1) := by decide +kernel
theorem dX8_stateOf_5 : decode cX8_stateOf 5 = .ok (.ireturn, 1) := by decide +kernel
theorem dX8_restAtGoal_0 : decode cX8_restAtGoal 0 = .ok (.iload_n 1, 1) := by decide +kernel
theorem dX8_restAtGoal_1 : decode cX8_restAtGoal 1 = .ok (.aload_n 0, 1) := by decide +kernel
theorem dX8_restAtGoal_2 : decode cX8_restAtGoal 2 = .ok (.getfield 82, 3) := by decide +kernel
theorem dX8_restAtGoal_5 : decode cX8_restAtGoal 5 = .ok (.if_icmp .ne 6, 3) := by decide +kernel
theorem dX8_restAtGoal_8 : decode cX8_restAtGoal 8 = .ok (.ldc 72, 2) := by decide +kernel
theorem dX8_restAtGoal_10 : decode cX8_restAtGoal 10 = .ok (.ireturn, 1) := by decide +kernel
theorem dX8_restAtGoal_11 : decode cX8_restAtGoal 11 = .ok (.iload_n 1, 1) := by decide +kernel
theorem dX8_restAtGoal_12 : decode cX8_restAtGoal 12 = .ok (.aload_n 0, 1) := by decide +kernel
theorem dX8_restAtGoal_13 : decode cX8_restAtGoal 13 = .ok (.getfield 82, 3) := by decide +kernel
theorem dX8_restAtGoal_16 : decode cX8_restAtGoal 16 = .ok (.invokestatic 120, 3) := by decide +kernel
theorem dX8_restAtGoal_19 : decode cX8_restAtGoal 19 = .ok (.if_icmp .ne 7, 3) := by decide +kernel
theorem dX8_restAtGoal_22 : decode cX8_restAtGoal 22 = .ok (.iconst 0, 1) := by decide +kernel
theorem dX8_restAtGoal_23 : decode cX8_restAtGoal 23 = .ok (.goto 7, 3) := by decide +kernel
theorem dX8_restAtGoal_26 : decode cX8_restAtGoal 26 = .ok (.aload_n 0, 1) := by decide +kernel
theorem dX8_restAtGoal_27 : decode cX8_restAtGoal 27 = .ok (.getfield 78, 3) := by decide +kernel
theorem dX8_restAtGoal_30 : decode cX8_restAtGoal 30 = .ok (.ireturn, 1) := by decide +kernel
theorem dX8_offer_0 : decode cX8_offer 0 = .ok (.iload_n 2, 1) := by decide +kernel
theorem dX8_offer_1 : decode cX8_offer 1 = .ok (.aload_n 0, 1) := by decide +kernel
theorem dX8_offer_2 : decode cX8_offer 2 = .ok (.getfield 29, 3) := by decide +kernel
theorem dX8_offer_5 : decode cX8_offer 5 = .ok (.iload_n 1, 1) := by decide +kernel
theorem dX8_offer_6 : decode cX8_offer 6 = .ok (.iaload, 1) := by decide +kernel
theorem dX8_offer_7 : decode cX8_offer 7 = .ok (.if_icmp .lt 4, 3) := by decide +kernel
theorem dX8_offer_10 : decode cX8_offer 10 = .ok (.return_, 1) := by decide +kernel
theorem dX8_offer_11 : decode cX8_offer 11 = .ok (.aload_n 0, 1) := by decide +kernel
theorem dX8_offer_12 : decode cX8_offer 12 = .ok (.getfield 29, 3) := by decide +kernel
theorem dX8_offer_15 : decode cX8_offer 15 = .ok (.iload_n 1, 1) := by decide +kernel
theorem dX8_offer_16 : decode cX8_offer 16 = .ok (.iaload, 1) := by decide +kernel
theorem dX8_offer_17 : decode cX8_offer 17 = .ok (.ldc 72, 2) := by decide +kernel
theorem dX8_offer_19 : decode cX8_offer 19 = .ok (.if_icmp .ge 17, 3) := by decide +kernel
theorem dX8_offer_22 : decode cX8_offer 22 = .ok (.aload_n 0, 1) := by decide +kernel
theorem dX8_offer_23 : decode cX8_offer 23 = .ok (.getfield 25, 3) := by decide +kernel
theorem dX8_offer_26 : decode cX8_offer 26 = .ok (.iload_n 1, 1) := by decide +kernel
theorem dX8_offer_27 : decode cX8_offer 27 = .ok (.aload_n 0, 1) := by decide +kernel
theorem dX8_offer_28 : decode cX8_offer 28 = .ok (.getfield 29, 3) := by decide +kernel
theorem dX8_offer_31 : decode cX8_offer 31 = .ok (.iload_n 1, 1) := by decide +kernel
theorem dX8_offer_32 : decode cX8_offer 32 = .ok (.iaload, 1) := by decide +kernel
theorem dX8_offer_33 : decode cX8_offer 33 = .ok (.invokevirtual 123, 3) := by decide +kernel
theorem dX8_offer_36 : decode cX8_offer 36 = .ok (.aload_n 0, 1) := by decide +kernel
theorem dX8_offer_37 : decode cX8_offer 37 = .ok (.getfield 29, 3) := by decide +kernel
theorem dX8_offer_40 : decode cX8_offer 40 = .ok (.iload_n 1, 1) := by decide +kernel
theorem dX8_offer_41 : decode cX8_offer 41 = .ok (.iload_n 2, 1) := by decide +kernel
theorem dX8_offer_42 : decode cX8_offer 42 = .ok (.iastore, 1) := by decide +kernel
theorem dX8_offer_43 : decode cX8_offer 43 = .ok (.aload_n 0, 1) := by decide +kernel
theorem dX8_offer_44 : decode cX8_offer 44 = .ok (.getfield 25, 3) := by decide +kernel
theorem dX8_offer_47 : decode cX8_offer 47 = .ok (.iload_n 1, 1) := by decide +kernel
theorem dX8_offer_48 : decode cX8_offer 48 = .ok (.iload_n 2, 1) := by decide +kernel
theorem dX8_offer_49 : decode cX8_offer 49 = .ok (.invokevirtual 126, 3) := by decide +kernel
theorem dX8_offer_52 : decode cX8_offer 52 = .ok (.return_, 1) := by decide +kernel
theorem dX8_goBackFrom_0 : decode cX8_goBackFrom 0 = .ok (.iload_n 1, 1) := by decide +kernel
theorem dX8_goBackFrom_1 : decode cX8_goBackFrom 1 = .ok (.iconst 4, 1) := by decide +kernel
theorem dX8_goBackFrom_2 : decode cX8_goBackFrom 2 = .ok (.idiv, 1) := by decide +kernel
theorem dX8_goBackFrom_3 : decode cX8_goBackFrom 3 = .ok (.istore_n 2, 1) := by decide +kernel
theorem dX8_goBackFrom_4 : decode cX8_goBackFrom 4 = .ok (.iload_n 1, 1) := by decide +kernel
theorem dX8_goBackFrom_5 : decode cX8_goBackFrom 5 = .ok (.iconst 4, 1) := by decide +kernel
theorem dX8_goBackFrom_6 : decode cX8_goBackFrom 6 = .ok (.irem, 1) := by decide +kernel
theorem dX8_goBackFrom_7 : decode cX8_goBackFrom 7 = .ok (.istore_n 3, 1) := by decide +kernel
theorem dX8_goBackFrom_8 : decode cX8_goBackFrom 8 = .ok (.iload_n 3, 1) := by decide +kernel
theorem dX8_goBackFrom_9 : decode cX8_goBackFrom 9 = .ok (.invokestatic 120, 3) := by decide +kernel
theorem dX8_goBackFrom_12 : decode cX8_goBackFrom 12 = .ok (.istore 4, 2) := by decide +kernel
theorem dX8_goBackFrom_14 : decode cX8_goBackFrom 14 = .ok (.aload_n 0, 1) := by decide +kernel
theorem dX8_goBackFrom_15 : decode cX8_goBackFrom 15 = .ok (.getfield 14, 3) := by decide +kernel
theorem dX8_goBackFrom_18 : decode cX8_goBackFrom 18 = .ok (.iload_n 2, 1) := by decide +kernel
theorem dX8_goBackFrom_19 : decode cX8_goBackFrom 19 = .ok (.iload 4, 2) := by decide +kernel
theorem dX8_goBackFrom_21 : decode cX8_goBackFrom 21 = .ok (.invokevirtual 129, 3) := by decide +kernel
theorem dX8_goBackFrom_24 : decode cX8_goBackFrom 24 = .ok (.istore 5, 2) := by decide +kernel
theorem dX8_goBackFrom_26 : decode cX8_goBackFrom 26 = .ok (.iload 5, 2) := by decide +kernel
theorem dX8_goBackFrom_28 : decode cX8_goBackFrom 28 = .ok (.iconst (-1), 1) := by decide +kernel
theorem dX8_goBackFrom_29 : decode cX8_goBackFrom 29 = .ok (.if_icmp .ne 4, 3) := by decide +kernel
theorem dX8_goBackFrom_32 : decode cX8_goBackFrom 32 = .ok (.return_, 1) := by decide +kernel
theorem dX8_goBackFrom_33 : decode cX8_goBackFrom 33 = .ok (.aload_n 0, 1) := by decide +kernel
theorem dX8_goBackFrom_34 : decode cX8_goBackFrom 34 = .ok (.getfield 29, 3) := by decide +kernel
theorem dX8_goBackFrom_37 : decode cX8_goBackFrom 37 = .ok (.iload_n 1, 1) := by decide +kernel
theorem dX8_goBackFrom_38 : decode cX8_goBackFrom 38 = .ok (.iaload, 1) := by decide +kernel
theorem dX8_goBackFrom_39 : decode cX8_goBackFrom 39 = .ok (.aload_n 0, 1) := by decide +kernel
theorem dX8_goBackFrom_40 : decode cX8_goBackFrom 40 = .ok (.getfield 14, 3) := by decide +kernel
theorem dX8_goBackFrom_43 : decode cX8_goBackFrom 43 = .ok (.iload 5, 2) := by decide +kernel
theorem dX8_goBackFrom_45 : decode cX8_goBackFrom 45 = .ok (.iload_n 2, 1) := by decide +kernel
theorem dX8_goBackFrom_46 : decode cX8_goBackFrom 46 = .ok (.invokevirtual 132, 3) := by decide +kernel
theorem dX8_goBackFrom_49 : decode cX8_goBackFrom 49 = .ok (.iadd, 1) := by decide +kernel
theorem dX8_goBackFrom_50 : decode cX8_goBackFrom 50 = .ok (.istore 6, 2) := by decide +kernel
theorem dX8_goBackFrom_52 : decode cX8_goBackFrom 52 = .ok (.iconst 0, 1) := by decide +kernel
theorem dX8_goBackFrom_53 : decode cX8_goBackFrom 53 = .ok (.istore 7, 2) := by decide +kernel
theorem dX8_goBackFrom_55 : decode cX8_goBackFrom 55 = .ok (.iload 7, 2) := by decide +kernel
theorem dX8_goBackFrom_57 : decode cX8_goBackFrom 57 = .ok (.iconst 4, 1) := by decide +kernel
theorem dX8_goBackFrom_58 : decode cX8_goBackFrom 58 = .ok (.if_icmp .ge 45, 3) := by decide +kernel
theorem dX8_goBackFrom_61 : decode cX8_goBackFrom 61 = .ok (.iload 7, 2) := by decide +kernel
theorem dX8_goBackFrom_63 : decode cX8_goBackFrom 63 = .ok (.iload 4, 2) := by decide +kernel
theorem dX8_goBackFrom_65 : decode cX8_goBackFrom 65 = .ok (.if_icmp .eq 32, 3) := by decide +kernel
theorem dX8_goBackFrom_68 : decode cX8_goBackFrom 68 = .ok (.aload_n 0, 1) := by decide +kernel
theorem dX8_goBackFrom_69 : decode cX8_goBackFrom 69 = .ok (.iload 5, 2) := by decide +kernel
theorem dX8_goBackFrom_71 : decode cX8_goBackFrom 71 = .ok (.iload 7, 2) := by decide +kernel
theorem dX8_goBackFrom_73 : decode cX8_goBackFrom 73 = .ok (.invokestatic 50, 3) := by decide +kernel
theorem dX8_goBackFrom_76 : decode cX8_goBackFrom 76 = .ok (.iload 7, 2) := by decide +kernel
theorem dX8_goBackFrom_78 : decode cX8_goBackFrom 78 = .ok (.iload_n 3, 1) := by decide +kernel
theorem dX8_goBackFrom_79 : decode cX8_goBackFrom 79 = .ok (.if_icmp .ne 8, 3) := by decide +kernel
theorem dX8_goBackFrom_82 : decode cX8_goBackFrom 82 = .ok (.iload 6, 2) := by decide +kernel
theorem dX8_goBackFrom_84 : decode cX8_goBackFrom 84 = .ok (.goto 10, 3) := by decide +kernel
theorem dX8_goBackFrom_87 : decode cX8_goBackFrom 87 = .ok (.iload 6, 2) := by decide +kernel
theorem dX8_goBackFrom_89 : decode cX8_goBackFrom 89 = .ok (.aload_n 0, 1) := by decide +kernel
theorem dX8_goBackFrom_90 : decode cX8_goBackFrom 90 = .ok (.getfield 78, 3) := by decide +kernel
theorem dX8_goBackFrom_93 : decode cX8_goBackFrom 93 = .ok (.iadd, 1) := by decide +kernel
theorem dX8_goBackFrom_94 : decode cX8_goBackFrom 94 = .ok (.invokevirtual 61, 3) := by decide +kernel
theorem dX8_goBackFrom_97 : decode cX8_goBackFrom 97 = .ok (.iinc 7 1, 3) := by decide +kernel
theorem dX8_goBackFrom_100 : decode cX8_goBackFrom 100 = .ok (.goto (-45), 3) := by decide +kernel
theorem dX8_goBackFrom_103 : decode cX8_goBackFrom 103 = .ok (.return_, 1) := by decide +kernel
theorem dX8_walk_0 : decode cX8_walk 0 = .ok (.aload_n 0, 1) := by decide +kernel
theorem dX8_walk_1 : decode cX8_walk 1 = .ok (.iconst 0, 1) := by decide +kernel
theorem dX8_walk_2 : decode cX8_walk 2 = .ok (.putfield 135, 3) := by decide +kernel
theorem dX8_walk_5 : decode cX8_walk 5 = .ok (.aload_n 0, 1) := by decide +kernel
theorem dX8_walk_6 : decode cX8_walk 6 = .ok (.aload_n 0, 1) := by decide +kernel
theorem dX8_walk_7 : decode cX8_walk 7 = .ok (.getfield 14, 3) := by decide +kernel
theorem dX8_walk_10 : decode cX8_walk 10 = .ok (.aload_n 0, 1) := by decide +kernel
theorem dX8_walk_11 : decode cX8_walk 11 = .ok (.getfield 43, 3) := by decide +kernel
theorem dX8_walk_14 : decode cX8_walk 14 = .ok (.invokevirtual 138, 3) := by decide +kernel
theorem dX8_walk_17 : decode cX8_walk 17 = .ok (.aload_n 0, 1) := by decide +kernel
theorem dX8_walk_18 : decode cX8_walk 18 = .ok (.getfield 47, 3) := by decide +kernel
theorem dX8_walk_21 : decode cX8_walk 21 = .ok (.invokestatic 88, 3) := by decide +kernel
theorem dX8_walk_24 : decode cX8_walk 24 = .ok (.isub, 1) := by decide +kernel
theorem dX8_walk_25 : decode cX8_walk 25 = .ok (.aload_n 0, 1) := by decide +kernel
theorem dX8_walk_26 : decode cX8_walk 26 = .ok (.getfield 14, 3) := by decide +kernel
theorem dX8_walk_29 : decode cX8_walk 29 = .ok (.aload_n 0, 1) := by decide +kernel
theorem dX8_walk_30 : decode cX8_walk 30 = .ok (.getfield 43, 3) := by decide +kernel
theorem dX8_walk_33 : decode cX8_walk 33 = .ok (.invokevirtual 141, 3) := by decide +kernel
theorem dX8_walk_36 : decode cX8_walk 36 = .ok (.aload_n 0, 1) := by decide +kernel
theorem dX8_walk_37 : decode cX8_walk 37 = .ok (.getfield 47, 3) := by decide +kernel
theorem dX8_walk_40 : decode cX8_walk 40 = .ok (.invokestatic 94, 3) := by decide +kernel
theorem dX8_walk_43 : decode cX8_walk 43 = .ok (.isub, 1) := by decide +kernel
theorem dX8_walk_44 : decode cX8_walk 44 = .ok (.invokevirtual 144, 3) := by decide +kernel
theorem dX8_walk_47 : decode cX8_walk 47 = .ok (.aload_n 0, 1) := by decide +kernel
theorem dX8_walk_48 : decode cX8_walk 48 = .ok (.getfield 43, 3) := by decide +kernel
theorem dX8_walk_51 : decode cX8_walk 51 = .ok (.istore_n 1, 1) := by decide +kernel
theorem dX8_walk_52 : decode cX8_walk 52 = .ok (.aload_n 0, 1) := by decide +kernel
theorem dX8_walk_53 : decode cX8_walk 53 = .ok (.getfield 47, 3) := by decide +kernel
theorem dX8_walk_56 : decode cX8_walk 56 = .ok (.istore_n 2, 1) := by decide +kernel
theorem dX8_walk_57 : decode cX8_walk 57 = .ok (.iconst 0, 1) := by decide +kernel
theorem dX8_walk_58 : decode cX8_walk 58 = .ok (.istore_n 3, 1) := by decide +kernel
theorem dX8_walk_59 : decode cX8_walk 59 = .ok (.iload_n 3, 1) := by decide +kernel
theorem dX8_walk_60 : decode cX8_walk 60 = .ok (.sipush 1296, 3) := by decide +kernel
theorem dX8_walk_63 : decode cX8_walk 63 = .ok (.if_icmp .ge 66, 3) := by decide +kernel
theorem dX8_walk_66 : decode cX8_walk 66 = .ok (.aload_n 0, 1) := by decide +kernel
theorem dX8_walk_67 : decode cX8_walk 67 = .ok (.iload_n 1, 1) := by decide +kernel
theorem dX8_walk_68 : decode cX8_walk 68 = .ok (.iload_n 2, 1) := by decide +kernel
theorem dX8_walk_69 : decode cX8_walk 69 = .ok (.invokevirtual 147, 3) := by decide +kernel
theorem dX8_walk_72 : decode cX8_walk 72 = .ok (.istore 4, 2) := by decide +kernel
theorem dX8_walk_74 : decode cX8_walk 74 = .ok (.iload 4, 2) := by decide +kernel
theorem dX8_walk_76 : decode cX8_walk 76 = .ok (.iconst (-1), 1) := by decide +kernel
theorem dX8_walk_77 : decode cX8_walk 77 = .ok (.if_icmp .ne 6, 3) := by decide +kernel
theorem dX8_walk_80 : decode cX8_walk 80 = .ok (.goto 49, 3) := by decide +kernel
theorem dX8_walk_83 : decode cX8_walk 83 = .ok (.iload 4, 2) := by decide +kernel
theorem dX8_walk_85 : decode cX8_walk 85 = .ok (.iload_n 2, 1) := by decide +kernel
theorem dX8_walk_86 : decode cX8_walk 86 = .ok (.if_icmp .eq 23, 3) := by decide +kernel
theorem dX8_walk_89 : decode cX8_walk 89 = .ok (.aload_n 0, 1) := by decide +kernel
theorem dX8_walk_90 : decode cX8_walk 90 = .ok (.aload_n 0, 1) := by decide +kernel
theorem dX8_walk_91 : decode cX8_walk 91 = .ok (.getfield 14, 3) := by decide +kernel
theorem dX8_walk_94 : decode cX8_walk 94 = .ok (.iload_n 1, 1) := by decide +kernel
theorem dX8_walk_95 : decode cX8_walk 95 = .ok (.invokevirtual 138, 3) := by decide +kernel
theorem dX8_walk_98 : decode cX8_walk 98 = .ok (.aload_n 0, 1) := by decide +kernel
theorem dX8_walk_99 : decode cX8_walk 99 = .ok (.getfield 14, 3) := by decide +kernel
theorem dX8_walk_102 : decode cX8_walk 102 = .ok (.iload_n 1, 1) := by decide +kernel
theorem dX8_walk_103 : decode cX8_walk 103 = .ok (.invokevirtual 141, 3) := by decide +kernel
theorem dX8_walk_106 : decode cX8_walk 106 = .ok (.invokevirtual 144, 3) := by decide +kernel
theorem dX8_walk_109 : decode cX8_walk 109 = .ok (.aload_n 0, 1) := by decide +kernel
theorem dX8_walk_110 : decode cX8_walk 110 = .ok (.getfield 14, 3) := by decide +kernel
theorem dX8_walk_113 : decode cX8_walk 113 = .ok (.iload_n 1, 1) := by decide +kernel
theorem dX8_walk_114 : decode cX8_walk 114 = .ok (.iload 4, 2) := by decide +kernel
theorem dX8_walk_116 : decode cX8_walk 116 = .ok (.invokevirtual 129, 3) := by decide +kernel
theorem dX8_walk_119 : decode cX8_walk 119 = .ok (.istore_n 1, 1) := by decide +kernel
theorem dX8_walk_120 : decode cX8_walk 120 = .ok (.iload 4, 2) := by decide +kernel
theorem dX8_walk_122 : decode cX8_walk 122 = .ok (.istore_n 2, 1) := by decide +kernel
theorem dX8_walk_123 : decode cX8_walk 123 = .ok (.iinc 3 1, 3) := by decide +kernel
theorem dX8_walk_126 : decode cX8_walk 126 = .ok (.goto (-67), 3) := by decide +kernel
theorem dX8_walk_129 : decode cX8_walk 129 = .ok (.iload_n 2, 1) := by decide +kernel
theorem dX8_walk_130 : decode cX8_walk 130 = .ok (.aload_n 0, 1) := by decide +kernel
theorem dX8_walk_131 : decode cX8_walk 131 = .ok (.getfield 82, 3) := by decide +kernel
theorem dX8_walk_134 : decode cX8_walk 134 = .ok (.invokestatic 120, 3) := by decide +kernel
theorem dX8_walk_137 : decode cX8_walk 137 = .ok (.if_icmp .eq 29, 3) := by decide +kernel
theorem dX8_walk_140 : decode cX8_walk 140 = .ok (.aload_n 0, 1) := by decide +kernel
theorem dX8_walk_141 : decode cX8_walk 141 = .ok (.aload_n 0, 1) := by decide +kernel
theorem dX8_walk_142 : decode cX8_walk 142 = .ok (.getfield 14, 3) := by decide +kernel
theorem dX8_walk_145 : decode cX8_walk 145 = .ok (.aload_n 0, 1) := by decide +kernel
theorem dX8_walk_146 : decode cX8_walk 146 = .ok (.getfield 54, 3) := by decide +kernel
theorem dX8_walk_149 : decode cX8_walk 149 = .ok (.invokevirtual 138, 3) := by decide +kernel
theorem dX8_walk_152 : decode cX8_walk 152 = .ok (.aload_n 0, 1) := by decide +kernel
theorem dX8_walk_153 : decode cX8_walk 153 = .ok (.getfield 14, 3) := by decide +kernel
theorem dX8_walk_156 : decode cX8_walk 156 = .ok (.aload_n 0, 1) := by decide +kernel
theorem dX8_walk_157 : decode cX8_walk 157 = .ok (.getfield 54, 3) := by decide +kernel
theorem dX8_walk_160 : decode cX8_walk 160 = .ok (.invokevirtual 141, 3) := by decide +kernel
theorem dX8_walk_163 : decode cX8_walk 163 = .ok (.invokevirtual 144, 3) := by decide +kernel
theorem dX8_walk_166 : decode cX8_walk 166 = .ok (.aload_n 0, 1) := by decide +kernel
theorem dX8_walk_167 : decode cX8_walk 167 = .ok (.aload_n 0, 1) := by decide +kernel
theorem dX8_walk_168 : decode cX8_walk 168 = .ok (.getfield 14, 3) := by decide +kernel
theorem dX8_walk_171 : decode cX8_walk 171 = .ok (.aload_n 0, 1) := by decide +kernel
theorem dX8_walk_172 : decode cX8_walk 172 = .ok (.getfield 54, 3) := by decide +kernel
theorem dX8_walk_175 : decode cX8_walk 175 = .ok (.invokevirtual 138, 3) := by decide +kernel
theorem dX8_walk_178 : decode cX8_walk 178 = .ok (.aload_n 0, 1) := by decide +kernel
theorem dX8_walk_179 : decode cX8_walk 179 = .ok (.getfield 82, 3) := by decide +kernel
theorem dX8_walk_182 : decode cX8_walk 182 = .ok (.invokestatic 88, 3) := by decide +kernel
theorem dX8_walk_185 : decode cX8_walk 185 = .ok (.isub, 1) := by decide +kernel
theorem dX8_walk_186 : decode cX8_walk 186 = .ok (.aload_n 0, 1) := by decide +kernel
theorem dX8_walk_187 : decode cX8_walk 187 = .ok (.getfield 14, 3) := by decide +kernel
theorem dX8_walk_190 : decode cX8_walk 190 = .ok (.aload_n 0, 1) := by decide +kernel
theorem dX8_walk_191 : decode cX8_walk 191 = .ok (.getfield 54, 3) := by decide +kernel
theorem dX8_walk_194 : decode cX8_walk 194 = .ok (.invokevirtual 141, 3) := by decide +kernel
theorem dX8_walk_197 : decode cX8_walk 197 = .ok (.aload_n 0, 1) := by decide +kernel
theorem dX8_walk_198 : decode cX8_walk 198 = .ok (.getfield 82, 3) := by decide +kernel
theorem dX8_walk_201 : decode cX8_walk 201 = .ok (.invokestatic 94, 3) := by decide +kernel
theorem dX8_walk_204 : decode cX8_walk 204 = .ok (.isub, 1) := by decide +kernel
theorem dX8_walk_205 : decode cX8_walk 205 = .ok (.invokevirtual 144, 3) := by decide +kernel
theorem dX8_walk_208 : decode cX8_walk 208 = .ok (.return_, 1) := by decide +kernel
theorem dX8_nextDirection_0 : decode cX8_nextDirection 0 = .ok (.aload_n 0, 1) := by decide +kernel
theorem dX8_nextDirection_1 : decode cX8_nextDirection 1 = .ok (.getfield 29, 3) := by decide +kernel
theorem dX8_nextDirection_4 : decode cX8_nextDirection 4 = .ok (.iload_n 1, 1) := by decide +kernel
theorem dX8_nextDirection_5 : decode cX8_nextDirection 5 = .ok (.iload_n 2, 1) := by decide +kernel
theorem dX8_nextDirection_6 : decode cX8_nextDirection 6 = .ok (.invokestatic 50, 3) := by decide +kernel
theorem dX8_nextDirection_9 : decode cX8_nextDirection 9 = .ok (.iaload, 1) := by decide +kernel
theorem dX8_nextDirection_10 : decode cX8_nextDirection 10 = .ok (.istore_n 3, 1) := by decide +kernel
theorem dX8_nextDirection_11 : decode cX8_nextDirection 11 = .ok (.iload_n 1, 1) := by decide +kernel
theorem dX8_nextDirection_12 : decode cX8_nextDirection 12 = .ok (.aload_n 0, 1) := by decide +kernel
theorem dX8_nextDirection_13 : decode cX8_nextDirection 13 = .ok (.getfield 54, 3) := by decide +kernel
theorem dX8_nextDirection_16 : decode cX8_nextDirection 16 = .ok (.if_icmp .ne 14, 3) := by decide +kernel
theorem dX8_nextDirection_19 : decode cX8_nextDirection 19 = .ok (.iload_n 3, 1) := by decide +kernel
theorem dX8_nextDirection_20 : decode cX8_nextDirection 20 = .ok (.aload_n 0, 1) := by decide +kernel
theorem dX8_nextDirection_21 : decode cX8_nextDirection 21 = .ok (.iload_n 2, 1) := by decide +kernel
theorem dX8_nextDirection_22 : decode cX8_nextDirection 22 = .ok (.invokevirtual 57, 3) := by decide +kernel
theorem dX8_nextDirection_25 : decode cX8_nextDirection 25 = .ok (.if_icmp .ne 5, 3) := by decide +kernel
theorem dX8_nextDirection_28 : decode cX8_nextDirection 28 = .ok (.iconst (-1), 1) := by decide +kernel
theorem dX8_nextDirection_29 : decode cX8_nextDirection 29 = .ok (.ireturn, 1) := by decide +kernel
theorem dX8_nextDirection_30 : decode cX8_nextDirection 30 = .ok (.iconst 0, 1) := by decide +kernel
theorem dX8_nextDirection_31 : decode cX8_nextDirection 31 = .ok (.istore 4, 2) := by decide +kernel
theorem dX8_nextDirection_33 : decode cX8_nextDirection 33 = .ok (.iload 4, 2) := by decide +kernel
theorem dX8_nextDirection_35 : decode cX8_nextDirection 35 = .ok (.iconst 4, 1) := by decide +kernel
theorem dX8_nextDirection_36 : decode cX8_nextDirection 36 = .ok (.if_icmp .ge 92, 3) := by decide +kernel
theorem dX8_nextDirection_39 : decode cX8_nextDirection 39 = .ok (.iload 4, 2) := by decide +kernel
theorem dX8_nextDirection_41 : decode cX8_nextDirection 41 = .ok (.iload_n 2, 1) := by decide +kernel
theorem dX8_nextDirection_42 : decode cX8_nextDirection 42 = .ok (.invokestatic 120, 3) := by decide +kernel
theorem dX8_nextDirection_45 : decode cX8_nextDirection 45 = .ok (.if_icmp .ne 7, 3) := by decide +kernel
theorem dX8_nextDirection_48 : decode cX8_nextDirection 48 = .ok (.iconst (-1), 1) := by decide +kernel
theorem dX8_nextDirection_49 : decode cX8_nextDirection 49 = .ok (.goto 13, 3) := by decide +kernel
theorem dX8_nextDirection_52 : decode cX8_nextDirection 52 = .ok (.aload_n 0, 1) := by decide +kernel
theorem dX8_nextDirection_53 : decode cX8_nextDirection 53 = .ok (.getfield 14, 3) := by decide +kernel
theorem dX8_nextDirection_56 : decode cX8_nextDirection 56 = .ok (.iload_n 1, 1) := by decide +kernel
theorem dX8_nextDirection_57 : decode cX8_nextDirection 57 = .ok (.iload 4, 2) := by decide +kernel
theorem dX8_nextDirection_59 : decode cX8_nextDirection 59 = .ok (.invokevirtual 129, 3) := by decide +kernel
theorem dX8_nextDirection_62 : decode cX8_nextDirection 62 = .ok (.istore 5, 2) := by decide +kernel
theorem dX8_nextDirection_64 : decode cX8_nextDirection 64 = .ok (.iload 5, 2) := by decide +kernel
theorem dX8_nextDirection_66 : decode cX8_nextDirection 66 = .ok (.iconst (-1), 1) := by decide +kernel
theorem dX8_nextDirection_67 : decode cX8_nextDirection 67 = .ok (.if_icmp .ne 6, 3) := by decide +kernel
theorem dX8_nextDirection_70 : decode cX8_nextDirection 70 = .ok (.goto 52, 3) := by decide +kernel
theorem dX8_nextDirection_73 : decode cX8_nextDirection 73 = .ok (.iload 4, 2) := by decide +kernel
theorem dX8_nextDirection_75 : decode cX8_nextDirection 75 = .ok (.iload_n 2, 1) := by decide +kernel
theorem dX8_nextDirection_76 : decode cX8_nextDirection 76 = .ok (.if_icmp .ne 7, 3) := by decide +kernel
theorem dX8_nextDirection_79 : decode cX8_nextDirection 79 = .ok (.iconst 0, 1) := by decide +kernel
theorem dX8_nextDirection_80 : decode cX8_nextDirection 80 = .ok (.goto 7, 3) := by decide +kernel
theorem dX8_nextDirection_83 : decode cX8_nextDirection 83 = .ok (.aload_n 0, 1) := by decide +kernel
theorem dX8_nextDirection_84 : decode cX8_nextDirection 84 = .ok (.getfield 78, 3) := by decide +kernel
theorem dX8_nextDirection_87 : decode cX8_nextDirection 87 = .ok (.istore 6, 2) := by decide +kernel
theorem dX8_nextDirection_89 : decode cX8_nextDirection 89 = .ok (.aload_n 0, 1) := by decide +kernel
theorem dX8_nextDirection_90 : decode cX8_nextDirection 90 = .ok (.getfield 14, 3) := by decide +kernel
theorem dX8_nextDirection_93 : decode cX8_nextDirection 93 = .ok (.iload_n 1, 1) := by decide +kernel
theorem dX8_nextDirection_94 : decode cX8_nextDirection 94 = .ok (.iload 5, 2) := by decide +kernel
theorem dX8_nextDirection_96 : decode cX8_nextDirection 96 = .ok (.invokevirtual 132, 3) := by decide +kernel
theorem dX8_nextDirection_99 : decode cX8_nextDirection 99 = .ok (.iload 6, 2) := by decide +kernel
theorem dX8_nextDirection_101 : decode cX8_nextDirection 101 = .ok (.iadd, 1) := by decide +kernel
theorem dX8_nextDirection_102 : decode cX8_nextDirection 102 = .ok (.aload_n 0, 1) := by decide +kernel
theorem dX8_nextDirection_103 : decode cX8_nextDirection 103 = .ok (.getfield 29, 3) := by decide +kernel
theorem dX8_nextDirection_106 : decode cX8_nextDirection 106 = .ok (.iload 5, 2) := by decide +kernel
theorem dX8_nextDirection_108 : decode cX8_nextDirection 108 = .ok (.iload 4, 2) := by decide +kernel
theorem dX8_nextDirection_110 : decode cX8_nextDirection 110 = .ok (.invokestatic 50, 3) := by decide +kernel
theorem dX8_nextDirection_113 : decode cX8_nextDirection 113 = .ok (.iaload, 1) := by decide +kernel
theorem dX8_nextDirection_114 : decode cX8_nextDirection 114 = .ok (.iadd, 1) := by decide +kernel
theorem dX8_nextDirection_115 : decode cX8_nextDirection 115 = .ok (.iload_n 3, 1) := by decide +kernel
theorem dX8_nextDirection_116 : decode cX8_nextDirection 116 = .ok (.if_icmp .ne 6, 3) := by decide +kernel
theorem dX8_nextDirection_119 : decode cX8_nextDirection 119 = .ok (.iload 4, 2) := by decide +kernel
theorem dX8_nextDirection_121 : decode cX8_nextDirection 121 = .ok (.ireturn, 1) := by decide +kernel
theorem dX8_nextDirection_122 : decode cX8_nextDirection 122 = .ok (.iinc 4 1, 3) := by decide +kernel
theorem dX8_nextDirection_125 : decode cX8_nextDirection 125 = .ok (.goto (-92), 3) := by decide +kernel
theorem dX8_nextDirection_128 : decode cX8_nextDirection 128 = .ok (.iconst (-1), 1) := by decide +kernel
theorem dX8_nextDirection_129 : decode cX8_nextDirection 129 = .ok (.ireturn, 1) := by decide +kernel
theorem dX8_addCorner_0 : decode cX8_addCorner 0 = .ok (.aload_n 0, 1) := by decide +kernel
theorem dX8_addCorner_1 : decode cX8_addCorner 1 = .ok (.getfield 135, 3) := by decide +kernel
theorem dX8_addCorner_4 : decode cX8_addCorner 4 = .ok (.sipush 326, 3) := by decide +kernel
theorem dX8_addCorner_7 : decode cX8_addCorner 7 = .ok (.if_icmp .ge 33, 3) := by decide +kernel
theorem dX8_addCorner_10 : decode cX8_addCorner 10 = .ok (.aload_n 0, 1) := by decide +kernel
theorem dX8_addCorner_11 : decode cX8_addCorner 11 = .ok (.getfield 33, 3) := by decide +kernel
theorem dX8_addCorner_14 : decode cX8_addCorner 14 = .ok (.aload_n 0, 1) := by decide +kernel
theorem dX8_addCorner_15 : decode cX8_addCorner 15 = .ok (.getfield 135, 3) := by decide +kernel
theorem dX8_addCorner_18 : decode cX8_addCorner 18 = .ok (.iload_n 1, 1) := by decide +kernel
theorem dX8_addCorner_19 : decode cX8_addCorner 19 = .ok (.iastore, 1) := by decide +kernel
theorem dX8_addCorner_20 : decode cX8_addCorner 20 = .ok (.aload_n 0, 1) := by decide +kernel
theorem dX8_addCorner_21 : decode cX8_addCorner 21 = .ok (.getfield 36, 3) := by decide +kernel
theorem dX8_addCorner_24 : decode cX8_addCorner 24 = .ok (.aload_n 0, 1) := by decide +kernel
theorem dX8_addCorner_25 : decode cX8_addCorner 25 = .ok (.getfield 135, 3) := by decide +kernel
theorem dX8_addCorner_28 : decode cX8_addCorner 28 = .ok (.iload_n 2, 1) := by decide +kernel
theorem dX8_addCorner_29 : decode cX8_addCorner 29 = .ok (.iastore, 1) := by decide +kernel
theorem dX8_addCorner_30 : decode cX8_addCorner 30 = .ok (.aload_n 0, 1) := by decide +kernel
theorem dX8_addCorner_31 : decode cX8_addCorner 31 = .ok (.dup, 1) := by decide +kernel
theorem dX8_addCorner_32 : decode cX8_addCorner 32 = .ok (.getfield 135, 3) := by decide +kernel
theorem dX8_addCorner_35 : decode cX8_addCorner 35 = .ok (.iconst 1, 1) := by decide +kernel
theorem dX8_addCorner_36 : decode cX8_addCorner 36 = .ok (.iadd, 1) := by decide +kernel
theorem dX8_addCorner_37 : decode cX8_addCorner 37 = .ok (.putfield 135, 3) := by decide +kernel
theorem dX8_addCorner_40 : decode cX8_addCorner 40 = .ok (.return_, 1) := by decide +kernel
theorem dX8_walkedAlong_0 : decode cX8_walkedAlong 0 = .ok (.aload_n 1, 1) := by decide +kernel
theorem dX8_walkedAlong_1 : decode cX8_walkedAlong 1 = .ok (.invokevirtual 150, 3) := by decide +kernel
theorem dX8_walkedAlong_4 : decode cX8_walkedAlong 4 = .ok (.aload_n 0, 1) := by decide +kernel
theorem dX8_walkedAlong_5 : decode cX8_walkedAlong 5 = .ok (.getfield 135, 3) := by decide +kernel
theorem dX8_walkedAlong_8 : decode cX8_walkedAlong 8 = .ok (.if_icmp .eq 5, 3) := by decide +kernel
theorem dX8_walkedAlong_11 : decode cX8_walkedAlong 11 = .ok (.iconst 0, 1) := by decide +kernel
theorem dX8_walkedAlong_12 : decode cX8_walkedAlong 12 = .ok (.ireturn, 1) := by decide +kernel
theorem dX8_walkedAlong_13 : decode cX8_walkedAlong 13 = .ok (.iconst 0, 1) := by decide +kernel
theorem dX8_walkedAlong_14 : decode cX8_walkedAlong 14 = .ok (.istore_n 2, 1) := by decide +kernel
theorem dX8_walkedAlong_15 : decode cX8_walkedAlong 15 = .ok (.iload_n 2, 1) := by decide +kernel
theorem dX8_walkedAlong_16 : decode cX8_walkedAlong 16 = .ok (.aload_n 0, 1) := by decide +kernel
theorem dX8_walkedAlong_17 : decode cX8_walkedAlong 17 = .ok (.getfield 135, 3) := by decide +kernel
theorem dX8_walkedAlong_20 : decode cX8_walkedAlong 20 = .ok (.if_icmp .ge 41, 3) := by decide +kernel
theorem dX8_walkedAlong_23 : decode cX8_walkedAlong 23 = .ok (.aload_n 1, 1) := by decide +kernel
theorem dX8_walkedAlong_24 : decode cX8_walkedAlong 24 = .ok (.getfield 154, 3) := by decide +kernel
theorem dX8_walkedAlong_27 : decode cX8_walkedAlong 27 = .ok (.iload_n 2, 1) := by decide +kernel
theorem dX8_walkedAlong_28 : decode cX8_walkedAlong 28 = .ok (.iaload, 1) := by decide +kernel
theorem dX8_walkedAlong_29 : decode cX8_walkedAlong 29 = .ok (.aload_n 0, 1) := by decide +kernel
theorem dX8_walkedAlong_30 : decode cX8_walkedAlong 30 = .ok (.getfield 33, 3) := by decide +kernel
theorem dX8_walkedAlong_33 : decode cX8_walkedAlong 33 = .ok (.iload_n 2, 1) := by decide +kernel
theorem dX8_walkedAlong_34 : decode cX8_walkedAlong 34 = .ok (.iaload, 1) := by decide +kernel
theorem dX8_walkedAlong_35 : decode cX8_walkedAlong 35 = .ok (.if_icmp .ne 18, 3) := by decide +kernel
theorem dX8_walkedAlong_38 : decode cX8_walkedAlong 38 = .ok (.aload_n 1, 1) := by decide +kernel
theorem dX8_walkedAlong_39 : decode cX8_walkedAlong 39 = .ok (.getfield 157, 3) := by decide +kernel
theorem dX8_walkedAlong_42 : decode cX8_walkedAlong 42 = .ok (.iload_n 2, 1) := by decide +kernel
theorem dX8_walkedAlong_43 : decode cX8_walkedAlong 43 = .ok (.iaload, 1) := by decide +kernel
theorem dX8_walkedAlong_44 : decode cX8_walkedAlong 44 = .ok (.aload_n 0, 1) := by decide +kernel
theorem dX8_walkedAlong_45 : decode cX8_walkedAlong 45 = .ok (.getfield 36, 3) := by decide +kernel
theorem dX8_walkedAlong_48 : decode cX8_walkedAlong 48 = .ok (.iload_n 2, 1) := by decide +kernel
theorem dX8_walkedAlong_49 : decode cX8_walkedAlong 49 = .ok (.iaload, 1) := by decide +kernel
theorem dX8_walkedAlong_50 : decode cX8_walkedAlong 50 = .ok (.if_icmp .eq 5, 3) := by decide +kernel
theorem dX8_walkedAlong_53 : decode cX8_walkedAlong 53 = .ok (.iconst 0, 1) := by decide +kernel
theorem dX8_walkedAlong_54 : decode cX8_walkedAlong 54 = .ok (.ireturn, 1) := by decide +kernel
theorem dX8_walkedAlong_55 : decode cX8_walkedAlong 55 = .ok (.iinc 2 1, 3) := by decide +kernel
theorem dX8_walkedAlong_58 : decode cX8_walkedAlong 58 = .ok (.goto (-43), 3) := by decide +kernel
theorem dX8_walkedAlong_61 : decode cX8_walkedAlong 61 = .ok (.iconst 1, 1) := by decide +kernel
theorem dX8_walkedAlong_62 : decode cX8_walkedAlong 62 = .ok (.ireturn, 1) := by decide +kernel
theorem dX8_makeRoute_0 : decode cX8_makeRoute 0 = .ok (.new 151, 3) := by decide +kernel
theorem dX8_makeRoute_3 : decode cX8_makeRoute 3 = .ok (.dup, 1) := by decide +kernel
theorem dX8_makeRoute_4 : decode cX8_makeRoute 4 = .ok (.iload_n 1, 1) := by decide +kernel
theorem dX8_makeRoute_5 : decode cX8_makeRoute 5 = .ok (.aload_n 0, 1) := by decide +kernel
theorem dX8_makeRoute_6 : decode cX8_makeRoute 6 = .ok (.getfield 33, 3) := by decide +kernel
theorem dX8_makeRoute_9 : decode cX8_makeRoute 9 = .ok (.aload_n 0, 1) := by decide +kernel
theorem dX8_makeRoute_10 : decode cX8_makeRoute 10 = .ok (.getfield 135, 3) := by decide +kernel
theorem dX8_makeRoute_13 : decode cX8_makeRoute 13 = .ok (.invokestatic 160, 3) := by decide +kernel
theorem dX8_makeRoute_16 : decode cX8_makeRoute 16 = .ok (.aload_n 0, 1) := by decide +kernel
theorem dX8_makeRoute_17 : decode cX8_makeRoute 17 = .ok (.getfield 36, 3) := by decide +kernel
theorem dX8_makeRoute_20 : decode cX8_makeRoute 20 = .ok (.aload_n 0, 1) := by decide +kernel
theorem dX8_makeRoute_21 : decode cX8_makeRoute 21 = .ok (.getfield 135, 3) := by decide +kernel
theorem dX8_makeRoute_24 : decode cX8_makeRoute 24 = .ok (.invokestatic 160, 3) := by decide +kernel
theorem dX8_makeRoute_27 : decode cX8_makeRoute 27 = .ok (.invokespecial 164, 3) := by decide +kernel
theorem dX8_makeRoute_30 : decode cX8_makeRoute 30 = .ok (.areturn, 1) := by decide +kernel
