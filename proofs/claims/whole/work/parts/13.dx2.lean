theorem dX1_init_0 : decode cX1_init 0 = .ok (.aload_n 0, 1) := by decide +kernel
theorem dX1_init_1 : decode cX1_init 1 = .ok (.invokespecial 3, 3) := by decide +kernel
theorem dX1_init_4 : decode cX1_init 4 = .ok (.aload_n 0, 1) := by decide +kernel
theorem dX1_init_5 : decode cX1_init 5 = .ok (.bipush 10, 2) := by decide +kernel
theorem dX1_init_7 : decode cX1_init 7 = .ok (.putfield 9, 3) := by decide +kernel
theorem dX1_init_10 : decode cX1_init 10 = .ok (.aload_n 0, 1) := by decide +kernel
theorem dX1_init_11 : decode cX1_init 11 = .ok (.bipush 32, 2) := by decide +kernel
theorem dX1_init_13 : decode cX1_init 13 = .ok (.newarray .int, 2) := by decide +kernel
theorem dX1_init_15 : decode cX1_init 15 = .ok (.putfield 15, 3) := by decide +kernel
theorem dX1_init_18 : decode cX1_init 18 = .ok (.aload_n 0, 1) := by decide +kernel
theorem dX1_init_19 : decode cX1_init 19 = .ok (.bipush 60, 2) := by decide +kernel
theorem dX1_init_21 : decode cX1_init 21 = .ok (.newarray .int, 2) := by decide +kernel
theorem dX1_init_23 : decode cX1_init 23 = .ok (.putfield 19, 3) := by decide +kernel
theorem dX1_init_26 : decode cX1_init 26 = .ok (.aload_n 0, 1) := by decide +kernel
theorem dX1_init_27 : decode cX1_init 27 = .ok (.bipush 10, 2) := by decide +kernel
theorem dX1_init_29 : decode cX1_init 29 = .ok (.anewarray 22, 3) := by decide +kernel
theorem dX1_init_32 : decode cX1_init 32 = .ok (.putfield 24, 3) := by decide +kernel
theorem dX1_init_35 : decode cX1_init 35 = .ok (.return_, 1) := by decide +kernel
theorem dX1_copyFrom_0 : decode cX1_copyFrom 0 = .ok (.aload_n 0, 1) := by decide +kernel
theorem dX1_copyFrom_1 : decode cX1_copyFrom 1 = .ok (.aload_n 1, 1) := by decide +kernel
theorem dX1_copyFrom_2 : decode cX1_copyFrom 2 = .ok (.getfield 28, 3) := by decide +kernel
theorem dX1_copyFrom_5 : decode cX1_copyFrom 5 = .ok (.putfield 28, 3) := by decide +kernel
theorem dX1_copyFrom_8 : decode cX1_copyFrom 8 = .ok (.aload_n 0, 1) := by decide +kernel
theorem dX1_copyFrom_9 : decode cX1_copyFrom 9 = .ok (.aload_n 1, 1) := by decide +kernel
theorem dX1_copyFrom_10 : decode cX1_copyFrom 10 = .ok (.getfield 31, 3) := by decide +kernel
theorem dX1_copyFrom_13 : decode cX1_copyFrom 13 = .ok (.putfield 31, 3) := by decide +kernel
theorem dX1_copyFrom_16 : decode cX1_copyFrom 16 = .ok (.aload_n 0, 1) := by decide +kernel
theorem dX1_copyFrom_17 : decode cX1_copyFrom 17 = .ok (.aload_n 1, 1) := by decide +kernel
theorem dX1_copyFrom_18 : decode cX1_copyFrom 18 = .ok (.getfield 9, 3) := by decide +kernel
theorem dX1_copyFrom_21 : decode cX1_copyFrom 21 = .ok (.putfield 9, 3) := by decide +kernel
theorem dX1_copyFrom_24 : decode cX1_copyFrom 24 = .ok (.aload_n 1, 1) := by decide +kernel
theorem dX1_copyFrom_25 : decode cX1_copyFrom 25 = .ok (.getfield 15, 3) := by decide +kernel
theorem dX1_copyFrom_28 : decode cX1_copyFrom 28 = .ok (.iconst 0, 1) := by decide +kernel
theorem dX1_copyFrom_29 : decode cX1_copyFrom 29 = .ok (.aload_n 0, 1) := by decide +kernel
theorem dX1_copyFrom_30 : decode cX1_copyFrom 30 = .ok (.getfield 15, 3) := by decide +kernel
theorem dX1_copyFrom_33 : decode cX1_copyFrom 33 = .ok (.iconst 0, 1) := by decide +kernel
theorem dX1_copyFrom_34 : decode cX1_copyFrom 34 = .ok (.aload_n 0, 1) := by decide +kernel
theorem dX1_copyFrom_35 : decode cX1_copyFrom 35 = .ok (.getfield 15, 3) := by decide +kernel
theorem dX1_copyFrom_38 : decode cX1_copyFrom 38 = .ok (.arraylength, 1) := by decide +kernel
theorem dX1_copyFrom_39 : decode cX1_copyFrom 39 = .ok (.invokestatic 34, 3) := by decide +kernel
theorem dX1_copyFrom_42 : decode cX1_copyFrom 42 = .ok (.aload_n 1, 1) := by decide +kernel
theorem dX1_copyFrom_43 : decode cX1_copyFrom 43 = .ok (.getfield 19, 3) := by decide +kernel
theorem dX1_copyFrom_46 : decode cX1_copyFrom 46 = .ok (.iconst 0, 1) := by decide +kernel
theorem dX1_copyFrom_47 : decode cX1_copyFrom 47 = .ok (.aload_n 0, 1) := by decide +kernel
theorem dX1_copyFrom_48 : decode cX1_copyFrom 48 = .ok (.getfield 19, 3) := by decide +kernel
theorem dX1_copyFrom_51 : decode cX1_copyFrom 51 = .ok (.iconst 0, 1) := by decide +kernel
theorem dX1_copyFrom_52 : decode cX1_copyFrom 52 = .ok (.aload_n 0, 1) := by decide +kernel
theorem dX1_copyFrom_53 : decode cX1_copyFrom 53 = .ok (.getfield 19, 3) := by decide +kernel
theorem dX1_copyFrom_56 : decode cX1_copyFrom 56 = .ok (.arraylength, 1) := by decide +kernel
theorem dX1_copyFrom_57 : decode cX1_copyFrom 57 = .ok (.invokestatic 34, 3) := by decide +kernel
theorem dX1_copyFrom_60 : decode cX1_copyFrom 60 = .ok (.iconst 0, 1) := by decide +kernel
theorem dX1_copyFrom_61 : decode cX1_copyFrom 61 = .ok (.istore_n 2, 1) := by decide +kernel
theorem dX1_copyFrom_62 : decode cX1_copyFrom 62 = .ok (.iload_n 2, 1) := by decide +kernel
theorem dX1_copyFrom_63 : decode cX1_copyFrom 63 = .ok (.aload_n 0, 1) := by decide +kernel
theorem dX1_copyFrom_64 : decode cX1_copyFrom 64 = .ok (.getfield 24, 3) := by decide +kernel
theorem dX1_copyFrom_67 : decode cX1_copyFrom 67 = .ok (.arraylength, 1) := by decide +kernel
theorem dX1_copyFrom_68 : decode cX1_copyFrom 68 = .ok (.if_icmp .ge 21, 3) := by decide +kernel
theorem dX1_copyFrom_71 : decode cX1_copyFrom 71 = .ok (.aload_n 0, 1) := by decide +kernel
theorem dX1_copyFrom_72 : decode cX1_copyFrom 72 = .ok (.getfield 24, 3) := by decide +kernel
theorem dX1_copyFrom_75 : decode cX1_copyFrom 75 = .ok (.iload_n 2, 1) := by decide +kernel
theorem dX1_copyFrom_76 : decode cX1_copyFrom 76 = .ok (.aload_n 1, 1) := by decide +kernel
theorem dX1_copyFrom_77 : decode cX1_copyFrom 77 = .ok (.getfield 24, 3) := by decide +kernel
theorem dX1_copyFrom_80 : decode cX1_copyFrom 80 = .ok (.iload_n 2, 1) := by decide +kernel
theorem dX1_copyFrom_81 : decode cX1_copyFrom 81 = .ok (.aaload, 1) := by decide +kernel
theorem dX1_copyFrom_82 : decode cX1_copyFrom 82 = .ok (.aastore, 1) := by decide +kernel
theorem dX1_copyFrom_83 : decode cX1_copyFrom 83 = .ok (.iinc 2 1, 3) := by decide +kernel
theorem dX1_copyFrom_86 : decode cX1_copyFrom 86 = .ok (.goto (-24), 3) := by decide +kernel
theorem dX1_copyFrom_89 : decode cX1_copyFrom 89 = .ok (.return_, 1) := by decide +kernel
theorem dX1_isSound_0 : decode cX1_isSound 0 = .ok (.iload_n 0, 1) := by decide +kernel
theorem dX1_isSound_1 : decode cX1_isSound 1 = .ok (.iconst 2, 1) := by decide +kernel
theorem dX1_isSound_2 : decode cX1_isSound 2 = .ok (.if_icmp .lt 34, 3) := by decide +kernel
theorem dX1_isSound_5 : decode cX1_isSound 5 = .ok (.iload_n 2, 1) := by decide +kernel
theorem dX1_isSound_6 : decode cX1_isSound 6 = .ok (.iload_n 0, 1) := by decide +kernel
theorem dX1_isSound_7 : decode cX1_isSound 7 = .ok (.if_icmp .le 29, 3) := by decide +kernel
theorem dX1_isSound_10 : decode cX1_isSound 10 = .ok (.iload_n 2, 1) := by decide +kernel
theorem dX1_isSound_11 : decode cX1_isSound 11 = .ok (.bipush 97, 2) := by decide +kernel
theorem dX1_isSound_13 : decode cX1_isSound 13 = .ok (.if_icmp .gt 23, 3) := by decide +kernel
theorem dX1_isSound_16 : decode cX1_isSound 16 = .ok (.iload_n 1, 1) := by decide +kernel
theorem dX1_isSound_17 : decode cX1_isSound 17 = .ok (.iconst 2, 1) := by decide +kernel
theorem dX1_isSound_18 : decode cX1_isSound 18 = .ok (.if_icmp .lt 18, 3) := by decide +kernel
theorem dX1_isSound_21 : decode cX1_isSound 21 = .ok (.iload_n 3, 1) := by decide +kernel
theorem dX1_isSound_22 : decode cX1_isSound 22 = .ok (.iload_n 1, 1) := by decide +kernel
theorem dX1_isSound_23 : decode cX1_isSound 23 = .ok (.if_icmp .le 13, 3) := by decide +kernel
theorem dX1_isSound_26 : decode cX1_isSound 26 = .ok (.iload_n 3, 1) := by decide +kernel
theorem dX1_isSound_27 : decode cX1_isSound 27 = .ok (.bipush 97, 2) := by decide +kernel
theorem dX1_isSound_29 : decode cX1_isSound 29 = .ok (.if_icmp .gt 7, 3) := by decide +kernel
theorem dX1_isSound_32 : decode cX1_isSound 32 = .ok (.iconst 1, 1) := by decide +kernel
theorem dX1_isSound_33 : decode cX1_isSound 33 = .ok (.goto 4, 3) := by decide +kernel
theorem dX1_isSound_36 : decode cX1_isSound 36 = .ok (.iconst 0, 1) := by decide +kernel
theorem dX1_isSound_37 : decode cX1_isSound 37 = .ok (.ireturn, 1) := by decide +kernel
theorem dX1_hasBox_0 : decode cX1_hasBox 0 = .ok (.iload_n 1, 1) := by decide +kernel
theorem dX1_hasBox_1 : decode cX1_hasBox 1 = .ok (.ifCond .lt 15, 3) := by decide +kernel
theorem dX1_hasBox_4 : decode cX1_hasBox 4 = .ok (.iload_n 1, 1) := by decide +kernel
theorem dX1_hasBox_5 : decode cX1_hasBox 5 = .ok (.aload_n 0, 1) := by decide +kernel
theorem dX1_hasBox_6 : decode cX1_hasBox 6 = .ok (.getfield 28, 3) := by decide +kernel
theorem dX1_hasBox_9 : decode cX1_hasBox 9 = .ok (.if_icmp .ge 7, 3) := by decide +kernel
theorem dX1_hasBox_12 : decode cX1_hasBox 12 = .ok (.iconst 1, 1) := by decide +kernel
theorem dX1_hasBox_13 : decode cX1_hasBox 13 = .ok (.goto 4, 3) := by decide +kernel
theorem dX1_hasBox_16 : decode cX1_hasBox 16 = .ok (.iconst 0, 1) := by decide +kernel
theorem dX1_hasBox_17 : decode cX1_hasBox 17 = .ok (.ireturn, 1) := by decide +kernel
theorem dX1_hasConnector_0 : decode cX1_hasConnector 0 = .ok (.iload_n 1, 1) := by decide +kernel
theorem dX1_hasConnector_1 : decode cX1_hasConnector 1 = .ok (.ifCond .lt 15, 3) := by decide +kernel
theorem dX1_hasConnector_4 : decode cX1_hasConnector 4 = .ok (.iload_n 1, 1) := by decide +kernel
theorem dX1_hasConnector_5 : decode cX1_hasConnector 5 = .ok (.aload_n 0, 1) := by decide +kernel
theorem dX1_hasConnector_6 : decode cX1_hasConnector 6 = .ok (.getfield 31, 3) := by decide +kernel
theorem dX1_hasConnector_9 : decode cX1_hasConnector 9 = .ok (.if_icmp .ge 7, 3) := by decide +kernel
theorem dX1_hasConnector_12 : decode cX1_hasConnector 12 = .ok (.iconst 1, 1) := by decide +kernel
theorem dX1_hasConnector_13 : decode cX1_hasConnector 13 = .ok (.goto 4, 3) := by decide +kernel
theorem dX1_hasConnector_16 : decode cX1_hasConnector 16 = .ok (.iconst 0, 1) := by decide +kernel
theorem dX1_hasConnector_17 : decode cX1_hasConnector 17 = .ok (.ireturn, 1) := by decide +kernel
theorem dX1_edge_0 : decode cX1_edge 0 = .ok (.aload_n 0, 1) := by decide +kernel
theorem dX1_edge_1 : decode cX1_edge 1 = .ok (.getfield 15, 3) := by decide +kernel
theorem dX1_edge_4 : decode cX1_edge 4 = .ok (.iconst 4, 1) := by decide +kernel
theorem dX1_edge_5 : decode cX1_edge 5 = .ok (.iload_n 1, 1) := by decide +kernel
theorem dX1_edge_6 : decode cX1_edge 6 = .ok (.imul, 1) := by decide +kernel
theorem dX1_edge_7 : decode cX1_edge 7 = .ok (.iload_n 2, 1) := by decide +kernel
theorem dX1_edge_8 : decode cX1_edge 8 = .ok (.iadd, 1) := by decide +kernel
theorem dX1_edge_9 : decode cX1_edge 9 = .ok (.iaload, 1) := by decide +kernel
theorem dX1_edge_10 : decode cX1_edge 10 = .ok (.ireturn, 1) := by decide +kernel
theorem dX1_putBox_0 : decode cX1_putBox 0 = .ok (.aload_n 0, 1) := by decide +kernel
theorem dX1_putBox_1 : decode cX1_putBox 1 = .ok (.getfield 15, 3) := by decide +kernel
theorem dX1_putBox_4 : decode cX1_putBox 4 = .ok (.iconst 4, 1) := by decide +kernel
theorem dX1_putBox_5 : decode cX1_putBox 5 = .ok (.iload_n 1, 1) := by decide +kernel
theorem dX1_putBox_6 : decode cX1_putBox 6 = .ok (.imul, 1) := by decide +kernel
theorem dX1_putBox_7 : decode cX1_putBox 7 = .ok (.iconst 0, 1) := by decide +kernel
theorem dX1_putBox_8 : decode cX1_putBox 8 = .ok (.iadd, 1) := by decide +kernel
theorem dX1_putBox_9 : decode cX1_putBox 9 = .ok (.iload_n 2, 1) := by decide +kernel
theorem dX1_putBox_10 : decode cX1_putBox 10 = .ok (.iastore, 1) := by decide +kernel
theorem dX1_putBox_11 : decode cX1_putBox 11 = .ok (.aload_n 0, 1) := by decide +kernel
theorem dX1_putBox_12 : decode cX1_putBox 12 = .ok (.getfield 15, 3) := by decide +kernel
theorem dX1_putBox_15 : decode cX1_putBox 15 = .ok (.iconst 4, 1) := by decide +kernel
theorem dX1_putBox_16 : decode cX1_putBox 16 = .ok (.iload_n 1, 1) := by decide +kernel
theorem dX1_putBox_17 : decode cX1_putBox 17 = .ok (.imul, 1) := by decide +kernel
theorem dX1_putBox_18 : decode cX1_putBox 18 = .ok (.iconst 1, 1) := by decide +kernel
theorem dX1_putBox_19 : decode cX1_putBox 19 = .ok (.iadd, 1) := by decide +kernel
theorem dX1_putBox_20 : decode cX1_putBox 20 = .ok (.iload_n 3, 1) := by decide +kernel
theorem dX1_putBox_21 : decode cX1_putBox 21 = .ok (.iastore, 1) := by decide +kernel
theorem dX1_putBox_22 : decode cX1_putBox 22 = .ok (.aload_n 0, 1) := by decide +kernel
theorem dX1_putBox_23 : decode cX1_putBox 23 = .ok (.getfield 15, 3) := by decide +kernel
theorem dX1_putBox_26 : decode cX1_putBox 26 = .ok (.iconst 4, 1) := by decide +kernel
theorem dX1_putBox_27 : decode cX1_putBox 27 = .ok (.iload_n 1, 1) := by decide +kernel
theorem dX1_putBox_28 : decode cX1_putBox 28 = .ok (.imul, 1) := by decide +kernel
theorem dX1_putBox_29 : decode cX1_putBox 29 = .ok (.iconst 2, 1) := by decide +kernel
theorem dX1_putBox_30 : decode cX1_putBox 30 = .ok (.iadd, 1) := by decide +kernel
theorem dX1_putBox_31 : decode cX1_putBox 31 = .ok (.iload 4, 2) := by decide +kernel
theorem dX1_putBox_33 : decode cX1_putBox 33 = .ok (.iastore, 1) := by decide +kernel
theorem dX1_putBox_34 : decode cX1_putBox 34 = .ok (.aload_n 0, 1) := by decide +kernel
theorem dX1_putBox_35 : decode cX1_putBox 35 = .ok (.getfield 15, 3) := by decide +kernel
theorem dX1_putBox_38 : decode cX1_putBox 38 = .ok (.iconst 4, 1) := by decide +kernel
theorem dX1_putBox_39 : decode cX1_putBox 39 = .ok (.iload_n 1, 1) := by decide +kernel
theorem dX1_putBox_40 : decode cX1_putBox 40 = .ok (.imul, 1) := by decide +kernel
theorem dX1_putBox_41 : decode cX1_putBox 41 = .ok (.iconst 3, 1) := by decide +kernel
theorem dX1_putBox_42 : decode cX1_putBox 42 = .ok (.iadd, 1) := by decide +kernel
theorem dX1_putBox_43 : decode cX1_putBox 43 = .ok (.iload 5, 2) := by decide +kernel
theorem dX1_putBox_45 : decode cX1_putBox 45 = .ok (.iastore, 1) := by decide +kernel
theorem dX1_putBox_46 : decode cX1_putBox 46 = .ok (.return_, 1) := by decide +kernel
theorem dX1_isTooNear_0 : decode cX1_isTooNear 0 = .ok (.iconst 0, 1) := by decide +kernel
theorem dX1_isTooNear_1 : decode cX1_isTooNear 1 = .ok (.istore 6, 2) := by decide +kernel
theorem dX1_isTooNear_3 : decode cX1_isTooNear 3 = .ok (.iload 6, 2) := by decide +kernel
theorem dX1_isTooNear_5 : decode cX1_isTooNear 5 = .ok (.aload_n 0, 1) := by decide +kernel
theorem dX1_isTooNear_6 : decode cX1_isTooNear 6 = .ok (.getfield 28, 3) := by decide +kernel
theorem dX1_isTooNear_9 : decode cX1_isTooNear 9 = .ok (.if_icmp .ge 83, 3) := by decide +kernel
theorem dX1_isTooNear_12 : decode cX1_isTooNear 12 = .ok (.iload_n 2, 1) := by decide +kernel
theorem dX1_isTooNear_13 : decode cX1_isTooNear 13 = .ok (.aload_n 0, 1) := by decide +kernel
theorem dX1_isTooNear_14 : decode cX1_isTooNear 14 = .ok (.iload 6, 2) := by decide +kernel
theorem dX1_isTooNear_16 : decode cX1_isTooNear 16 = .ok (.iconst 2, 1) := by decide +kernel
theorem dX1_isTooNear_17 : decode cX1_isTooNear 17 = .ok (.invokevirtual 40, 3) := by decide +kernel
theorem dX1_isTooNear_20 : decode cX1_isTooNear 20 = .ok (.iconst 2, 1) := by decide +kernel
theorem dX1_isTooNear_21 : decode cX1_isTooNear 21 = .ok (.iadd, 1) := by decide +kernel
theorem dX1_isTooNear_22 : decode cX1_isTooNear 22 = .ok (.if_icmp .ge 44, 3) := by decide +kernel
theorem dX1_isTooNear_25 : decode cX1_isTooNear 25 = .ok (.aload_n 0, 1) := by decide +kernel
theorem dX1_isTooNear_26 : decode cX1_isTooNear 26 = .ok (.iload 6, 2) := by decide +kernel
theorem dX1_isTooNear_28 : decode cX1_isTooNear 28 = .ok (.iconst 0, 1) := by decide +kernel
theorem dX1_isTooNear_29 : decode cX1_isTooNear 29 = .ok (.invokevirtual 40, 3) := by decide +kernel
theorem dX1_isTooNear_32 : decode cX1_isTooNear 32 = .ok (.iload 4, 2) := by decide +kernel
theorem dX1_isTooNear_34 : decode cX1_isTooNear 34 = .ok (.iconst 2, 1) := by decide +kernel
theorem dX1_isTooNear_35 : decode cX1_isTooNear 35 = .ok (.iadd, 1) := by decide +kernel
theorem dX1_isTooNear_36 : decode cX1_isTooNear 36 = .ok (.if_icmp .ge 30, 3) := by decide +kernel
theorem dX1_isTooNear_39 : decode cX1_isTooNear 39 = .ok (.iload_n 3, 1) := by decide +kernel
theorem dX1_isTooNear_40 : decode cX1_isTooNear 40 = .ok (.aload_n 0, 1) := by decide +kernel
theorem dX1_isTooNear_41 : decode cX1_isTooNear 41 = .ok (.iload 6, 2) := by decide +kernel
theorem dX1_isTooNear_43 : decode cX1_isTooNear 43 = .ok (.iconst 3, 1) := by decide +kernel
theorem dX1_isTooNear_44 : decode cX1_isTooNear 44 = .ok (.invokevirtual 40, 3) := by decide +kernel
theorem dX1_isTooNear_47 : decode cX1_isTooNear 47 = .ok (.iconst 2, 1) := by decide +kernel
theorem dX1_isTooNear_48 : decode cX1_isTooNear 48 = .ok (.iadd, 1) := by decide +kernel
theorem dX1_isTooNear_49 : decode cX1_isTooNear 49 = .ok (.if_icmp .ge 17, 3) := by decide +kernel
theorem dX1_isTooNear_52 : decode cX1_isTooNear 52 = .ok (.aload_n 0, 1) := by decide +kernel
theorem dX1_isTooNear_53 : decode cX1_isTooNear 53 = .ok (.iload 6, 2) := by decide +kernel
theorem dX1_isTooNear_55 : decode cX1_isTooNear 55 = .ok (.iconst 1, 1) := by decide +kernel
theorem dX1_isTooNear_56 : decode cX1_isTooNear 56 = .ok (.invokevirtual 40, 3) := by decide +kernel
theorem dX1_isTooNear_59 : decode cX1_isTooNear 59 = .ok (.iload 5, 2) := by decide +kernel
theorem dX1_isTooNear_61 : decode cX1_isTooNear 61 = .ok (.iconst 2, 1) := by decide +kernel
theorem dX1_isTooNear_62 : decode cX1_isTooNear 62 = .ok (.iadd, 1) := by decide +kernel
theorem dX1_isTooNear_63 : decode cX1_isTooNear 63 = .ok (.if_icmp .lt 7, 3) := by decide +kernel
theorem dX1_isTooNear_66 : decode cX1_isTooNear 66 = .ok (.iconst 1, 1) := by decide +kernel
theorem dX1_isTooNear_67 : decode cX1_isTooNear 67 = .ok (.goto 4, 3) := by decide +kernel
theorem dX1_isTooNear_70 : decode cX1_isTooNear 70 = .ok (.iconst 0, 1) := by decide +kernel
theorem dX1_isTooNear_71 : decode cX1_isTooNear 71 = .ok (.istore 7, 2) := by decide +kernel
theorem dX1_isTooNear_73 : decode cX1_isTooNear 73 = .ok (.iload 6, 2) := by decide +kernel
theorem dX1_isTooNear_75 : decode cX1_isTooNear 75 = .ok (.iload_n 1, 1) := by decide +kernel
theorem dX1_isTooNear_76 : decode cX1_isTooNear 76 = .ok (.if_icmp .eq 10, 3) := by decide +kernel
theorem dX1_isTooNear_79 : decode cX1_isTooNear 79 = .ok (.iload 7, 2) := by decide +kernel
theorem dX1_isTooNear_81 : decode cX1_isTooNear 81 = .ok (.ifCond .ne 5, 3) := by decide +kernel
theorem dX1_isTooNear_84 : decode cX1_isTooNear 84 = .ok (.iconst 1, 1) := by decide +kernel
theorem dX1_isTooNear_85 : decode cX1_isTooNear 85 = .ok (.ireturn, 1) := by decide +kernel
theorem dX1_isTooNear_86 : decode cX1_isTooNear 86 = .ok (.iinc 6 1, 3) := by decide +kernel
theorem dX1_isTooNear_89 : decode cX1_isTooNear 89 = .ok (.goto (-86), 3) := by decide +kernel
theorem dX1_isTooNear_92 : decode cX1_isTooNear 92 = .ok (.iconst 0, 1) := by decide +kernel
theorem dX1_isTooNear_93 : decode cX1_isTooNear 93 = .ok (.ireturn, 1) := by decide +kernel
theorem dX1_firstBoxOn_0 : decode cX1_firstBoxOn 0 = .ok (.iconst 0, 1) := by decide +kernel
theorem dX1_firstBoxOn_1 : decode cX1_firstBoxOn 1 = .ok (.istore 5, 2) := by decide +kernel
theorem dX1_firstBoxOn_3 : decode cX1_firstBoxOn 3 = .ok (.iload 5, 2) := by decide +kernel
theorem dX1_firstBoxOn_5 : decode cX1_firstBoxOn 5 = .ok (.aload_n 0, 1) := by decide +kernel
theorem dX1_firstBoxOn_6 : decode cX1_firstBoxOn 6 = .ok (.getfield 28, 3) := by decide +kernel
theorem dX1_firstBoxOn_9 : decode cX1_firstBoxOn 9 = .ok (.if_icmp .ge 71, 3) := by decide +kernel
theorem dX1_firstBoxOn_12 : decode cX1_firstBoxOn 12 = .ok (.iconst 4, 1) := by decide +kernel
theorem dX1_firstBoxOn_13 : decode cX1_firstBoxOn 13 = .ok (.iload 5, 2) := by decide +kernel
theorem dX1_firstBoxOn_15 : decode cX1_firstBoxOn 15 = .ok (.imul, 1) := by decide +kernel
theorem dX1_firstBoxOn_16 : decode cX1_firstBoxOn 16 = .ok (.istore 6, 2) := by decide +kernel
theorem dX1_firstBoxOn_18 : decode cX1_firstBoxOn 18 = .ok (.iload_n 3, 1) := by decide +kernel
theorem dX1_firstBoxOn_19 : decode cX1_firstBoxOn 19 = .ok (.aload_n 0, 1) := by decide +kernel
theorem dX1_firstBoxOn_20 : decode cX1_firstBoxOn 20 = .ok (.getfield 15, 3) := by decide +kernel
theorem dX1_firstBoxOn_23 : decode cX1_firstBoxOn 23 = .ok (.iload 6, 2) := by decide +kernel
theorem dX1_firstBoxOn_25 : decode cX1_firstBoxOn 25 = .ok (.iconst 0, 1) := by decide +kernel
theorem dX1_firstBoxOn_26 : decode cX1_firstBoxOn 26 = .ok (.iadd, 1) := by decide +kernel
theorem dX1_firstBoxOn_27 : decode cX1_firstBoxOn 27 = .ok (.iaload, 1) := by decide +kernel
theorem dX1_firstBoxOn_28 : decode cX1_firstBoxOn 28 = .ok (.if_icmp .lt 46, 3) := by decide +kernel
theorem dX1_firstBoxOn_31 : decode cX1_firstBoxOn 31 = .ok (.iload_n 1, 1) := by decide +kernel
theorem dX1_firstBoxOn_32 : decode cX1_firstBoxOn 32 = .ok (.aload_n 0, 1) := by decide +kernel
theorem dX1_firstBoxOn_33 : decode cX1_firstBoxOn 33 = .ok (.getfield 15, 3) := by decide +kernel
theorem dX1_firstBoxOn_36 : decode cX1_firstBoxOn 36 = .ok (.iload 6, 2) := by decide +kernel
theorem dX1_firstBoxOn_38 : decode cX1_firstBoxOn 38 = .ok (.iconst 2, 1) := by decide +kernel
theorem dX1_firstBoxOn_39 : decode cX1_firstBoxOn 39 = .ok (.iadd, 1) := by decide +kernel
theorem dX1_firstBoxOn_40 : decode cX1_firstBoxOn 40 = .ok (.iaload, 1) := by decide +kernel
theorem dX1_firstBoxOn_41 : decode cX1_firstBoxOn 41 = .ok (.if_icmp .gt 33, 3) := by decide +kernel
theorem dX1_firstBoxOn_44 : decode cX1_firstBoxOn 44 = .ok (.iload 4, 2) := by decide +kernel
theorem dX1_firstBoxOn_46 : decode cX1_firstBoxOn 46 = .ok (.aload_n 0, 1) := by decide +kernel
theorem dX1_firstBoxOn_47 : decode cX1_firstBoxOn 47 = .ok (.getfield 15, 3) := by decide +kernel
theorem dX1_firstBoxOn_50 : decode cX1_firstBoxOn 50 = .ok (.iload 6, 2) := by decide +kernel
theorem dX1_firstBoxOn_52 : decode cX1_firstBoxOn 52 = .ok (.iconst 1, 1) := by decide +kernel
theorem dX1_firstBoxOn_53 : decode cX1_firstBoxOn 53 = .ok (.iadd, 1) := by decide +kernel
theorem dX1_firstBoxOn_54 : decode cX1_firstBoxOn 54 = .ok (.iaload, 1) := by decide +kernel
theorem dX1_firstBoxOn_55 : decode cX1_firstBoxOn 55 = .ok (.if_icmp .lt 19, 3) := by decide +kernel
theorem dX1_firstBoxOn_58 : decode cX1_firstBoxOn 58 = .ok (.iload_n 2, 1) := by decide +kernel
theorem dX1_firstBoxOn_59 : decode cX1_firstBoxOn 59 = .ok (.aload_n 0, 1) := by decide +kernel
theorem dX1_firstBoxOn_60 : decode cX1_firstBoxOn 60 = .ok (.getfield 15, 3) := by decide +kernel
theorem dX1_firstBoxOn_63 : decode cX1_firstBoxOn 63 = .ok (.iload 6, 2) := by decide +kernel
theorem dX1_firstBoxOn_65 : decode cX1_firstBoxOn 65 = .ok (.iconst 3, 1) := by decide +kernel
theorem dX1_firstBoxOn_66 : decode cX1_firstBoxOn 66 = .ok (.iadd, 1) := by decide +kernel
theorem dX1_firstBoxOn_67 : decode cX1_firstBoxOn 67 = .ok (.iaload, 1) := by decide +kernel
theorem dX1_firstBoxOn_68 : decode cX1_firstBoxOn 68 = .ok (.if_icmp .gt 6, 3) := by decide +kernel
theorem dX1_firstBoxOn_71 : decode cX1_firstBoxOn 71 = .ok (.iload 5, 2) := by decide +kernel
theorem dX1_firstBoxOn_73 : decode cX1_firstBoxOn 73 = .ok (.ireturn, 1) := by decide +kernel
theorem dX1_firstBoxOn_74 : decode cX1_firstBoxOn 74 = .ok (.iinc 5 1, 3) := by decide +kernel
theorem dX1_firstBoxOn_77 : decode cX1_firstBoxOn 77 = .ok (.goto (-74), 3) := by decide +kernel
theorem dX1_firstBoxOn_80 : decode cX1_firstBoxOn 80 = .ok (.iconst (-1), 1) := by decide +kernel
theorem dX1_firstBoxOn_81 : decode cX1_firstBoxOn 81 = .ok (.ireturn, 1) := by decide +kernel
theorem dX1_hasPort_0 : decode cX1_hasPort 0 = .ok (.iload_n 2, 1) := by decide +kernel
theorem dX1_hasPort_1 : decode cX1_hasPort 1 = .ok (.ifCond .lt 12, 3) := by decide +kernel
theorem dX1_hasPort_4 : decode cX1_hasPort 4 = .ok (.iload_n 2, 1) := by decide +kernel
theorem dX1_hasPort_5 : decode cX1_hasPort 5 = .ok (.iconst 4, 1) := by decide +kernel
theorem dX1_hasPort_6 : decode cX1_hasPort 6 = .ok (.if_icmp .ge 7, 3) := by decide +kernel
theorem dX1_hasPort_9 : decode cX1_hasPort 9 = .ok (.iload_n 3, 1) := by decide +kernel
theorem dX1_hasPort_10 : decode cX1_hasPort 10 = .ok (.ifCond .ge 5, 3) := by decide +kernel
theorem dX1_hasPort_13 : decode cX1_hasPort 13 = .ok (.iconst 0, 1) := by decide +kernel
theorem dX1_hasPort_14 : decode cX1_hasPort 14 = .ok (.ireturn, 1) := by decide +kernel
theorem dX1_hasPort_15 : decode cX1_hasPort 15 = .ok (.iload_n 2, 1) := by decide +kernel
theorem dX1_hasPort_16 : decode cX1_hasPort 16 = .ok (.invokestatic 46, 3) := by decide +kernel
theorem dX1_hasPort_19 : decode cX1_hasPort 19 = .ok (.ifCond .eq 19, 3) := by decide +kernel
theorem dX1_hasPort_22 : decode cX1_hasPort 22 = .ok (.aload_n 0, 1) := by decide +kernel
theorem dX1_hasPort_23 : decode cX1_hasPort 23 = .ok (.iload_n 1, 1) := by decide +kernel
theorem dX1_hasPort_24 : decode cX1_hasPort 24 = .ok (.iconst 2, 1) := by decide +kernel
theorem dX1_hasPort_25 : decode cX1_hasPort 25 = .ok (.invokevirtual 40, 3) := by decide +kernel
theorem dX1_hasPort_28 : decode cX1_hasPort 28 = .ok (.aload_n 0, 1) := by decide +kernel
theorem dX1_hasPort_29 : decode cX1_hasPort 29 = .ok (.iload_n 1, 1) := by decide +kernel
theorem dX1_hasPort_30 : decode cX1_hasPort 30 = .ok (.iconst 0, 1) := by decide +kernel
theorem dX1_hasPort_31 : decode cX1_hasPort 31 = .ok (.invokevirtual 40, 3) := by decide +kernel
theorem dX1_hasPort_34 : decode cX1_hasPort 34 = .ok (.isub, 1) := by decide +kernel
theorem dX1_hasPort_35 : decode cX1_hasPort 35 = .ok (.goto 16, 3) := by decide +kernel
theorem dX1_hasPort_38 : decode cX1_hasPort 38 = .ok (.aload_n 0, 1) := by decide +kernel
theorem dX1_hasPort_39 : decode cX1_hasPort 39 = .ok (.iload_n 1, 1) := by decide +kernel
theorem dX1_hasPort_40 : decode cX1_hasPort 40 = .ok (.iconst 3, 1) := by decide +kernel
theorem dX1_hasPort_41 : decode cX1_hasPort 41 = .ok (.invokevirtual 40, 3) := by decide +kernel
theorem dX1_hasPort_44 : decode cX1_hasPort 44 = .ok (.aload_n 0, 1) := by decide +kernel
theorem dX1_hasPort_45 : decode cX1_hasPort 45 = .ok (.iload_n 1, 1) := by decide +kernel
theorem dX1_hasPort_46 : decode cX1_hasPort 46 = .ok (.iconst 1, 1) := by decide +kernel
theorem dX1_hasPort_47 : decode cX1_hasPort 47 = .ok (.invokevirtual 40, 3) := by decide +kernel
theorem dX1_hasPort_50 : decode cX1_hasPort 50 = .ok (.isub, 1) := by decide +kernel
theorem dX1_hasPort_51 : decode cX1_hasPort 51 = .ok (.istore 4, 2) := by decide +kernel
theorem dX1_hasPort_53 : decode cX1_hasPort 53 = .ok (.iload_n 3, 1) := by decide +kernel
theorem dX1_hasPort_54 : decode cX1_hasPort 54 = .ok (.iload 4, 2) := by decide +kernel
theorem dX1_hasPort_56 : decode cX1_hasPort 56 = .ok (.if_icmp .gt 7, 3) := by decide +kernel
theorem dX1_hasPort_59 : decode cX1_hasPort 59 = .ok (.iconst 1, 1) := by decide +kernel
theorem dX1_hasPort_60 : decode cX1_hasPort 60 = .ok (.goto 4, 3) := by decide +kernel
theorem dX1_hasPort_63 : decode cX1_hasPort 63 = .ok (.iconst 0, 1) := by decide +kernel
theorem dX1_hasPort_64 : decode cX1_hasPort 64 = .ok (.ireturn, 1) := by decide +kernel
theorem dX1_putPort_0 : decode cX1_putPort 0 = .ok (.bipush 6, 2) := by decide +kernel
theorem dX1_putPort_2 : decode cX1_putPort 2 = .ok (.iload_n 1, 1) := by decide +kernel
theorem dX1_putPort_3 : decode cX1_putPort 3 = .ok (.imul, 1) := by decide +kernel
theorem dX1_putPort_4 : decode cX1_putPort 4 = .ok (.iconst 3, 1) := by decide +kernel
theorem dX1_putPort_5 : decode cX1_putPort 5 = .ok (.iload_n 2, 1) := by decide +kernel
theorem dX1_putPort_6 : decode cX1_putPort 6 = .ok (.imul, 1) := by decide +kernel
theorem dX1_putPort_7 : decode cX1_putPort 7 = .ok (.iadd, 1) := by decide +kernel
theorem dX1_putPort_8 : decode cX1_putPort 8 = .ok (.istore 6, 2) := by decide +kernel
theorem dX1_putPort_10 : decode cX1_putPort 10 = .ok (.aload_n 0, 1) := by decide +kernel
theorem dX1_putPort_11 : decode cX1_putPort 11 = .ok (.getfield 19, 3) := by decide +kernel
theorem dX1_putPort_14 : decode cX1_putPort 14 = .ok (.iload 6, 2) := by decide +kernel
theorem dX1_putPort_16 : decode cX1_putPort 16 = .ok (.iconst 0, 1) := by decide +kernel
theorem dX1_putPort_17 : decode cX1_putPort 17 = .ok (.iadd, 1) := by decide +kernel
theorem dX1_putPort_18 : decode cX1_putPort 18 = .ok (.iload_n 3, 1) := by decide +kernel
theorem dX1_putPort_19 : decode cX1_putPort 19 = .ok (.iastore, 1) := by decide +kernel
theorem dX1_putPort_20 : decode cX1_putPort 20 = .ok (.aload_n 0, 1) := by decide +kernel
theorem dX1_putPort_21 : decode cX1_putPort 21 = .ok (.getfield 19, 3) := by decide +kernel
theorem dX1_putPort_24 : decode cX1_putPort 24 = .ok (.iload 6, 2) := by decide +kernel
theorem dX1_putPort_26 : decode cX1_putPort 26 = .ok (.iconst 1, 1) := by decide +kernel
theorem dX1_putPort_27 : decode cX1_putPort 27 = .ok (.iadd, 1) := by decide +kernel
theorem dX1_putPort_28 : decode cX1_putPort 28 = .ok (.iload 4, 2) := by decide +kernel
theorem dX1_putPort_30 : decode cX1_putPort 30 = .ok (.iastore, 1) := by decide +kernel
theorem dX1_putPort_31 : decode cX1_putPort 31 = .ok (.aload_n 0, 1) := by decide +kernel
theorem dX1_putPort_32 : decode cX1_putPort 32 = .ok (.getfield 19, 3) := by decide +kernel
theorem dX1_putPort_35 : decode cX1_putPort 35 = .ok (.iload 6, 2) := by decide +kernel
theorem dX1_putPort_37 : decode cX1_putPort 37 = .ok (.iconst 2, 1) := by decide +kernel
theorem dX1_putPort_38 : decode cX1_putPort 38 = .ok (.iadd, 1) := by decide +kernel
theorem dX1_putPort_39 : decode cX1_putPort 39 = .ok (.iload 5, 2) := by decide +kernel
theorem dX1_putPort_41 : decode cX1_putPort 41 = .ok (.iastore, 1) := by decide +kernel
theorem dX1_putPort_42 : decode cX1_putPort 42 = .ok (.return_, 1) := by decide +kernel
theorem dX1_portDetail_0 : decode cX1_portDetail 0 = .ok (.aload_n 0, 1) := by decide +kernel
theorem dX1_portDetail_1 : decode cX1_portDetail 1 = .ok (.getfield 19, 3) := by decide +kernel
theorem dX1_portDetail_4 : decode cX1_portDetail 4 = .ok (.bipush 6, 2) := by decide +kernel
theorem dX1_portDetail_6 : decode cX1_portDetail 6 = .ok (.iload_n 1, 1) := by decide +kernel
theorem dX1_portDetail_7 : decode cX1_portDetail 7 = .ok (.imul, 1) := by decide +kernel
theorem dX1_portDetail_8 : decode cX1_portDetail 8 = .ok (.iload_n 2, 1) := by decide +kernel
theorem dX1_portDetail_9 : decode cX1_portDetail 9 = .ok (.iadd, 1) := by decide +kernel
theorem dX1_portDetail_10 : decode cX1_portDetail 10 = .ok (.iaload, 1) := by decide +kernel
theorem dX1_portDetail_11 : decode cX1_portDetail 11 = .ok (.ireturn, 1) := by decide +kernel
theorem dX1_portSide_0 : decode cX1_portSide 0 = .ok (.aload_n 0, 1) := by decide +kernel
theorem dX1_portSide_1 : decode cX1_portSide 1 = .ok (.getfield 19, 3) := by decide +kernel
theorem dX1_portSide_4 : decode cX1_portSide 4 = .ok (.bipush 6, 2) := by decide +kernel
theorem dX1_portSide_6 : decode cX1_portSide 6 = .ok (.iload_n 1, 1) := by decide +kernel
theorem dX1_portSide_7 : decode cX1_portSide 7 = .ok (.imul, 1) := by decide +kernel
theorem dX1_portSide_8 : decode cX1_portSide 8 = .ok (.iconst 3, 1) := by decide +kernel
theorem dX1_portSide_9 : decode cX1_portSide 9 = .ok (.iload_n 2, 1) := by decide +kernel
theorem dX1_portSide_10 : decode cX1_portSide 10 = .ok (.imul, 1) := by decide +kernel
theorem dX1_portSide_11 : decode cX1_portSide 11 = .ok (.iadd, 1) := by decide +kernel
theorem dX1_portSide_12 : decode cX1_portSide 12 = .ok (.iconst 1, 1) := by decide +kernel
theorem dX1_portSide_13 : decode cX1_portSide 13 = .ok (.iadd, 1) := by decide +kernel
theorem dX1_portSide_14 : decode cX1_portSide 14 = .ok (.iaload, 1) := by decide +kernel
theorem dX1_portSide_15 : decode cX1_portSide 15 = .ok (.ireturn, 1) := by decide +kernel
theorem dX1_portX_0 : decode cX1_portX 0 = .ok (.aload_n 0, 1) := by decide +kernel
theorem dX1_portX_1 : decode cX1_portX 1 = .ok (.iload_n 1, 1) := by decide +kernel
theorem dX1_portX_2 : decode cX1_portX 2 = .ok (.iconst 3, 1) := by decide +kernel
theorem dX1_portX_3 : decode cX1_portX 3 = .ok (.iload_n 2, 1) := by decide +kernel
theorem dX1_portX_4 : decode cX1_portX 4 = .ok (.imul, 1) := by decide +kernel
theorem dX1_portX_5 : decode cX1_portX 5 = .ok (.iconst 0, 1) := by decide +kernel
theorem dX1_portX_6 : decode cX1_portX 6 = .ok (.iadd, 1) := by decide +kernel
theorem dX1_portX_7 : decode cX1_portX 7 = .ok (.invokevirtual 50, 3) := by decide +kernel
theorem dX1_portX_10 : decode cX1_portX 10 = .ok (.istore_n 3, 1) := by decide +kernel
theorem dX1_portX_11 : decode cX1_portX 11 = .ok (.aload_n 0, 1) := by decide +kernel
theorem dX1_portX_12 : decode cX1_portX 12 = .ok (.iload_n 1, 1) := by decide +kernel
theorem dX1_portX_13 : decode cX1_portX 13 = .ok (.iload_n 2, 1) := by decide +kernel
theorem dX1_portX_14 : decode cX1_portX 14 = .ok (.invokevirtual 53, 3) := by decide +kernel
theorem dX1_portX_17 : decode cX1_portX 17 = .ok (.istore 4, 2) := by decide +kernel
theorem dX1_portX_19 : decode cX1_portX 19 = .ok (.iload 4, 2) := by decide +kernel
theorem dX1_portX_21 : decode cX1_portX 21 = .ok (.invokestatic 46, 3) := by decide +kernel
theorem dX1_portX_24 : decode cX1_portX 24 = .ok (.ifCond .eq 21, 3) := by decide +kernel
theorem dX1_portX_27 : decode cX1_portX 27 = .ok (.aload_n 0, 1) := by decide +kernel
theorem dX1_portX_28 : decode cX1_portX 28 = .ok (.iload_n 3, 1) := by decide +kernel
theorem dX1_portX_29 : decode cX1_portX 29 = .ok (.iconst 0, 1) := by decide +kernel
theorem dX1_portX_30 : decode cX1_portX 30 = .ok (.invokevirtual 40, 3) := by decide +kernel
theorem dX1_portX_33 : decode cX1_portX 33 = .ok (.aload_n 0, 1) := by decide +kernel
theorem dX1_portX_34 : decode cX1_portX 34 = .ok (.iload_n 1, 1) := by decide +kernel
theorem dX1_portX_35 : decode cX1_portX 35 = .ok (.iconst 3, 1) := by decide +kernel
theorem dX1_portX_36 : decode cX1_portX 36 = .ok (.iload_n 2, 1) := by decide +kernel
theorem dX1_portX_37 : decode cX1_portX 37 = .ok (.imul, 1) := by decide +kernel
theorem dX1_portX_38 : decode cX1_portX 38 = .ok (.iconst 2, 1) := by decide +kernel
theorem dX1_portX_39 : decode cX1_portX 39 = .ok (.iadd, 1) := by decide +kernel
theorem dX1_portX_40 : decode cX1_portX 40 = .ok (.invokevirtual 50, 3) := by decide +kernel
theorem dX1_portX_43 : decode cX1_portX 43 = .ok (.iadd, 1) := by decide +kernel
theorem dX1_portX_44 : decode cX1_portX 44 = .ok (.ireturn, 1) := by decide +kernel
theorem dX1_portX_45 : decode cX1_portX 45 = .ok (.aload_n 0, 1) := by decide +kernel
theorem dX1_portX_46 : decode cX1_portX 46 = .ok (.iload_n 3, 1) := by decide +kernel
theorem dX1_portX_47 : decode cX1_portX 47 = .ok (.iload 4, 2) := by decide +kernel
theorem dX1_portX_49 : decode cX1_portX 49 = .ok (.iconst 1, 1) := by decide +kernel
theorem dX1_portX_50 : decode cX1_portX 50 = .ok (.if_icmp .ne 7, 3) := by decide +kernel
theorem dX1_portX_53 : decode cX1_portX 53 = .ok (.iconst 2, 1) := by decide +kernel
theorem dX1_portX_54 : decode cX1_portX 54 = .ok (.goto 4, 3) := by decide +kernel
theorem dX1_portX_57 : decode cX1_portX 57 = .ok (.iconst 0, 1) := by decide +kernel
theorem dX1_portX_58 : decode cX1_portX 58 = .ok (.invokevirtual 40, 3) := by decide +kernel
theorem dX1_portX_61 : decode cX1_portX 61 = .ok (.ireturn, 1) := by decide +kernel
theorem dX1_portY_0 : decode cX1_portY 0 = .ok (.aload_n 0, 1) := by decide +kernel
theorem dX1_portY_1 : decode cX1_portY 1 = .ok (.iload_n 1, 1) := by decide +kernel
theorem dX1_portY_2 : decode cX1_portY 2 = .ok (.iconst 3, 1) := by decide +kernel
theorem dX1_portY_3 : decode cX1_portY 3 = .ok (.iload_n 2, 1) := by decide +kernel
theorem dX1_portY_4 : decode cX1_portY 4 = .ok (.imul, 1) := by decide +kernel
theorem dX1_portY_5 : decode cX1_portY 5 = .ok (.iconst 0, 1) := by decide +kernel
theorem dX1_portY_6 : decode cX1_portY 6 = .ok (.iadd, 1) := by decide +kernel
theorem dX1_portY_7 : decode cX1_portY 7 = .ok (.invokevirtual 50, 3) := by decide +kernel
theorem dX1_portY_10 : decode cX1_portY 10 = .ok (.istore_n 3, 1) := by decide +kernel
theorem dX1_portY_11 : decode cX1_portY 11 = .ok (.aload_n 0, 1) := by decide +kernel
theorem dX1_portY_12 : decode cX1_portY 12 = .ok (.iload_n 1, 1) := by decide +kernel
theorem dX1_portY_13 : decode cX1_portY 13 = .ok (.iload_n 2, 1) := by decide +kernel
theorem dX1_portY_14 : decode cX1_portY 14 = .ok (.invokevirtual 53, 3) := by decide +kernel
theorem dX1_portY_17 : decode cX1_portY 17 = .ok (.istore 4, 2) := by decide +kernel
theorem dX1_portY_19 : decode cX1_portY 19 = .ok (.iload 4, 2) := by decide +kernel
theorem dX1_portY_21 : decode cX1_portY 21 = .ok (.invokestatic 46, 3) := by decide +kernel
theorem dX1_portY_24 : decode cX1_portY 24 = .ok (.ifCond .ne 21, 3) := by decide +kernel
theorem dX1_portY_27 : decode cX1_portY 27 = .ok (.aload_n 0, 1) := by decide +kernel
theorem dX1_portY_28 : decode cX1_portY 28 = .ok (.iload_n 3, 1) := by decide +kernel
theorem dX1_portY_29 : decode cX1_portY 29 = .ok (.iconst 1, 1) := by decide +kernel
theorem dX1_portY_30 : decode cX1_portY 30 = .ok (.invokevirtual 40, 3) := by decide +kernel
theorem dX1_portY_33 : decode cX1_portY 33 = .ok (.aload_n 0, 1) := by decide +kernel
theorem dX1_portY_34 : decode cX1_portY 34 = .ok (.iload_n 1, 1) := by decide +kernel
theorem dX1_portY_35 : decode cX1_portY 35 = .ok (.iconst 3, 1) := by decide +kernel
theorem dX1_portY_36 : decode cX1_portY 36 = .ok (.iload_n 2, 1) := by decide +kernel
theorem dX1_portY_37 : decode cX1_portY 37 = .ok (.imul, 1) := by decide +kernel
theorem dX1_portY_38 : decode cX1_portY 38 = .ok (.iconst 2, 1) := by decide +kernel
theorem dX1_portY_39 : decode cX1_portY 39 = .ok (.iadd, 1) := by decide +kernel
theorem dX1_portY_40 : decode cX1_portY 40 = .ok (.invokevirtual 50, 3) := by decide +kernel
theorem dX1_portY_43 : decode cX1_portY 43 = .ok (.iadd, 1) := by decide +kernel
theorem dX1_portY_44 : decode cX1_portY 44 = .ok (.ireturn, 1) := by decide +kernel
theorem dX1_portY_45 : decode cX1_portY 45 = .ok (.aload_n 0, 1) := by decide +kernel
theorem dX1_portY_46 : decode cX1_portY 46 = .ok (.iload_n 3, 1) := by decide +kernel
theorem dX1_portY_47 : decode cX1_portY 47 = .ok (.iload 4, 2) := by decide +kernel
theorem dX1_portY_49 : decode cX1_portY 49 = .ok (.iconst 2, 1) := by decide +kernel
theorem dX1_portY_50 : decode cX1_portY 50 = .ok (.if_icmp .ne 7, 3) := by decide +kernel
theorem dX1_portY_53 : decode cX1_portY 53 = .ok (.iconst 3, 1) := by decide +kernel
theorem dX1_portY_54 : decode cX1_portY 54 = .ok (.goto 4, 3) := by decide +kernel
theorem dX1_portY_57 : decode cX1_portY 57 = .ok (.iconst 1, 1) := by decide +kernel
theorem dX1_portY_58 : decode cX1_portY 58 = .ok (.invokevirtual 40, 3) := by decide +kernel
theorem dX1_portY_61 : decode cX1_portY 61 = .ok (.ireturn, 1) := by decide +kernel
theorem dX1_connectorsAt_0 : decode cX1_connectorsAt 0 = .ok (.iconst 0, 1) := by decide +kernel
theorem dX1_connectorsAt_1 : decode cX1_connectorsAt 1 = .ok (.istore_n 2, 1) := by decide +kernel
theorem dX1_connectorsAt_2 : decode cX1_connectorsAt 2 = .ok (.iconst 0, 1) := by decide +kernel
theorem dX1_connectorsAt_3 : decode cX1_connectorsAt 3 = .ok (.istore_n 3, 1) := by decide +kernel
theorem dX1_connectorsAt_4 : decode cX1_connectorsAt 4 = .ok (.iload_n 3, 1) := by decide +kernel
theorem dX1_connectorsAt_5 : decode cX1_connectorsAt 5 = .ok (.aload_n 0, 1) := by decide +kernel
theorem dX1_connectorsAt_6 : decode cX1_connectorsAt 6 = .ok (.getfield 31, 3) := by decide +kernel
theorem dX1_connectorsAt_9 : decode cX1_connectorsAt 9 = .ok (.if_icmp .ge 32, 3) := by decide +kernel
theorem dX1_connectorsAt_12 : decode cX1_connectorsAt 12 = .ok (.aload_n 0, 1) := by decide +kernel
theorem dX1_connectorsAt_13 : decode cX1_connectorsAt 13 = .ok (.iload_n 3, 1) := by decide +kernel
theorem dX1_connectorsAt_14 : decode cX1_connectorsAt 14 = .ok (.iconst 0, 1) := by decide +kernel
theorem dX1_connectorsAt_15 : decode cX1_connectorsAt 15 = .ok (.invokevirtual 50, 3) := by decide +kernel
theorem dX1_connectorsAt_18 : decode cX1_connectorsAt 18 = .ok (.iload_n 1, 1) := by decide +kernel
theorem dX1_connectorsAt_19 : decode cX1_connectorsAt 19 = .ok (.if_icmp .eq 13, 3) := by decide +kernel
theorem dX1_connectorsAt_22 : decode cX1_connectorsAt 22 = .ok (.aload_n 0, 1) := by decide +kernel
theorem dX1_connectorsAt_23 : decode cX1_connectorsAt 23 = .ok (.iload_n 3, 1) := by decide +kernel
theorem dX1_connectorsAt_24 : decode cX1_connectorsAt 24 = .ok (.iconst 3, 1) := by decide +kernel
theorem dX1_connectorsAt_25 : decode cX1_connectorsAt 25 = .ok (.invokevirtual 50, 3) := by decide +kernel
theorem dX1_connectorsAt_28 : decode cX1_connectorsAt 28 = .ok (.iload_n 1, 1) := by decide +kernel
theorem dX1_connectorsAt_29 : decode cX1_connectorsAt 29 = .ok (.if_icmp .ne 6, 3) := by decide +kernel
theorem dX1_connectorsAt_32 : decode cX1_connectorsAt 32 = .ok (.iinc 2 1, 3) := by decide +kernel
theorem dX1_connectorsAt_35 : decode cX1_connectorsAt 35 = .ok (.iinc 3 1, 3) := by decide +kernel
theorem dX1_connectorsAt_38 : decode cX1_connectorsAt 38 = .ok (.goto (-34), 3) := by decide +kernel
theorem dX1_connectorsAt_41 : decode cX1_connectorsAt 41 = .ok (.iload_n 2, 1) := by decide +kernel
theorem dX1_connectorsAt_42 : decode cX1_connectorsAt 42 = .ok (.ireturn, 1) := by decide +kernel
theorem dX1_removeConnector_0 : decode cX1_removeConnector 0 = .ok (.aload_n 0, 1) := by decide +kernel
theorem dX1_removeConnector_1 : decode cX1_removeConnector 1 = .ok (.dup, 1) := by decide +kernel
theorem dX1_removeConnector_2 : decode cX1_removeConnector 2 = .ok (.getfield 31, 3) := by decide +kernel
theorem dX1_removeConnector_5 : decode cX1_removeConnector 5 = .ok (.iconst 1, 1) := by decide +kernel
theorem dX1_removeConnector_6 : decode cX1_removeConnector 6 = .ok (.isub, 1) := by decide +kernel
theorem dX1_removeConnector_7 : decode cX1_removeConnector 7 = .ok (.putfield 31, 3) := by decide +kernel
theorem dX1_removeConnector_10 : decode cX1_removeConnector 10 = .ok (.iload_n 1, 1) := by decide +kernel
theorem dX1_removeConnector_11 : decode cX1_removeConnector 11 = .ok (.istore_n 2, 1) := by decide +kernel
theorem dX1_removeConnector_12 : decode cX1_removeConnector 12 = .ok (.iload_n 2, 1) := by decide +kernel
theorem dX1_removeConnector_13 : decode cX1_removeConnector 13 = .ok (.aload_n 0, 1) := by decide +kernel
theorem dX1_removeConnector_14 : decode cX1_removeConnector 14 = .ok (.getfield 31, 3) := by decide +kernel
theorem dX1_removeConnector_17 : decode cX1_removeConnector 17 = .ok (.if_icmp .ge 46, 3) := by decide +kernel
theorem dX1_removeConnector_20 : decode cX1_removeConnector 20 = .ok (.aload_n 0, 1) := by decide +kernel
theorem dX1_removeConnector_21 : decode cX1_removeConnector 21 = .ok (.getfield 19, 3) := by decide +kernel
theorem dX1_removeConnector_24 : decode cX1_removeConnector 24 = .ok (.bipush 6, 2) := by decide +kernel
theorem dX1_removeConnector_26 : decode cX1_removeConnector 26 = .ok (.iload_n 2, 1) := by decide +kernel
theorem dX1_removeConnector_27 : decode cX1_removeConnector 27 = .ok (.iconst 1, 1) := by decide +kernel
theorem dX1_removeConnector_28 : decode cX1_removeConnector 28 = .ok (.iadd, 1) := by decide +kernel
theorem dX1_removeConnector_29 : decode cX1_removeConnector 29 = .ok (.imul, 1) := by decide +kernel
theorem dX1_removeConnector_30 : decode cX1_removeConnector 30 = .ok (.aload_n 0, 1) := by decide +kernel
theorem dX1_removeConnector_31 : decode cX1_removeConnector 31 = .ok (.getfield 19, 3) := by decide +kernel
theorem dX1_removeConnector_34 : decode cX1_removeConnector 34 = .ok (.bipush 6, 2) := by decide +kernel
theorem dX1_removeConnector_36 : decode cX1_removeConnector 36 = .ok (.iload_n 2, 1) := by decide +kernel
theorem dX1_removeConnector_37 : decode cX1_removeConnector 37 = .ok (.imul, 1) := by decide +kernel
theorem dX1_removeConnector_38 : decode cX1_removeConnector 38 = .ok (.bipush 6, 2) := by decide +kernel
theorem dX1_removeConnector_40 : decode cX1_removeConnector 40 = .ok (.invokestatic 34, 3) := by decide +kernel
theorem dX1_removeConnector_43 : decode cX1_removeConnector 43 = .ok (.aload_n 0, 1) := by decide +kernel
theorem dX1_removeConnector_44 : decode cX1_removeConnector 44 = .ok (.getfield 24, 3) := by decide +kernel
theorem dX1_removeConnector_47 : decode cX1_removeConnector 47 = .ok (.iload_n 2, 1) := by decide +kernel
theorem dX1_removeConnector_48 : decode cX1_removeConnector 48 = .ok (.aload_n 0, 1) := by decide +kernel
theorem dX1_removeConnector_49 : decode cX1_removeConnector 49 = .ok (.getfield 24, 3) := by decide +kernel
theorem dX1_removeConnector_52 : decode cX1_removeConnector 52 = .ok (.iload_n 2, 1) := by decide +kernel
theorem dX1_removeConnector_53 : decode cX1_removeConnector 53 = .ok (.iconst 1, 1) := by decide +kernel
theorem dX1_removeConnector_54 : decode cX1_removeConnector 54 = .ok (.iadd, 1) := by decide +kernel
theorem dX1_removeConnector_55 : decode cX1_removeConnector 55 = .ok (.aaload, 1) := by decide +kernel
theorem dX1_removeConnector_56 : decode cX1_removeConnector 56 = .ok (.aastore, 1) := by decide +kernel
theorem dX1_removeConnector_57 : decode cX1_removeConnector 57 = .ok (.iinc 2 1, 3) := by decide +kernel
theorem dX1_removeConnector_60 : decode cX1_removeConnector 60 = .ok (.goto (-48), 3) := by decide +kernel
theorem dX1_removeConnector_63 : decode cX1_removeConnector 63 = .ok (.aload_n 0, 1) := by decide +kernel
theorem dX1_removeConnector_64 : decode cX1_removeConnector 64 = .ok (.getfield 24, 3) := by decide +kernel
theorem dX1_removeConnector_67 : decode cX1_removeConnector 67 = .ok (.aload_n 0, 1) := by decide +kernel
theorem dX1_removeConnector_68 : decode cX1_removeConnector 68 = .ok (.getfield 31, 3) := by decide +kernel
theorem dX1_removeConnector_71 : decode cX1_removeConnector 71 = .ok (.aconst_null, 1) := by decide +kernel
theorem dX1_removeConnector_72 : decode cX1_removeConnector 72 = .ok (.aastore, 1) := by decide +kernel
theorem dX1_removeConnector_73 : decode cX1_removeConnector 73 = .ok (.return_, 1) := by decide +kernel
theorem dX1_routeOf_0 : decode cX1_routeOf 0 = .ok (.aload_n 0, 1) := by decide +kernel
theorem dX1_routeOf_1 : decode cX1_routeOf 1 = .ok (.iload_n 1, 1) := by decide +kernel
theorem dX1_routeOf_2 : decode cX1_routeOf 2 = .ok (.invokevirtual 56, 3) := by decide +kernel
theorem dX1_routeOf_5 : decode cX1_routeOf 5 = .ok (.ifCond .eq 12, 3) := by decide +kernel
theorem dX1_routeOf_8 : decode cX1_routeOf 8 = .ok (.aload_n 0, 1) := by decide +kernel
theorem dX1_routeOf_9 : decode cX1_routeOf 9 = .ok (.getfield 24, 3) := by decide +kernel
theorem dX1_routeOf_12 : decode cX1_routeOf 12 = .ok (.iload_n 1, 1) := by decide +kernel
theorem dX1_routeOf_13 : decode cX1_routeOf 13 = .ok (.aaload, 1) := by decide +kernel
theorem dX1_routeOf_14 : decode cX1_routeOf 14 = .ok (.goto 4, 3) := by decide +kernel
theorem dX1_routeOf_17 : decode cX1_routeOf 17 = .ok (.aconst_null, 1) := by decide +kernel
theorem dX1_routeOf_18 : decode cX1_routeOf 18 = .ok (.areturn, 1) := by decide +kernel
theorem dX1_isTouched_0 : decode cX1_isTouched 0 = .ok (.aload_n 0, 1) := by decide +kernel
theorem dX1_isTouched_1 : decode cX1_isTouched 1 = .ok (.getfield 24, 3) := by decide +kernel
theorem dX1_isTouched_4 : decode cX1_isTouched 4 = .ok (.iload_n 1, 1) := by decide +kernel
theorem dX1_isTouched_5 : decode cX1_isTouched 5 = .ok (.aaload, 1) := by decide +kernel
theorem dX1_isTouched_6 : decode cX1_isTouched 6 = .ok (.astore_n 2, 1) := by decide +kernel
theorem dX1_isTouched_7 : decode cX1_isTouched 7 = .ok (.aload_n 2, 1) := by decide +kernel
theorem dX1_isTouched_8 : decode cX1_isTouched 8 = .ok (.ifnonnull 5, 3) := by decide +kernel
theorem dX1_isTouched_11 : decode cX1_isTouched 11 = .ok (.iconst 1, 1) := by decide +kernel
theorem dX1_isTouched_12 : decode cX1_isTouched 12 = .ok (.ireturn, 1) := by decide +kernel
theorem dX1_isTouched_13 : decode cX1_isTouched 13 = .ok (.aload_n 2, 1) := by decide +kernel
theorem dX1_isTouched_14 : decode cX1_isTouched 14 = .ok (.invokevirtual 59, 3) := by decide +kernel
theorem dX1_isTouched_17 : decode cX1_isTouched 17 = .ok (.istore_n 3, 1) := by decide +kernel
theorem dX1_isTouched_18 : decode cX1_isTouched 18 = .ok (.aload_n 2, 1) := by decide +kernel
theorem dX1_isTouched_19 : decode cX1_isTouched 19 = .ok (.getfield 63, 3) := by decide +kernel
theorem dX1_isTouched_22 : decode cX1_isTouched 22 = .ok (.iconst 0, 1) := by decide +kernel
theorem dX1_isTouched_23 : decode cX1_isTouched 23 = .ok (.iaload, 1) := by decide +kernel
theorem dX1_isTouched_24 : decode cX1_isTouched 24 = .ok (.aload_n 0, 1) := by decide +kernel
theorem dX1_isTouched_25 : decode cX1_isTouched 25 = .ok (.iload_n 1, 1) := by decide +kernel
theorem dX1_isTouched_26 : decode cX1_isTouched 26 = .ok (.iconst 0, 1) := by decide +kernel
theorem dX1_isTouched_27 : decode cX1_isTouched 27 = .ok (.invokevirtual 66, 3) := by decide +kernel
theorem dX1_isTouched_30 : decode cX1_isTouched 30 = .ok (.if_icmp .ne 48, 3) := by decide +kernel
theorem dX1_isTouched_33 : decode cX1_isTouched 33 = .ok (.aload_n 2, 1) := by decide +kernel
theorem dX1_isTouched_34 : decode cX1_isTouched 34 = .ok (.getfield 69, 3) := by decide +kernel
theorem dX1_isTouched_37 : decode cX1_isTouched 37 = .ok (.iconst 0, 1) := by decide +kernel
theorem dX1_isTouched_38 : decode cX1_isTouched 38 = .ok (.iaload, 1) := by decide +kernel
theorem dX1_isTouched_39 : decode cX1_isTouched 39 = .ok (.aload_n 0, 1) := by decide +kernel
theorem dX1_isTouched_40 : decode cX1_isTouched 40 = .ok (.iload_n 1, 1) := by decide +kernel
theorem dX1_isTouched_41 : decode cX1_isTouched 41 = .ok (.iconst 0, 1) := by decide +kernel
theorem dX1_isTouched_42 : decode cX1_isTouched 42 = .ok (.invokevirtual 72, 3) := by decide +kernel
theorem dX1_isTouched_45 : decode cX1_isTouched 45 = .ok (.if_icmp .ne 33, 3) := by decide +kernel
theorem dX1_isTouched_48 : decode cX1_isTouched 48 = .ok (.aload_n 2, 1) := by decide +kernel
theorem dX1_isTouched_49 : decode cX1_isTouched 49 = .ok (.getfield 63, 3) := by decide +kernel
theorem dX1_isTouched_52 : decode cX1_isTouched 52 = .ok (.iload_n 3, 1) := by decide +kernel
theorem dX1_isTouched_53 : decode cX1_isTouched 53 = .ok (.iaload, 1) := by decide +kernel
theorem dX1_isTouched_54 : decode cX1_isTouched 54 = .ok (.aload_n 0, 1) := by decide +kernel
theorem dX1_isTouched_55 : decode cX1_isTouched 55 = .ok (.iload_n 1, 1) := by decide +kernel
theorem dX1_isTouched_56 : decode cX1_isTouched 56 = .ok (.iconst 1, 1) := by decide +kernel
theorem dX1_isTouched_57 : decode cX1_isTouched 57 = .ok (.invokevirtual 66, 3) := by decide +kernel
theorem dX1_isTouched_60 : decode cX1_isTouched 60 = .ok (.if_icmp .ne 18, 3) := by decide +kernel
theorem dX1_isTouched_63 : decode cX1_isTouched 63 = .ok (.aload_n 2, 1) := by decide +kernel
theorem dX1_isTouched_64 : decode cX1_isTouched 64 = .ok (.getfield 69, 3) := by decide +kernel
theorem dX1_isTouched_67 : decode cX1_isTouched 67 = .ok (.iload_n 3, 1) := by decide +kernel
theorem dX1_isTouched_68 : decode cX1_isTouched 68 = .ok (.iaload, 1) := by decide +kernel
theorem dX1_isTouched_69 : decode cX1_isTouched 69 = .ok (.aload_n 0, 1) := by decide +kernel
theorem dX1_isTouched_70 : decode cX1_isTouched 70 = .ok (.iload_n 1, 1) := by decide +kernel
theorem dX1_isTouched_71 : decode cX1_isTouched 71 = .ok (.iconst 1, 1) := by decide +kernel
theorem dX1_isTouched_72 : decode cX1_isTouched 72 = .ok (.invokevirtual 72, 3) := by decide +kernel
theorem dX1_isTouched_75 : decode cX1_isTouched 75 = .ok (.if_icmp .eq 5, 3) := by decide +kernel
theorem dX1_isTouched_78 : decode cX1_isTouched 78 = .ok (.iconst 1, 1) := by decide +kernel
theorem dX1_isTouched_79 : decode cX1_isTouched 79 = .ok (.ireturn, 1) := by decide +kernel
theorem dX1_isTouched_80 : decode cX1_isTouched 80 = .ok (.iconst 0, 1) := by decide +kernel
theorem dX1_isTouched_81 : decode cX1_isTouched 81 = .ok (.istore 4, 2) := by decide +kernel
theorem dX1_isTouched_83 : decode cX1_isTouched 83 = .ok (.iload 4, 2) := by decide +kernel
theorem dX1_isTouched_85 : decode cX1_isTouched 85 = .ok (.iload_n 3, 1) := by decide +kernel
theorem dX1_isTouched_86 : decode cX1_isTouched 86 = .ok (.if_icmp .ge 21, 3) := by decide +kernel
theorem dX1_isTouched_89 : decode cX1_isTouched 89 = .ok (.aload_n 0, 1) := by decide +kernel
theorem dX1_isTouched_90 : decode cX1_isTouched 90 = .ok (.aload_n 2, 1) := by decide +kernel
theorem dX1_isTouched_91 : decode cX1_isTouched 91 = .ok (.iload 4, 2) := by decide +kernel
theorem dX1_isTouched_93 : decode cX1_isTouched 93 = .ok (.invokevirtual 75, 3) := by decide +kernel
theorem dX1_isTouched_96 : decode cX1_isTouched 96 = .ok (.ifCond .eq 5, 3) := by decide +kernel
theorem dX1_isTouched_99 : decode cX1_isTouched 99 = .ok (.iconst 1, 1) := by decide +kernel
theorem dX1_isTouched_100 : decode cX1_isTouched 100 = .ok (.ireturn, 1) := by decide +kernel
theorem dX1_isTouched_101 : decode cX1_isTouched 101 = .ok (.iinc 4 1, 3) := by decide +kernel
theorem dX1_isTouched_104 : decode cX1_isTouched 104 = .ok (.goto (-21), 3) := by decide +kernel
theorem dX1_isTouched_107 : decode cX1_isTouched 107 = .ok (.iconst 0, 1) := by decide +kernel
theorem dX1_isTouched_108 : decode cX1_isTouched 108 = .ok (.ireturn, 1) := by decide +kernel
theorem dX1_isBlocked_0 : decode cX1_isBlocked 0 = .ok (.aload_n 1, 1) := by decide +kernel
theorem dX1_isBlocked_1 : decode cX1_isBlocked 1 = .ok (.iload_n 2, 1) := by decide +kernel
theorem dX1_isBlocked_2 : decode cX1_isBlocked 2 = .ok (.invokevirtual 79, 3) := by decide +kernel
theorem dX1_isBlocked_5 : decode cX1_isBlocked 5 = .ok (.istore_n 3, 1) := by decide +kernel
theorem dX1_isBlocked_6 : decode cX1_isBlocked 6 = .ok (.aload_n 1, 1) := by decide +kernel
theorem dX1_isBlocked_7 : decode cX1_isBlocked 7 = .ok (.iload_n 2, 1) := by decide +kernel
theorem dX1_isBlocked_8 : decode cX1_isBlocked 8 = .ok (.invokevirtual 83, 3) := by decide +kernel
theorem dX1_isBlocked_11 : decode cX1_isBlocked 11 = .ok (.istore 4, 2) := by decide +kernel
theorem dX1_isBlocked_13 : decode cX1_isBlocked 13 = .ok (.aload_n 1, 1) := by decide +kernel
theorem dX1_isBlocked_14 : decode cX1_isBlocked 14 = .ok (.iload_n 2, 1) := by decide +kernel
theorem dX1_isBlocked_15 : decode cX1_isBlocked 15 = .ok (.invokevirtual 86, 3) := by decide +kernel
theorem dX1_isBlocked_18 : decode cX1_isBlocked 18 = .ok (.istore 5, 2) := by decide +kernel
theorem dX1_isBlocked_20 : decode cX1_isBlocked 20 = .ok (.iload_n 2, 1) := by decide +kernel
theorem dX1_isBlocked_21 : decode cX1_isBlocked 21 = .ok (.ifCond .ne 7, 3) := by decide +kernel
theorem dX1_isBlocked_24 : decode cX1_isBlocked 24 = .ok (.iconst 1, 1) := by decide +kernel
theorem dX1_isBlocked_25 : decode cX1_isBlocked 25 = .ok (.goto 4, 3) := by decide +kernel
theorem dX1_isBlocked_28 : decode cX1_isBlocked 28 = .ok (.iconst 0, 1) := by decide +kernel
theorem dX1_isBlocked_29 : decode cX1_isBlocked 29 = .ok (.istore 6, 2) := by decide +kernel
theorem dX1_isBlocked_31 : decode cX1_isBlocked 31 = .ok (.iload_n 2, 1) := by decide +kernel
theorem dX1_isBlocked_32 : decode cX1_isBlocked 32 = .ok (.aload_n 1, 1) := by decide +kernel
theorem dX1_isBlocked_33 : decode cX1_isBlocked 33 = .ok (.invokevirtual 59, 3) := by decide +kernel
theorem dX1_isBlocked_36 : decode cX1_isBlocked 36 = .ok (.iconst 1, 1) := by decide +kernel
theorem dX1_isBlocked_37 : decode cX1_isBlocked 37 = .ok (.isub, 1) := by decide +kernel
theorem dX1_isBlocked_38 : decode cX1_isBlocked 38 = .ok (.if_icmp .ne 7, 3) := by decide +kernel
theorem dX1_isBlocked_41 : decode cX1_isBlocked 41 = .ok (.iconst 1, 1) := by decide +kernel
theorem dX1_isBlocked_42 : decode cX1_isBlocked 42 = .ok (.goto 4, 3) := by decide +kernel
theorem dX1_isBlocked_45 : decode cX1_isBlocked 45 = .ok (.iconst 0, 1) := by decide +kernel
theorem dX1_isBlocked_46 : decode cX1_isBlocked 46 = .ok (.istore 7, 2) := by decide +kernel
theorem dX1_isBlocked_48 : decode cX1_isBlocked 48 = .ok (.iload 5, 2) := by decide +kernel
theorem dX1_isBlocked_50 : decode cX1_isBlocked 50 = .ok (.ifCond .eq 11, 3) := by decide +kernel
theorem dX1_isBlocked_53 : decode cX1_isBlocked 53 = .ok (.iload 6, 2) := by decide +kernel
theorem dX1_isBlocked_55 : decode cX1_isBlocked 55 = .ok (.ifCond .eq 14, 3) := by decide +kernel
theorem dX1_isBlocked_58 : decode cX1_isBlocked 58 = .ok (.goto 8, 3) := by decide +kernel
theorem dX1_isBlocked_61 : decode cX1_isBlocked 61 = .ok (.iload 7, 2) := by decide +kernel
theorem dX1_isBlocked_63 : decode cX1_isBlocked 63 = .ok (.ifCond .eq 6, 3) := by decide +kernel
theorem dX1_isBlocked_66 : decode cX1_isBlocked 66 = .ok (.iinc 4 (-1), 3) := by decide +kernel
theorem dX1_isBlocked_69 : decode cX1_isBlocked 69 = .ok (.iload 5, 2) := by decide +kernel
theorem dX1_isBlocked_71 : decode cX1_isBlocked 71 = .ok (.ifCond .eq 11, 3) := by decide +kernel
theorem dX1_isBlocked_74 : decode cX1_isBlocked 74 = .ok (.iload 7, 2) := by decide +kernel
theorem dX1_isBlocked_76 : decode cX1_isBlocked 76 = .ok (.ifCond .eq 14, 3) := by decide +kernel
theorem dX1_isBlocked_79 : decode cX1_isBlocked 79 = .ok (.goto 8, 3) := by decide +kernel
theorem dX1_isBlocked_82 : decode cX1_isBlocked 82 = .ok (.iload 6, 2) := by decide +kernel
theorem dX1_isBlocked_84 : decode cX1_isBlocked 84 = .ok (.ifCond .eq 6, 3) := by decide +kernel
theorem dX1_isBlocked_87 : decode cX1_isBlocked 87 = .ok (.iinc 3 1, 3) := by decide +kernel
theorem dX1_isBlocked_90 : decode cX1_isBlocked 90 = .ok (.aload_n 1, 1) := by decide +kernel
theorem dX1_isBlocked_91 : decode cX1_isBlocked 91 = .ok (.iload_n 2, 1) := by decide +kernel
theorem dX1_isBlocked_92 : decode cX1_isBlocked 92 = .ok (.invokevirtual 89, 3) := by decide +kernel
theorem dX1_isBlocked_95 : decode cX1_isBlocked 95 = .ok (.istore 8, 2) := by decide +kernel
theorem dX1_isBlocked_97 : decode cX1_isBlocked 97 = .ok (.aload_n 1, 1) := by decide +kernel
theorem dX1_isBlocked_98 : decode cX1_isBlocked 98 = .ok (.iload_n 2, 1) := by decide +kernel
theorem dX1_isBlocked_99 : decode cX1_isBlocked 99 = .ok (.invokevirtual 92, 3) := by decide +kernel
theorem dX1_isBlocked_102 : decode cX1_isBlocked 102 = .ok (.ifCond .eq 17, 3) := by decide +kernel
theorem dX1_isBlocked_105 : decode cX1_isBlocked 105 = .ok (.aload_n 0, 1) := by decide +kernel
theorem dX1_isBlocked_106 : decode cX1_isBlocked 106 = .ok (.iload_n 3, 1) := by decide +kernel
theorem dX1_isBlocked_107 : decode cX1_isBlocked 107 = .ok (.iload 8, 2) := by decide +kernel
theorem dX1_isBlocked_109 : decode cX1_isBlocked 109 = .ok (.iload 4, 2) := by decide +kernel
theorem dX1_isBlocked_111 : decode cX1_isBlocked 111 = .ok (.iload 8, 2) := by decide +kernel
theorem dX1_isBlocked_113 : decode cX1_isBlocked 113 = .ok (.invokevirtual 95, 3) := by decide +kernel
theorem dX1_isBlocked_116 : decode cX1_isBlocked 116 = .ok (.goto 14, 3) := by decide +kernel
theorem dX1_isBlocked_119 : decode cX1_isBlocked 119 = .ok (.aload_n 0, 1) := by decide +kernel
theorem dX1_isBlocked_120 : decode cX1_isBlocked 120 = .ok (.iload 8, 2) := by decide +kernel
theorem dX1_isBlocked_122 : decode cX1_isBlocked 122 = .ok (.iload_n 3, 1) := by decide +kernel
theorem dX1_isBlocked_123 : decode cX1_isBlocked 123 = .ok (.iload 8, 2) := by decide +kernel
theorem dX1_isBlocked_125 : decode cX1_isBlocked 125 = .ok (.iload 4, 2) := by decide +kernel
theorem dX1_isBlocked_127 : decode cX1_isBlocked 127 = .ok (.invokevirtual 95, 3) := by decide +kernel
theorem dX1_isBlocked_130 : decode cX1_isBlocked 130 = .ok (.istore 9, 2) := by decide +kernel
theorem dX1_isBlocked_132 : decode cX1_isBlocked 132 = .ok (.iload 9, 2) := by decide +kernel
theorem dX1_isBlocked_134 : decode cX1_isBlocked 134 = .ok (.iconst (-1), 1) := by decide +kernel
theorem dX1_isBlocked_135 : decode cX1_isBlocked 135 = .ok (.if_icmp .eq 7, 3) := by decide +kernel
theorem dX1_isBlocked_138 : decode cX1_isBlocked 138 = .ok (.iconst 1, 1) := by decide +kernel
theorem dX1_isBlocked_139 : decode cX1_isBlocked 139 = .ok (.goto 4, 3) := by decide +kernel
theorem dX1_isBlocked_142 : decode cX1_isBlocked 142 = .ok (.iconst 0, 1) := by decide +kernel
theorem dX1_isBlocked_143 : decode cX1_isBlocked 143 = .ok (.ireturn, 1) := by decide +kernel
theorem dX1_touchedConnectors_0 : decode cX1_touchedConnectors 0 = .ok (.iconst 0, 1) := by decide +kernel
theorem dX1_touchedConnectors_1 : decode cX1_touchedConnectors 1 = .ok (.istore_n 1, 1) := by decide +kernel
theorem dX1_touchedConnectors_2 : decode cX1_touchedConnectors 2 = .ok (.iconst 0, 1) := by decide +kernel
theorem dX1_touchedConnectors_3 : decode cX1_touchedConnectors 3 = .ok (.istore_n 2, 1) := by decide +kernel
theorem dX1_touchedConnectors_4 : decode cX1_touchedConnectors 4 = .ok (.iload_n 2, 1) := by decide +kernel
theorem dX1_touchedConnectors_5 : decode cX1_touchedConnectors 5 = .ok (.aload_n 0, 1) := by decide +kernel
theorem dX1_touchedConnectors_6 : decode cX1_touchedConnectors 6 = .ok (.getfield 31, 3) := by decide +kernel
theorem dX1_touchedConnectors_9 : decode cX1_touchedConnectors 9 = .ok (.if_icmp .ge 20, 3) := by decide +kernel
theorem dX1_touchedConnectors_12 : decode cX1_touchedConnectors 12 = .ok (.aload_n 0, 1) := by decide +kernel
theorem dX1_touchedConnectors_13 : decode cX1_touchedConnectors 13 = .ok (.iload_n 2, 1) := by decide +kernel
theorem dX1_touchedConnectors_14 : decode cX1_touchedConnectors 14 = .ok (.invokevirtual 99, 3) := by decide +kernel
theorem dX1_touchedConnectors_17 : decode cX1_touchedConnectors 17 = .ok (.ifCond .eq 6, 3) := by decide +kernel
theorem dX1_touchedConnectors_20 : decode cX1_touchedConnectors 20 = .ok (.iinc 1 1, 3) := by decide +kernel
theorem dX1_touchedConnectors_23 : decode cX1_touchedConnectors 23 = .ok (.iinc 2 1, 3) := by decide +kernel
theorem dX1_touchedConnectors_26 : decode cX1_touchedConnectors 26 = .ok (.goto (-22), 3) := by decide +kernel
theorem dX1_touchedConnectors_29 : decode cX1_touchedConnectors 29 = .ok (.iload_n 1, 1) := by decide +kernel
theorem dX1_touchedConnectors_30 : decode cX1_touchedConnectors 30 = .ok (.ireturn, 1) := by decide +kernel
theorem dX1_connectorsWithoutRoute_0 : decode cX1_connectorsWithoutRoute 0 = .ok (.iconst 0, 1) := by decide +kernel
theorem dX1_connectorsWithoutRoute_1 : decode cX1_connectorsWithoutRoute 1 = .ok (.istore_n 1, 1) := by decide +kernel
theorem dX1_connectorsWithoutRoute_2 : decode cX1_connectorsWithoutRoute 2 = .ok (.iconst 0, 1) := by decide +kernel
theorem dX1_connectorsWithoutRoute_3 : decode cX1_connectorsWithoutRoute 3 = .ok (.istore_n 2, 1) := by decide +kernel
theorem dX1_connectorsWithoutRoute_4 : decode cX1_connectorsWithoutRoute 4 = .ok (.iload_n 2, 1) := by decide +kernel
theorem dX1_connectorsWithoutRoute_5 : decode cX1_connectorsWithoutRoute 5 = .ok (.aload_n 0, 1) := by decide +kernel
theorem dX1_connectorsWithoutRoute_6 : decode cX1_connectorsWithoutRoute 6 = .ok (.getfield 31, 3) := by decide +kernel
theorem dX1_connectorsWithoutRoute_9 : decode cX1_connectorsWithoutRoute 9 = .ok (.if_icmp .ge 21, 3) := by decide +kernel
theorem dX1_connectorsWithoutRoute_12 : decode cX1_connectorsWithoutRoute 12 = .ok (.aload_n 0, 1) := by decide +kernel
theorem dX1_connectorsWithoutRoute_13 : decode cX1_connectorsWithoutRoute 13 = .ok (.getfield 24, 3) := by decide +kernel
theorem dX1_connectorsWithoutRoute_16 : decode cX1_connectorsWithoutRoute 16 = .ok (.iload_n 2, 1) := by decide +kernel
theorem dX1_connectorsWithoutRoute_17 : decode cX1_connectorsWithoutRoute 17 = .ok (.aaload, 1) := by decide +kernel
theorem dX1_connectorsWithoutRoute_18 : decode cX1_connectorsWithoutRoute 18 = .ok (.ifnonnull 6, 3) := by decide +kernel
theorem dX1_connectorsWithoutRoute_21 : decode cX1_connectorsWithoutRoute 21 = .ok (.iinc 1 1, 3) := by decide +kernel
theorem dX1_connectorsWithoutRoute_24 : decode cX1_connectorsWithoutRoute 24 = .ok (.iinc 2 1, 3) := by decide +kernel
theorem dX1_connectorsWithoutRoute_27 : decode cX1_connectorsWithoutRoute 27 = .ok (.goto (-23), 3) := by decide +kernel
theorem dX1_connectorsWithoutRoute_30 : decode cX1_connectorsWithoutRoute 30 = .ok (.iload_n 1, 1) := by decide +kernel
theorem dX1_connectorsWithoutRoute_31 : decode cX1_connectorsWithoutRoute 31 = .ok (.ireturn, 1) := by decide +kernel
theorem dX1_costOfRoutes_0 : decode cX1_costOfRoutes 0 = .ok (.iconst 0, 1) := by decide +kernel
theorem dX1_costOfRoutes_1 : decode cX1_costOfRoutes 1 = .ok (.istore_n 1, 1) := by decide +kernel
theorem dX1_costOfRoutes_2 : decode cX1_costOfRoutes 2 = .ok (.iconst 0, 1) := by decide +kernel
theorem dX1_costOfRoutes_3 : decode cX1_costOfRoutes 3 = .ok (.istore_n 2, 1) := by decide +kernel
theorem dX1_costOfRoutes_4 : decode cX1_costOfRoutes 4 = .ok (.iload_n 2, 1) := by decide +kernel
theorem dX1_costOfRoutes_5 : decode cX1_costOfRoutes 5 = .ok (.aload_n 0, 1) := by decide +kernel
theorem dX1_costOfRoutes_6 : decode cX1_costOfRoutes 6 = .ok (.getfield 31, 3) := by decide +kernel
theorem dX1_costOfRoutes_9 : decode cX1_costOfRoutes 9 = .ok (.if_icmp .ge 31, 3) := by decide +kernel
theorem dX1_costOfRoutes_12 : decode cX1_costOfRoutes 12 = .ok (.aload_n 0, 1) := by decide +kernel
theorem dX1_costOfRoutes_13 : decode cX1_costOfRoutes 13 = .ok (.getfield 24, 3) := by decide +kernel
theorem dX1_costOfRoutes_16 : decode cX1_costOfRoutes 16 = .ok (.iload_n 2, 1) := by decide +kernel
theorem dX1_costOfRoutes_17 : decode cX1_costOfRoutes 17 = .ok (.aaload, 1) := by decide +kernel
theorem dX1_costOfRoutes_18 : decode cX1_costOfRoutes 18 = .ok (.astore_n 3, 1) := by decide +kernel
theorem dX1_costOfRoutes_19 : decode cX1_costOfRoutes 19 = .ok (.iload_n 1, 1) := by decide +kernel
theorem dX1_costOfRoutes_20 : decode cX1_costOfRoutes 20 = .ok (.aload_n 3, 1) := by decide +kernel
theorem dX1_costOfRoutes_21 : decode cX1_costOfRoutes 21 = .ok (.ifnonnull 7, 3) := by decide +kernel
theorem dX1_costOfRoutes_24 : decode cX1_costOfRoutes 24 = .ok (.iconst 0, 1) := by decide +kernel
theorem dX1_costOfRoutes_25 : decode cX1_costOfRoutes 25 = .ok (.goto 7, 3) := by decide +kernel
theorem dX1_costOfRoutes_28 : decode cX1_costOfRoutes 28 = .ok (.aload_n 3, 1) := by decide +kernel
theorem dX1_costOfRoutes_29 : decode cX1_costOfRoutes 29 = .ok (.getfield 102, 3) := by decide +kernel
theorem dX1_costOfRoutes_32 : decode cX1_costOfRoutes 32 = .ok (.iadd, 1) := by decide +kernel
theorem dX1_costOfRoutes_33 : decode cX1_costOfRoutes 33 = .ok (.istore_n 1, 1) := by decide +kernel
theorem dX1_costOfRoutes_34 : decode cX1_costOfRoutes 34 = .ok (.iinc 2 1, 3) := by decide +kernel
theorem dX1_costOfRoutes_37 : decode cX1_costOfRoutes 37 = .ok (.goto (-33), 3) := by decide +kernel
theorem dX1_costOfRoutes_40 : decode cX1_costOfRoutes 40 = .ok (.iload_n 1, 1) := by decide +kernel
theorem dX1_costOfRoutes_41 : decode cX1_costOfRoutes 41 = .ok (.ireturn, 1) := by decide +kernel
theorem dX1_crossingsOf_0 : decode cX1_crossingsOf 0 = .ok (.aload_n 0, 1) := by decide +kernel
theorem dX1_crossingsOf_1 : decode cX1_crossingsOf 1 = .ok (.getfield 24, 3) := by decide +kernel
theorem dX1_crossingsOf_4 : decode cX1_crossingsOf 4 = .ok (.iload_n 1, 1) := by decide +kernel
theorem dX1_crossingsOf_5 : decode cX1_crossingsOf 5 = .ok (.aaload, 1) := by decide +kernel
theorem dX1_crossingsOf_6 : decode cX1_crossingsOf 6 = .ok (.astore_n 3, 1) := by decide +kernel
theorem dX1_crossingsOf_7 : decode cX1_crossingsOf 7 = .ok (.aload_n 0, 1) := by decide +kernel
theorem dX1_crossingsOf_8 : decode cX1_crossingsOf 8 = .ok (.getfield 24, 3) := by decide +kernel
theorem dX1_crossingsOf_11 : decode cX1_crossingsOf 11 = .ok (.iload_n 2, 1) := by decide +kernel
theorem dX1_crossingsOf_12 : decode cX1_crossingsOf 12 = .ok (.aaload, 1) := by decide +kernel
theorem dX1_crossingsOf_13 : decode cX1_crossingsOf 13 = .ok (.astore 4, 2) := by decide +kernel
theorem dX1_crossingsOf_15 : decode cX1_crossingsOf 15 = .ok (.aload_n 3, 1) := by decide +kernel
theorem dX1_crossingsOf_16 : decode cX1_crossingsOf 16 = .ok (.ifnull 8, 3) := by decide +kernel
theorem dX1_crossingsOf_19 : decode cX1_crossingsOf 19 = .ok (.aload 4, 2) := by decide +kernel
theorem dX1_crossingsOf_21 : decode cX1_crossingsOf 21 = .ok (.ifnonnull 7, 3) := by decide +kernel
theorem dX1_crossingsOf_24 : decode cX1_crossingsOf 24 = .ok (.iconst 0, 1) := by decide +kernel
theorem dX1_crossingsOf_25 : decode cX1_crossingsOf 25 = .ok (.goto 9, 3) := by decide +kernel
theorem dX1_crossingsOf_28 : decode cX1_crossingsOf 28 = .ok (.aload_n 3, 1) := by decide +kernel
theorem dX1_crossingsOf_29 : decode cX1_crossingsOf 29 = .ok (.aload 4, 2) := by decide +kernel
theorem dX1_crossingsOf_31 : decode cX1_crossingsOf 31 = .ok (.invokevirtual 105, 3) := by decide +kernel
theorem dX1_crossingsOf_34 : decode cX1_crossingsOf 34 = .ok (.ireturn, 1) := by decide +kernel
theorem dX1_crossingsOfPairs_0 : decode cX1_crossingsOfPairs 0 = .ok (.iconst 0, 1) := by decide +kernel
theorem dX1_crossingsOfPairs_1 : decode cX1_crossingsOfPairs 1 = .ok (.istore_n 1, 1) := by decide +kernel
theorem dX1_crossingsOfPairs_2 : decode cX1_crossingsOfPairs 2 = .ok (.iconst 0, 1) := by decide +kernel
theorem dX1_crossingsOfPairs_3 : decode cX1_crossingsOfPairs 3 = .ok (.istore_n 2, 1) := by decide +kernel
theorem dX1_crossingsOfPairs_4 : decode cX1_crossingsOfPairs 4 = .ok (.iload_n 2, 1) := by decide +kernel
theorem dX1_crossingsOfPairs_5 : decode cX1_crossingsOfPairs 5 = .ok (.aload_n 0, 1) := by decide +kernel
theorem dX1_crossingsOfPairs_6 : decode cX1_crossingsOfPairs 6 = .ok (.getfield 31, 3) := by decide +kernel
theorem dX1_crossingsOfPairs_9 : decode cX1_crossingsOfPairs 9 = .ok (.if_icmp .ge 36, 3) := by decide +kernel
theorem dX1_crossingsOfPairs_12 : decode cX1_crossingsOfPairs 12 = .ok (.iload_n 2, 1) := by decide +kernel
theorem dX1_crossingsOfPairs_13 : decode cX1_crossingsOfPairs 13 = .ok (.iconst 1, 1) := by decide +kernel
theorem dX1_crossingsOfPairs_14 : decode cX1_crossingsOfPairs 14 = .ok (.iadd, 1) := by decide +kernel
theorem dX1_crossingsOfPairs_15 : decode cX1_crossingsOfPairs 15 = .ok (.istore_n 3, 1) := by decide +kernel
theorem dX1_crossingsOfPairs_16 : decode cX1_crossingsOfPairs 16 = .ok (.iload_n 3, 1) := by decide +kernel
theorem dX1_crossingsOfPairs_17 : decode cX1_crossingsOfPairs 17 = .ok (.aload_n 0, 1) := by decide +kernel
theorem dX1_crossingsOfPairs_18 : decode cX1_crossingsOfPairs 18 = .ok (.getfield 31, 3) := by decide +kernel
theorem dX1_crossingsOfPairs_21 : decode cX1_crossingsOfPairs 21 = .ok (.if_icmp .ge 18, 3) := by decide +kernel
theorem dX1_crossingsOfPairs_24 : decode cX1_crossingsOfPairs 24 = .ok (.iload_n 1, 1) := by decide +kernel
theorem dX1_crossingsOfPairs_25 : decode cX1_crossingsOfPairs 25 = .ok (.aload_n 0, 1) := by decide +kernel
theorem dX1_crossingsOfPairs_26 : decode cX1_crossingsOfPairs 26 = .ok (.iload_n 2, 1) := by decide +kernel
theorem dX1_crossingsOfPairs_27 : decode cX1_crossingsOfPairs 27 = .ok (.iload_n 3, 1) := by decide +kernel
theorem dX1_crossingsOfPairs_28 : decode cX1_crossingsOfPairs 28 = .ok (.invokevirtual 109, 3) := by decide +kernel
theorem dX1_crossingsOfPairs_31 : decode cX1_crossingsOfPairs 31 = .ok (.iadd, 1) := by decide +kernel
theorem dX1_crossingsOfPairs_32 : decode cX1_crossingsOfPairs 32 = .ok (.istore_n 1, 1) := by decide +kernel
theorem dX1_crossingsOfPairs_33 : decode cX1_crossingsOfPairs 33 = .ok (.iinc 3 1, 3) := by decide +kernel
theorem dX1_crossingsOfPairs_36 : decode cX1_crossingsOfPairs 36 = .ok (.goto (-20), 3) := by decide +kernel
theorem dX1_crossingsOfPairs_39 : decode cX1_crossingsOfPairs 39 = .ok (.iinc 2 1, 3) := by decide +kernel
theorem dX1_crossingsOfPairs_42 : decode cX1_crossingsOfPairs 42 = .ok (.goto (-38), 3) := by decide +kernel
theorem dX1_crossingsOfPairs_45 : decode cX1_crossingsOfPairs 45 = .ok (.iload_n 1, 1) := by decide +kernel
theorem dX1_crossingsOfPairs_46 : decode cX1_crossingsOfPairs 46 = .ok (.ireturn, 1) := by decide +kernel
theorem dX2_init_0 : decode cX2_init 0 = .ok (.aload_n 0, 1) := by decide +kernel
theorem dX2_init_1 : decode cX2_init 1 = .ok (.invokespecial 3, 3) := by decide +kernel
theorem dX2_init_4 : decode cX2_init 4 = .ok (.aload_n 0, 1) := by decide +kernel
theorem dX2_init_5 : decode cX2_init 5 = .ok (.bipush 120, 2) := by decide +kernel
theorem dX2_init_7 : decode cX2_init 7 = .ok (.newarray .int, 2) := by decide +kernel
theorem dX2_init_9 : decode cX2_init 9 = .ok (.putfield 11, 3) := by decide +kernel
theorem dX2_init_12 : decode cX2_init 12 = .ok (.aload_n 0, 1) := by decide +kernel
theorem dX2_init_13 : decode cX2_init 13 = .ok (.bipush 6, 2) := by decide +kernel
theorem dX2_init_15 : decode cX2_init 15 = .ok (.newarray .int, 2) := by decide +kernel
theorem dX2_init_17 : decode cX2_init 17 = .ok (.putfield 15, 3) := by decide +kernel
theorem dX2_init_20 : decode cX2_init 20 = .ok (.return_, 1) := by decide +kernel
theorem dX2_append_0 : decode cX2_append 0 = .ok (.aload_n 0, 1) := by decide +kernel
theorem dX2_append_1 : decode cX2_append 1 = .ok (.getfield 18, 3) := by decide +kernel
theorem dX2_append_4 : decode cX2_append 4 = .ok (.bipush 120, 2) := by decide +kernel
theorem dX2_append_6 : decode cX2_append 6 = .ok (.if_icmp .ge 23, 3) := by decide +kernel
theorem dX2_append_9 : decode cX2_append 9 = .ok (.aload_n 0, 1) := by decide +kernel
theorem dX2_append_10 : decode cX2_append 10 = .ok (.getfield 11, 3) := by decide +kernel
theorem dX2_append_13 : decode cX2_append 13 = .ok (.aload_n 0, 1) := by decide +kernel
theorem dX2_append_14 : decode cX2_append 14 = .ok (.getfield 18, 3) := by decide +kernel
theorem dX2_append_17 : decode cX2_append 17 = .ok (.iload_n 1, 1) := by decide +kernel
theorem dX2_append_18 : decode cX2_append 18 = .ok (.iastore, 1) := by decide +kernel
theorem dX2_append_19 : decode cX2_append 19 = .ok (.aload_n 0, 1) := by decide +kernel
theorem dX2_append_20 : decode cX2_append 20 = .ok (.dup, 1) := by decide +kernel
theorem dX2_append_21 : decode cX2_append 21 = .ok (.getfield 18, 3) := by decide +kernel
theorem dX2_append_24 : decode cX2_append 24 = .ok (.iconst 1, 1) := by decide +kernel
theorem dX2_append_25 : decode cX2_append 25 = .ok (.iadd, 1) := by decide +kernel
theorem dX2_append_26 : decode cX2_append 26 = .ok (.putfield 18, 3) := by decide +kernel
theorem dX2_append_29 : decode cX2_append 29 = .ok (.return_, 1) := by decide +kernel
theorem dX2_findFault_0 : decode cX2_findFault 0 = .ok (.aload_n 0, 1) := by decide +kernel
theorem dX2_findFault_1 : decode cX2_findFault 1 = .ok (.invokevirtual 22, 3) := by decide +kernel
theorem dX2_findFault_4 : decode cX2_findFault 4 = .ok (.iconst 1, 1) := by decide +kernel
theorem dX2_findFault_5 : decode cX2_findFault 5 = .ok (.istore_n 1, 1) := by decide +kernel
theorem dX2_findFault_6 : decode cX2_findFault 6 = .ok (.iconst 0, 1) := by decide +kernel
theorem dX2_findFault_7 : decode cX2_findFault 7 = .ok (.istore_n 2, 1) := by decide +kernel
theorem dX2_findFault_8 : decode cX2_findFault 8 = .ok (.iload_n 2, 1) := by decide +kernel
theorem dX2_findFault_9 : decode cX2_findFault 9 = .ok (.bipush 120, 2) := by decide +kernel
theorem dX2_findFault_11 : decode cX2_findFault 11 = .ok (.if_icmp .ge 18, 3) := by decide +kernel
theorem dX2_findFault_14 : decode cX2_findFault 14 = .ok (.iload_n 1, 1) := by decide +kernel
theorem dX2_findFault_15 : decode cX2_findFault 15 = .ok (.ifCond .eq 14, 3) := by decide +kernel
theorem dX2_findFault_18 : decode cX2_findFault 18 = .ok (.aload_n 0, 1) := by decide +kernel
theorem dX2_findFault_19 : decode cX2_findFault 19 = .ok (.invokevirtual 25, 3) := by decide +kernel
theorem dX2_findFault_22 : decode cX2_findFault 22 = .ok (.istore_n 1, 1) := by decide +kernel
theorem dX2_findFault_23 : decode cX2_findFault 23 = .ok (.iinc 2 1, 3) := by decide +kernel
theorem dX2_findFault_26 : decode cX2_findFault 26 = .ok (.goto (-18), 3) := by decide +kernel
theorem dX2_findFault_29 : decode cX2_findFault 29 = .ok (.aload_n 0, 1) := by decide +kernel
theorem dX2_findFault_30 : decode cX2_findFault 30 = .ok (.getfield 29, 3) := by decide +kernel
theorem dX2_findFault_33 : decode cX2_findFault 33 = .ok (.ireturn, 1) := by decide +kernel
theorem dX2_rewind_0 : decode cX2_rewind 0 = .ok (.aload_n 0, 1) := by decide +kernel
theorem dX2_rewind_1 : decode cX2_rewind 1 = .ok (.iconst 0, 1) := by decide +kernel
theorem dX2_rewind_2 : decode cX2_rewind 2 = .ok (.putfield 32, 3) := by decide +kernel
theorem dX2_rewind_5 : decode cX2_rewind 5 = .ok (.aload_n 0, 1) := by decide +kernel
theorem dX2_rewind_6 : decode cX2_rewind 6 = .ok (.iconst 0, 1) := by decide +kernel
theorem dX2_rewind_7 : decode cX2_rewind 7 = .ok (.putfield 35, 3) := by decide +kernel
theorem dX2_rewind_10 : decode cX2_rewind 10 = .ok (.aload_n 0, 1) := by decide +kernel
theorem dX2_rewind_11 : decode cX2_rewind 11 = .ok (.sipush (-1000), 3) := by decide +kernel
theorem dX2_rewind_14 : decode cX2_rewind 14 = .ok (.putfield 29, 3) := by decide +kernel
theorem dX2_rewind_17 : decode cX2_rewind 17 = .ok (.return_, 1) := by decide +kernel
theorem dX2_readCommand_0 : decode cX2_readCommand 0 = .ok (.aload_n 0, 1) := by decide +kernel
theorem dX2_readCommand_1 : decode cX2_readCommand 1 = .ok (.getfield 35, 3) := by decide +kernel
theorem dX2_readCommand_4 : decode cX2_readCommand 4 = .ok (.ifCond .eq 5, 3) := by decide +kernel
theorem dX2_readCommand_7 : decode cX2_readCommand 7 = .ok (.iconst 0, 1) := by decide +kernel
theorem dX2_readCommand_8 : decode cX2_readCommand 8 = .ok (.ireturn, 1) := by decide +kernel
theorem dX2_readCommand_9 : decode cX2_readCommand 9 = .ok (.aload_n 0, 1) := by decide +kernel
theorem dX2_readCommand_10 : decode cX2_readCommand 10 = .ok (.aload_n 0, 1) := by decide +kernel
theorem dX2_readCommand_11 : decode cX2_readCommand 11 = .ok (.invokevirtual 39, 3) := by decide +kernel
theorem dX2_readCommand_14 : decode cX2_readCommand 14 = .ok (.putfield 43, 3) := by decide +kernel
theorem dX2_readCommand_17 : decode cX2_readCommand 17 = .ok (.aload_n 0, 1) := by decide +kernel
theorem dX2_readCommand_18 : decode cX2_readCommand 18 = .ok (.getfield 43, 3) := by decide +kernel
theorem dX2_readCommand_21 : decode cX2_readCommand 21 = .ok (.iconst (-1), 1) := by decide +kernel
theorem dX2_readCommand_22 : decode cX2_readCommand 22 = .ok (.if_icmp .ne 5, 3) := by decide +kernel
theorem dX2_readCommand_25 : decode cX2_readCommand 25 = .ok (.iconst 0, 1) := by decide +kernel
theorem dX2_readCommand_26 : decode cX2_readCommand 26 = .ok (.ireturn, 1) := by decide +kernel
theorem dX2_readCommand_27 : decode cX2_readCommand 27 = .ok (.iconst 0, 1) := by decide +kernel
theorem dX2_readCommand_28 : decode cX2_readCommand 28 = .ok (.istore_n 1, 1) := by decide +kernel
theorem dX2_readCommand_29 : decode cX2_readCommand 29 = .ok (.iload_n 1, 1) := by decide +kernel
theorem dX2_readCommand_30 : decode cX2_readCommand 30 = .ok (.getstatic 46, 3) := by decide +kernel
theorem dX2_readCommand_33 : decode cX2_readCommand 33 = .ok (.aload_n 0, 1) := by decide +kernel
theorem dX2_readCommand_34 : decode cX2_readCommand 34 = .ok (.getfield 43, 3) := by decide +kernel
theorem dX2_readCommand_37 : decode cX2_readCommand 37 = .ok (.iaload, 1) := by decide +kernel
theorem dX2_readCommand_38 : decode cX2_readCommand 38 = .ok (.if_icmp .ge 31, 3) := by decide +kernel
theorem dX2_readCommand_41 : decode cX2_readCommand 41 = .ok (.aload_n 0, 1) := by decide +kernel
theorem dX2_readCommand_42 : decode cX2_readCommand 42 = .ok (.getfield 15, 3) := by decide +kernel
theorem dX2_readCommand_45 : decode cX2_readCommand 45 = .ok (.iload_n 1, 1) := by decide +kernel
theorem dX2_readCommand_46 : decode cX2_readCommand 46 = .ok (.aload_n 0, 1) := by decide +kernel
theorem dX2_readCommand_47 : decode cX2_readCommand 47 = .ok (.invokevirtual 49, 3) := by decide +kernel
theorem dX2_readCommand_50 : decode cX2_readCommand 50 = .ok (.iastore, 1) := by decide +kernel
theorem dX2_readCommand_51 : decode cX2_readCommand 51 = .ok (.aload_n 0, 1) := by decide +kernel
theorem dX2_readCommand_52 : decode cX2_readCommand 52 = .ok (.getfield 15, 3) := by decide +kernel
theorem dX2_readCommand_55 : decode cX2_readCommand 55 = .ok (.iload_n 1, 1) := by decide +kernel
theorem dX2_readCommand_56 : decode cX2_readCommand 56 = .ok (.iaload, 1) := by decide +kernel
theorem dX2_readCommand_57 : decode cX2_readCommand 57 = .ok (.iconst (-1), 1) := by decide +kernel
theorem dX2_readCommand_58 : decode cX2_readCommand 58 = .ok (.if_icmp .ne 5, 3) := by decide +kernel
theorem dX2_readCommand_61 : decode cX2_readCommand 61 = .ok (.iconst 0, 1) := by decide +kernel
theorem dX2_readCommand_62 : decode cX2_readCommand 62 = .ok (.ireturn, 1) := by decide +kernel
theorem dX2_readCommand_63 : decode cX2_readCommand 63 = .ok (.iinc 1 1, 3) := by decide +kernel
theorem dX2_readCommand_66 : decode cX2_readCommand 66 = .ok (.goto (-37), 3) := by decide +kernel
theorem dX2_readCommand_69 : decode cX2_readCommand 69 = .ok (.aload_n 0, 1) := by decide +kernel
theorem dX2_readCommand_70 : decode cX2_readCommand 70 = .ok (.invokevirtual 52, 3) := by decide +kernel
theorem dX2_readCommand_73 : decode cX2_readCommand 73 = .ok (.ireturn, 1) := by decide +kernel
theorem dX2_skipBlanks_0 : decode cX2_skipBlanks 0 = .ok (.aload_n 0, 1) := by decide +kernel
theorem dX2_skipBlanks_1 : decode cX2_skipBlanks 1 = .ok (.getfield 32, 3) := by decide +kernel
theorem dX2_skipBlanks_4 : decode cX2_skipBlanks 4 = .ok (.aload_n 0, 1) := by decide +kernel
theorem dX2_skipBlanks_5 : decode cX2_skipBlanks 5 = .ok (.getfield 18, 3) := by decide +kernel
theorem dX2_skipBlanks_8 : decode cX2_skipBlanks 8 = .ok (.if_icmp .ge 30, 3) := by decide +kernel
theorem dX2_skipBlanks_11 : decode cX2_skipBlanks 11 = .ok (.aload_n 0, 1) := by decide +kernel
theorem dX2_skipBlanks_12 : decode cX2_skipBlanks 12 = .ok (.getfield 11, 3) := by decide +kernel
theorem dX2_skipBlanks_15 : decode cX2_skipBlanks 15 = .ok (.aload_n 0, 1) := by decide +kernel
theorem dX2_skipBlanks_16 : decode cX2_skipBlanks 16 = .ok (.getfield 32, 3) := by decide +kernel
theorem dX2_skipBlanks_19 : decode cX2_skipBlanks 19 = .ok (.iaload, 1) := by decide +kernel
theorem dX2_skipBlanks_20 : decode cX2_skipBlanks 20 = .ok (.bipush 32, 2) := by decide +kernel
theorem dX2_skipBlanks_22 : decode cX2_skipBlanks 22 = .ok (.if_icmp .ne 16, 3) := by decide +kernel
theorem dX2_skipBlanks_25 : decode cX2_skipBlanks 25 = .ok (.aload_n 0, 1) := by decide +kernel
theorem dX2_skipBlanks_26 : decode cX2_skipBlanks 26 = .ok (.dup, 1) := by decide +kernel
theorem dX2_skipBlanks_27 : decode cX2_skipBlanks 27 = .ok (.getfield 32, 3) := by decide +kernel
theorem dX2_skipBlanks_30 : decode cX2_skipBlanks 30 = .ok (.iconst 1, 1) := by decide +kernel
theorem dX2_skipBlanks_31 : decode cX2_skipBlanks 31 = .ok (.iadd, 1) := by decide +kernel
theorem dX2_skipBlanks_32 : decode cX2_skipBlanks 32 = .ok (.putfield 32, 3) := by decide +kernel
theorem dX2_skipBlanks_35 : decode cX2_skipBlanks 35 = .ok (.goto (-35), 3) := by decide +kernel
theorem dX2_skipBlanks_38 : decode cX2_skipBlanks 38 = .ok (.return_, 1) := by decide +kernel
theorem dX2_readWord_0 : decode cX2_readWord 0 = .ok (.aload_n 0, 1) := by decide +kernel
theorem dX2_readWord_1 : decode cX2_readWord 1 = .ok (.invokevirtual 55, 3) := by decide +kernel
theorem dX2_readWord_4 : decode cX2_readWord 4 = .ok (.aload_n 0, 1) := by decide +kernel
theorem dX2_readWord_5 : decode cX2_readWord 5 = .ok (.getfield 32, 3) := by decide +kernel
theorem dX2_readWord_8 : decode cX2_readWord 8 = .ok (.istore_n 1, 1) := by decide +kernel
theorem dX2_readWord_9 : decode cX2_readWord 9 = .ok (.aload_n 0, 1) := by decide +kernel
theorem dX2_readWord_10 : decode cX2_readWord 10 = .ok (.getfield 32, 3) := by decide +kernel
theorem dX2_readWord_13 : decode cX2_readWord 13 = .ok (.aload_n 0, 1) := by decide +kernel
theorem dX2_readWord_14 : decode cX2_readWord 14 = .ok (.getfield 18, 3) := by decide +kernel
theorem dX2_readWord_17 : decode cX2_readWord 17 = .ok (.if_icmp .ge 44, 3) := by decide +kernel
theorem dX2_readWord_20 : decode cX2_readWord 20 = .ok (.aload_n 0, 1) := by decide +kernel
theorem dX2_readWord_21 : decode cX2_readWord 21 = .ok (.getfield 11, 3) := by decide +kernel
theorem dX2_readWord_24 : decode cX2_readWord 24 = .ok (.aload_n 0, 1) := by decide +kernel
theorem dX2_readWord_25 : decode cX2_readWord 25 = .ok (.getfield 32, 3) := by decide +kernel
theorem dX2_readWord_28 : decode cX2_readWord 28 = .ok (.iaload, 1) := by decide +kernel
theorem dX2_readWord_29 : decode cX2_readWord 29 = .ok (.bipush 97, 2) := by decide +kernel
theorem dX2_readWord_31 : decode cX2_readWord 31 = .ok (.if_icmp .lt 30, 3) := by decide +kernel
theorem dX2_readWord_34 : decode cX2_readWord 34 = .ok (.aload_n 0, 1) := by decide +kernel
theorem dX2_readWord_35 : decode cX2_readWord 35 = .ok (.getfield 11, 3) := by decide +kernel
theorem dX2_readWord_38 : decode cX2_readWord 38 = .ok (.aload_n 0, 1) := by decide +kernel
theorem dX2_readWord_39 : decode cX2_readWord 39 = .ok (.getfield 32, 3) := by decide +kernel
theorem dX2_readWord_42 : decode cX2_readWord 42 = .ok (.iaload, 1) := by decide +kernel
theorem dX2_readWord_43 : decode cX2_readWord 43 = .ok (.bipush 122, 2) := by decide +kernel
theorem dX2_readWord_45 : decode cX2_readWord 45 = .ok (.if_icmp .gt 16, 3) := by decide +kernel
theorem dX2_readWord_48 : decode cX2_readWord 48 = .ok (.aload_n 0, 1) := by decide +kernel
theorem dX2_readWord_49 : decode cX2_readWord 49 = .ok (.dup, 1) := by decide +kernel
theorem dX2_readWord_50 : decode cX2_readWord 50 = .ok (.getfield 32, 3) := by decide +kernel
theorem dX2_readWord_53 : decode cX2_readWord 53 = .ok (.iconst 1, 1) := by decide +kernel
theorem dX2_readWord_54 : decode cX2_readWord 54 = .ok (.iadd, 1) := by decide +kernel
theorem dX2_readWord_55 : decode cX2_readWord 55 = .ok (.putfield 32, 3) := by decide +kernel
theorem dX2_readWord_58 : decode cX2_readWord 58 = .ok (.goto (-49), 3) := by decide +kernel
theorem dX2_readWord_61 : decode cX2_readWord 61 = .ok (.aload_n 0, 1) := by decide +kernel
theorem dX2_readWord_62 : decode cX2_readWord 62 = .ok (.iload_n 1, 1) := by decide +kernel
theorem dX2_readWord_63 : decode cX2_readWord 63 = .ok (.invokevirtual 58, 3) := by decide +kernel
theorem dX2_readWord_66 : decode cX2_readWord 66 = .ok (.istore_n 2, 1) := by decide +kernel
theorem dX2_readWord_67 : decode cX2_readWord 67 = .ok (.iload_n 2, 1) := by decide +kernel
theorem dX2_readWord_68 : decode cX2_readWord 68 = .ok (.iconst (-1), 1) := by decide +kernel
theorem dX2_readWord_69 : decode cX2_readWord 69 = .ok (.if_icmp .ne 8, 3) := by decide +kernel
theorem dX2_readWord_72 : decode cX2_readWord 72 = .ok (.aload_n 0, 1) := by decide +kernel
theorem dX2_readWord_73 : decode cX2_readWord 73 = .ok (.iload_n 1, 1) := by decide +kernel
theorem dX2_readWord_74 : decode cX2_readWord 74 = .ok (.putfield 29, 3) := by decide +kernel
theorem dX2_readWord_77 : decode cX2_readWord 77 = .ok (.iload_n 2, 1) := by decide +kernel
theorem dX2_readWord_78 : decode cX2_readWord 78 = .ok (.ireturn, 1) := by decide +kernel
theorem dX2_wordFrom_0 : decode cX2_wordFrom 0 = .ok (.aload_n 0, 1) := by decide +kernel
theorem dX2_wordFrom_1 : decode cX2_wordFrom 1 = .ok (.ldc 62, 2) := by decide +kernel
theorem dX2_wordFrom_3 : decode cX2_wordFrom 3 = .ok (.iload_n 1, 1) := by decide +kernel
theorem dX2_wordFrom_4 : decode cX2_wordFrom 4 = .ok (.invokevirtual 64, 3) := by decide +kernel
theorem dX2_wordFrom_7 : decode cX2_wordFrom 7 = .ok (.ifCond .eq 5, 3) := by decide +kernel
theorem dX2_wordFrom_10 : decode cX2_wordFrom 10 = .ok (.iconst 0, 1) := by decide +kernel
theorem dX2_wordFrom_11 : decode cX2_wordFrom 11 = .ok (.ireturn, 1) := by decide +kernel
theorem dX2_wordFrom_12 : decode cX2_wordFrom 12 = .ok (.aload_n 0, 1) := by decide +kernel
theorem dX2_wordFrom_13 : decode cX2_wordFrom 13 = .ok (.ldc 68, 2) := by decide +kernel
theorem dX2_wordFrom_15 : decode cX2_wordFrom 15 = .ok (.iload_n 1, 1) := by decide +kernel
theorem dX2_wordFrom_16 : decode cX2_wordFrom 16 = .ok (.invokevirtual 64, 3) := by decide +kernel
theorem dX2_wordFrom_19 : decode cX2_wordFrom 19 = .ok (.ifCond .eq 5, 3) := by decide +kernel
theorem dX2_wordFrom_22 : decode cX2_wordFrom 22 = .ok (.iconst 1, 1) := by decide +kernel
theorem dX2_wordFrom_23 : decode cX2_wordFrom 23 = .ok (.ireturn, 1) := by decide +kernel
theorem dX2_wordFrom_24 : decode cX2_wordFrom 24 = .ok (.aload_n 0, 1) := by decide +kernel
theorem dX2_wordFrom_25 : decode cX2_wordFrom 25 = .ok (.ldc 70, 2) := by decide +kernel
theorem dX2_wordFrom_27 : decode cX2_wordFrom 27 = .ok (.iload_n 1, 1) := by decide +kernel
theorem dX2_wordFrom_28 : decode cX2_wordFrom 28 = .ok (.invokevirtual 64, 3) := by decide +kernel
theorem dX2_wordFrom_31 : decode cX2_wordFrom 31 = .ok (.ifCond .eq 5, 3) := by decide +kernel
theorem dX2_wordFrom_34 : decode cX2_wordFrom 34 = .ok (.iconst 2, 1) := by decide +kernel
theorem dX2_wordFrom_35 : decode cX2_wordFrom 35 = .ok (.ireturn, 1) := by decide +kernel
theorem dX2_wordFrom_36 : decode cX2_wordFrom 36 = .ok (.aload_n 0, 1) := by decide +kernel
theorem dX2_wordFrom_37 : decode cX2_wordFrom 37 = .ok (.ldc 72, 2) := by decide +kernel
theorem dX2_wordFrom_39 : decode cX2_wordFrom 39 = .ok (.iload_n 1, 1) := by decide +kernel
theorem dX2_wordFrom_40 : decode cX2_wordFrom 40 = .ok (.invokevirtual 64, 3) := by decide +kernel
theorem dX2_wordFrom_43 : decode cX2_wordFrom 43 = .ok (.ifCond .eq 5, 3) := by decide +kernel
theorem dX2_wordFrom_46 : decode cX2_wordFrom 46 = .ok (.iconst 3, 1) := by decide +kernel
theorem dX2_wordFrom_47 : decode cX2_wordFrom 47 = .ok (.ireturn, 1) := by decide +kernel
theorem dX2_wordFrom_48 : decode cX2_wordFrom 48 = .ok (.aload_n 0, 1) := by decide +kernel
theorem dX2_wordFrom_49 : decode cX2_wordFrom 49 = .ok (.ldc 74, 2) := by decide +kernel
theorem dX2_wordFrom_51 : decode cX2_wordFrom 51 = .ok (.iload_n 1, 1) := by decide +kernel
theorem dX2_wordFrom_52 : decode cX2_wordFrom 52 = .ok (.invokevirtual 64, 3) := by decide +kernel
theorem dX2_wordFrom_55 : decode cX2_wordFrom 55 = .ok (.ifCond .eq 5, 3) := by decide +kernel
theorem dX2_wordFrom_58 : decode cX2_wordFrom 58 = .ok (.iconst 4, 1) := by decide +kernel
theorem dX2_wordFrom_59 : decode cX2_wordFrom 59 = .ok (.ireturn, 1) := by decide +kernel
theorem dX2_wordFrom_60 : decode cX2_wordFrom 60 = .ok (.aload_n 0, 1) := by decide +kernel
theorem dX2_wordFrom_61 : decode cX2_wordFrom 61 = .ok (.ldc 76, 2) := by decide +kernel
theorem dX2_wordFrom_63 : decode cX2_wordFrom 63 = .ok (.iload_n 1, 1) := by decide +kernel
theorem dX2_wordFrom_64 : decode cX2_wordFrom 64 = .ok (.invokevirtual 64, 3) := by decide +kernel
theorem dX2_wordFrom_67 : decode cX2_wordFrom 67 = .ok (.ifCond .eq 7, 3) := by decide +kernel
theorem dX2_wordFrom_70 : decode cX2_wordFrom 70 = .ok (.iconst 5, 1) := by decide +kernel
theorem dX2_wordFrom_71 : decode cX2_wordFrom 71 = .ok (.goto 4, 3) := by decide +kernel
theorem dX2_wordFrom_74 : decode cX2_wordFrom 74 = .ok (.iconst (-1), 1) := by decide +kernel
theorem dX2_wordFrom_75 : decode cX2_wordFrom 75 = .ok (.ireturn, 1) := by decide +kernel
theorem dX2_spells_0 : decode cX2_spells 0 = .ok (.aload_n 0, 1) := by decide +kernel
theorem dX2_spells_1 : decode cX2_spells 1 = .ok (.getfield 32, 3) := by decide +kernel
theorem dX2_spells_4 : decode cX2_spells 4 = .ok (.iload_n 2, 1) := by decide +kernel
theorem dX2_spells_5 : decode cX2_spells 5 = .ok (.isub, 1) := by decide +kernel
theorem dX2_spells_6 : decode cX2_spells 6 = .ok (.aload_n 1, 1) := by decide +kernel
theorem dX2_spells_7 : decode cX2_spells 7 = .ok (.invokevirtual 78, 3) := by decide +kernel
theorem dX2_spells_10 : decode cX2_spells 10 = .ok (.if_icmp .eq 5, 3) := by decide +kernel
theorem dX2_spells_13 : decode cX2_spells 13 = .ok (.iconst 0, 1) := by decide +kernel
theorem dX2_spells_14 : decode cX2_spells 14 = .ok (.ireturn, 1) := by decide +kernel
theorem dX2_spells_15 : decode cX2_spells 15 = .ok (.iconst 0, 1) := by decide +kernel
theorem dX2_spells_16 : decode cX2_spells 16 = .ok (.istore_n 3, 1) := by decide +kernel
theorem dX2_spells_17 : decode cX2_spells 17 = .ok (.iload_n 3, 1) := by decide +kernel
theorem dX2_spells_18 : decode cX2_spells 18 = .ok (.aload_n 1, 1) := by decide +kernel
theorem dX2_spells_19 : decode cX2_spells 19 = .ok (.invokevirtual 78, 3) := by decide +kernel
theorem dX2_spells_22 : decode cX2_spells 22 = .ok (.if_icmp .ge 27, 3) := by decide +kernel
theorem dX2_spells_25 : decode cX2_spells 25 = .ok (.aload_n 0, 1) := by decide +kernel
theorem dX2_spells_26 : decode cX2_spells 26 = .ok (.getfield 11, 3) := by decide +kernel
theorem dX2_spells_29 : decode cX2_spells 29 = .ok (.iload_n 2, 1) := by decide +kernel
theorem dX2_spells_30 : decode cX2_spells 30 = .ok (.iload_n 3, 1) := by decide +kernel
theorem dX2_spells_31 : decode cX2_spells 31 = .ok (.iadd, 1) := by decide +kernel
theorem dX2_spells_32 : decode cX2_spells 32 = .ok (.iaload, 1) := by decide +kernel
theorem dX2_spells_33 : decode cX2_spells 33 = .ok (.aload_n 1, 1) := by decide +kernel
theorem dX2_spells_34 : decode cX2_spells 34 = .ok (.iload_n 3, 1) := by decide +kernel
theorem dX2_spells_35 : decode cX2_spells 35 = .ok (.invokevirtual 82, 3) := by decide +kernel
theorem dX2_spells_38 : decode cX2_spells 38 = .ok (.if_icmp .eq 5, 3) := by decide +kernel
theorem dX2_spells_41 : decode cX2_spells 41 = .ok (.iconst 0, 1) := by decide +kernel
theorem dX2_spells_42 : decode cX2_spells 42 = .ok (.ireturn, 1) := by decide +kernel
theorem dX2_spells_43 : decode cX2_spells 43 = .ok (.iinc 3 1, 3) := by decide +kernel
theorem dX2_spells_46 : decode cX2_spells 46 = .ok (.goto (-29), 3) := by decide +kernel
theorem dX2_spells_49 : decode cX2_spells 49 = .ok (.iconst 1, 1) := by decide +kernel
theorem dX2_spells_50 : decode cX2_spells 50 = .ok (.ireturn, 1) := by decide +kernel
theorem dX2_readNumber_0 : decode cX2_readNumber 0 = .ok (.aload_n 0, 1) := by decide +kernel
theorem dX2_readNumber_1 : decode cX2_readNumber 1 = .ok (.invokevirtual 55, 3) := by decide +kernel
theorem dX2_readNumber_4 : decode cX2_readNumber 4 = .ok (.aload_n 0, 1) := by decide +kernel
theorem dX2_readNumber_5 : decode cX2_readNumber 5 = .ok (.getfield 32, 3) := by decide +kernel
theorem dX2_readNumber_8 : decode cX2_readNumber 8 = .ok (.istore_n 1, 1) := by decide +kernel
theorem dX2_readNumber_9 : decode cX2_readNumber 9 = .ok (.iconst 0, 1) := by decide +kernel
theorem dX2_readNumber_10 : decode cX2_readNumber 10 = .ok (.istore_n 2, 1) := by decide +kernel
theorem dX2_readNumber_11 : decode cX2_readNumber 11 = .ok (.aload_n 0, 1) := by decide +kernel
theorem dX2_readNumber_12 : decode cX2_readNumber 12 = .ok (.getfield 32, 3) := by decide +kernel
theorem dX2_readNumber_15 : decode cX2_readNumber 15 = .ok (.aload_n 0, 1) := by decide +kernel
theorem dX2_readNumber_16 : decode cX2_readNumber 16 = .ok (.getfield 18, 3) := by decide +kernel
theorem dX2_readNumber_19 : decode cX2_readNumber 19 = .ok (.if_icmp .ge 62, 3) := by decide +kernel
theorem dX2_readNumber_22 : decode cX2_readNumber 22 = .ok (.aload_n 0, 1) := by decide +kernel
theorem dX2_readNumber_23 : decode cX2_readNumber 23 = .ok (.getfield 11, 3) := by decide +kernel
theorem dX2_readNumber_26 : decode cX2_readNumber 26 = .ok (.aload_n 0, 1) := by decide +kernel
theorem dX2_readNumber_27 : decode cX2_readNumber 27 = .ok (.getfield 32, 3) := by decide +kernel
theorem dX2_readNumber_30 : decode cX2_readNumber 30 = .ok (.iaload, 1) := by decide +kernel
theorem dX2_readNumber_31 : decode cX2_readNumber 31 = .ok (.bipush 48, 2) := by decide +kernel
theorem dX2_readNumber_33 : decode cX2_readNumber 33 = .ok (.if_icmp .lt 48, 3) := by decide +kernel
theorem dX2_readNumber_36 : decode cX2_readNumber 36 = .ok (.aload_n 0, 1) := by decide +kernel
theorem dX2_readNumber_37 : decode cX2_readNumber 37 = .ok (.getfield 11, 3) := by decide +kernel
theorem dX2_readNumber_40 : decode cX2_readNumber 40 = .ok (.aload_n 0, 1) := by decide +kernel
theorem dX2_readNumber_41 : decode cX2_readNumber 41 = .ok (.getfield 32, 3) := by decide +kernel
theorem dX2_readNumber_44 : decode cX2_readNumber 44 = .ok (.iaload, 1) := by decide +kernel
theorem dX2_readNumber_45 : decode cX2_readNumber 45 = .ok (.bipush 57, 2) := by decide +kernel
theorem dX2_readNumber_47 : decode cX2_readNumber 47 = .ok (.if_icmp .gt 34, 3) := by decide +kernel
theorem dX2_readNumber_50 : decode cX2_readNumber 50 = .ok (.bipush 10, 2) := by decide +kernel
theorem dX2_readNumber_52 : decode cX2_readNumber 52 = .ok (.iload_n 2, 1) := by decide +kernel
theorem dX2_readNumber_53 : decode cX2_readNumber 53 = .ok (.imul, 1) := by decide +kernel
theorem dX2_readNumber_54 : decode cX2_readNumber 54 = .ok (.aload_n 0, 1) := by decide +kernel
theorem dX2_readNumber_55 : decode cX2_readNumber 55 = .ok (.getfield 11, 3) := by decide +kernel
theorem dX2_readNumber_58 : decode cX2_readNumber 58 = .ok (.aload_n 0, 1) := by decide +kernel
theorem dX2_readNumber_59 : decode cX2_readNumber 59 = .ok (.getfield 32, 3) := by decide +kernel
theorem dX2_readNumber_62 : decode cX2_readNumber 62 = .ok (.iaload, 1) := by decide +kernel
theorem dX2_readNumber_63 : decode cX2_readNumber 63 = .ok (.bipush 48, 2) := by decide +kernel
theorem dX2_readNumber_65 : decode cX2_readNumber 65 = .ok (.isub, 1) := by decide +kernel
theorem dX2_readNumber_66 : decode cX2_readNumber 66 = .ok (.iadd, 1) := by decide +kernel
theorem dX2_readNumber_67 : decode cX2_readNumber 67 = .ok (.istore_n 2, 1) := by decide +kernel
theorem dX2_readNumber_68 : decode cX2_readNumber 68 = .ok (.aload_n 0, 1) := by decide +kernel
theorem dX2_readNumber_69 : decode cX2_readNumber 69 = .ok (.dup, 1) := by decide +kernel
theorem dX2_readNumber_70 : decode cX2_readNumber 70 = .ok (.getfield 32, 3) := by decide +kernel
theorem dX2_readNumber_73 : decode cX2_readNumber 73 = .ok (.iconst 1, 1) := by decide +kernel
theorem dX2_readNumber_74 : decode cX2_readNumber 74 = .ok (.iadd, 1) := by decide +kernel
theorem dX2_readNumber_75 : decode cX2_readNumber 75 = .ok (.putfield 32, 3) := by decide +kernel
theorem dX2_readNumber_78 : decode cX2_readNumber 78 = .ok (.goto (-67), 3) := by decide +kernel
theorem dX2_readNumber_81 : decode cX2_readNumber 81 = .ok (.aload_n 0, 1) := by decide +kernel
theorem dX2_readNumber_82 : decode cX2_readNumber 82 = .ok (.getfield 32, 3) := by decide +kernel
theorem dX2_readNumber_85 : decode cX2_readNumber 85 = .ok (.iload_n 1, 1) := by decide +kernel
theorem dX2_readNumber_86 : decode cX2_readNumber 86 = .ok (.if_icmp .eq 13, 3) := by decide +kernel
theorem dX2_readNumber_89 : decode cX2_readNumber 89 = .ok (.aload_n 0, 1) := by decide +kernel
theorem dX2_readNumber_90 : decode cX2_readNumber 90 = .ok (.getfield 32, 3) := by decide +kernel
theorem dX2_readNumber_93 : decode cX2_readNumber 93 = .ok (.iload_n 1, 1) := by decide +kernel
theorem dX2_readNumber_94 : decode cX2_readNumber 94 = .ok (.isub, 1) := by decide +kernel
theorem dX2_readNumber_95 : decode cX2_readNumber 95 = .ok (.iconst 3, 1) := by decide +kernel
theorem dX2_readNumber_96 : decode cX2_readNumber 96 = .ok (.if_icmp .le 10, 3) := by decide +kernel
theorem dX2_readNumber_99 : decode cX2_readNumber 99 = .ok (.aload_n 0, 1) := by decide +kernel
theorem dX2_readNumber_100 : decode cX2_readNumber 100 = .ok (.iload_n 1, 1) := by decide +kernel
theorem dX2_readNumber_101 : decode cX2_readNumber 101 = .ok (.putfield 29, 3) := by decide +kernel
theorem dX2_readNumber_104 : decode cX2_readNumber 104 = .ok (.iconst (-1), 1) := by decide +kernel
theorem dX2_readNumber_105 : decode cX2_readNumber 105 = .ok (.ireturn, 1) := by decide +kernel
theorem dX2_readNumber_106 : decode cX2_readNumber 106 = .ok (.iload_n 2, 1) := by decide +kernel
theorem dX2_readNumber_107 : decode cX2_readNumber 107 = .ok (.ireturn, 1) := by decide +kernel
theorem dX2_readSeparator_0 : decode cX2_readSeparator 0 = .ok (.aload_n 0, 1) := by decide +kernel
theorem dX2_readSeparator_1 : decode cX2_readSeparator 1 = .ok (.invokevirtual 55, 3) := by decide +kernel
theorem dX2_readSeparator_4 : decode cX2_readSeparator 4 = .ok (.aload_n 0, 1) := by decide +kernel
theorem dX2_readSeparator_5 : decode cX2_readSeparator 5 = .ok (.getfield 32, 3) := by decide +kernel
theorem dX2_readSeparator_8 : decode cX2_readSeparator 8 = .ok (.aload_n 0, 1) := by decide +kernel
theorem dX2_readSeparator_9 : decode cX2_readSeparator 9 = .ok (.getfield 18, 3) := by decide +kernel
theorem dX2_readSeparator_12 : decode cX2_readSeparator 12 = .ok (.if_icmp .lt 10, 3) := by decide +kernel
theorem dX2_readSeparator_15 : decode cX2_readSeparator 15 = .ok (.aload_n 0, 1) := by decide +kernel
theorem dX2_readSeparator_16 : decode cX2_readSeparator 16 = .ok (.iconst 1, 1) := by decide +kernel
theorem dX2_readSeparator_17 : decode cX2_readSeparator 17 = .ok (.putfield 35, 3) := by decide +kernel
theorem dX2_readSeparator_20 : decode cX2_readSeparator 20 = .ok (.iconst 1, 1) := by decide +kernel
theorem dX2_readSeparator_21 : decode cX2_readSeparator 21 = .ok (.ireturn, 1) := by decide +kernel
theorem dX2_readSeparator_22 : decode cX2_readSeparator 22 = .ok (.aload_n 0, 1) := by decide +kernel
theorem dX2_readSeparator_23 : decode cX2_readSeparator 23 = .ok (.getfield 11, 3) := by decide +kernel
theorem dX2_readSeparator_26 : decode cX2_readSeparator 26 = .ok (.aload_n 0, 1) := by decide +kernel
theorem dX2_readSeparator_27 : decode cX2_readSeparator 27 = .ok (.getfield 32, 3) := by decide +kernel
theorem dX2_readSeparator_30 : decode cX2_readSeparator 30 = .ok (.iaload, 1) := by decide +kernel
theorem dX2_readSeparator_31 : decode cX2_readSeparator 31 = .ok (.bipush 59, 2) := by decide +kernel
theorem dX2_readSeparator_33 : decode cX2_readSeparator 33 = .ok (.if_icmp .eq 13, 3) := by decide +kernel
theorem dX2_readSeparator_36 : decode cX2_readSeparator 36 = .ok (.aload_n 0, 1) := by decide +kernel
theorem dX2_readSeparator_37 : decode cX2_readSeparator 37 = .ok (.aload_n 0, 1) := by decide +kernel
theorem dX2_readSeparator_38 : decode cX2_readSeparator 38 = .ok (.getfield 32, 3) := by decide +kernel
theorem dX2_readSeparator_41 : decode cX2_readSeparator 41 = .ok (.putfield 29, 3) := by decide +kernel
theorem dX2_readSeparator_44 : decode cX2_readSeparator 44 = .ok (.iconst 0, 1) := by decide +kernel
theorem dX2_readSeparator_45 : decode cX2_readSeparator 45 = .ok (.ireturn, 1) := by decide +kernel
theorem dX2_readSeparator_46 : decode cX2_readSeparator 46 = .ok (.aload_n 0, 1) := by decide +kernel
theorem dX2_readSeparator_47 : decode cX2_readSeparator 47 = .ok (.dup, 1) := by decide +kernel
theorem dX2_readSeparator_48 : decode cX2_readSeparator 48 = .ok (.getfield 32, 3) := by decide +kernel
theorem dX2_readSeparator_51 : decode cX2_readSeparator 51 = .ok (.iconst 1, 1) := by decide +kernel
theorem dX2_readSeparator_52 : decode cX2_readSeparator 52 = .ok (.iadd, 1) := by decide +kernel
theorem dX2_readSeparator_53 : decode cX2_readSeparator 53 = .ok (.putfield 32, 3) := by decide +kernel
theorem dX2_readSeparator_56 : decode cX2_readSeparator 56 = .ok (.iconst 1, 1) := by decide +kernel
theorem dX2_readSeparator_57 : decode cX2_readSeparator 57 = .ok (.ireturn, 1) := by decide +kernel
theorem dX3_opposite_0 : decode cX3_opposite 0 = .ok (.iload_n 0, 1) := by decide +kernel
theorem dX3_opposite_1 : decode cX3_opposite 1 = .ok (.iconst 2, 1) := by decide +kernel
theorem dX3_opposite_2 : decode cX3_opposite 2 = .ok (.ixor, 1) := by decide +kernel
theorem dX3_opposite_3 : decode cX3_opposite 3 = .ok (.ireturn, 1) := by decide +kernel
theorem dX3_isUpright_0 : decode cX3_isUpright 0 = .ok (.iload_n 0, 1) := by decide +kernel
theorem dX3_isUpright_1 : decode cX3_isUpright 1 = .ok (.iconst 1, 1) := by decide +kernel
theorem dX3_isUpright_2 : decode cX3_isUpright 2 = .ok (.iand, 1) := by decide +kernel
theorem dX3_isUpright_3 : decode cX3_isUpright 3 = .ok (.ifCond .ne 7, 3) := by decide +kernel
theorem dX3_isUpright_6 : decode cX3_isUpright 6 = .ok (.iconst 1, 1) := by decide +kernel
theorem dX3_isUpright_7 : decode cX3_isUpright 7 = .ok (.goto 4, 3) := by decide +kernel
theorem dX3_isUpright_10 : decode cX3_isUpright 10 = .ok (.iconst 0, 1) := by decide +kernel
theorem dX3_isUpright_11 : decode cX3_isUpright 11 = .ok (.ireturn, 1) := by decide +kernel
theorem dX3_stepX_0 : decode cX3_stepX 0 = .ok (.getstatic 7, 3) := by decide +kernel
theorem dX3_stepX_3 : decode cX3_stepX 3 = .ok (.iload_n 0, 1) := by decide +kernel
theorem dX3_stepX_4 : decode cX3_stepX 4 = .ok (.iconst 3, 1) := by decide +kernel
theorem dX3_stepX_5 : decode cX3_stepX 5 = .ok (.iand, 1) := by decide +kernel
theorem dX3_stepX_6 : decode cX3_stepX 6 = .ok (.iaload, 1) := by decide +kernel
theorem dX3_stepX_7 : decode cX3_stepX 7 = .ok (.ireturn, 1) := by decide +kernel
theorem dX3_stepY_0 : decode cX3_stepY 0 = .ok (.getstatic 13, 3) := by decide +kernel
theorem dX3_stepY_3 : decode cX3_stepY 3 = .ok (.iload_n 0, 1) := by decide +kernel
theorem dX3_stepY_4 : decode cX3_stepY 4 = .ok (.iconst 3, 1) := by decide +kernel
theorem dX3_stepY_5 : decode cX3_stepY 5 = .ok (.iand, 1) := by decide +kernel
theorem dX3_stepY_6 : decode cX3_stepY 6 = .ok (.iaload, 1) := by decide +kernel
theorem dX3_stepY_7 : decode cX3_stepY 7 = .ok (.ireturn, 1) := by decide +kernel
theorem dX4_init_0 : decode cX4_init 0 = .ok (.aload_n 0, 1) := by decide +kernel
theorem dX4_init_1 : decode cX4_init 1 = .ok (.invokespecial 5, 3) := by decide +kernel
theorem dX4_init_4 : decode cX4_init 4 = .ok (.aload_n 0, 1) := by decide +kernel
theorem dX4_init_5 : decode cX4_init 5 = .ok (.bipush 18, 2) := by decide +kernel
theorem dX4_init_7 : decode cX4_init 7 = .ok (.newarray .int, 2) := by decide +kernel
theorem dX4_init_9 : decode cX4_init 9 = .ok (.putfield 11, 3) := by decide +kernel
theorem dX4_init_12 : decode cX4_init 12 = .ok (.aload_n 0, 1) := by decide +kernel
theorem dX4_init_13 : decode cX4_init 13 = .ok (.bipush 18, 2) := by decide +kernel
theorem dX4_init_15 : decode cX4_init 15 = .ok (.newarray .int, 2) := by decide +kernel
theorem dX4_init_17 : decode cX4_init 17 = .ok (.putfield 15, 3) := by decide +kernel
theorem dX4_init_20 : decode cX4_init 20 = .ok (.aload_n 0, 1) := by decide +kernel
theorem dX4_init_21 : decode cX4_init 21 = .ok (.sipush 324, 3) := by decide +kernel
theorem dX4_init_24 : decode cX4_init 24 = .ok (.newarray .boolean, 2) := by decide +kernel
theorem dX4_init_26 : decode cX4_init 26 = .ok (.putfield 18, 3) := by decide +kernel
theorem dX4_init_29 : decode cX4_init 29 = .ok (.aload_n 0, 1) := by decide +kernel
theorem dX4_init_30 : decode cX4_init 30 = .ok (.sipush 324, 3) := by decide +kernel
theorem dX4_init_33 : decode cX4_init 33 = .ok (.newarray .boolean, 2) := by decide +kernel
theorem dX4_init_35 : decode cX4_init 35 = .ok (.putfield 22, 3) := by decide +kernel
theorem dX4_init_38 : decode cX4_init 38 = .ok (.return_, 1) := by decide +kernel
theorem dX4_clear_0 : decode cX4_clear 0 = .ok (.aload_n 0, 1) := by decide +kernel
theorem dX4_clear_1 : decode cX4_clear 1 = .ok (.iconst 0, 1) := by decide +kernel
theorem dX4_clear_2 : decode cX4_clear 2 = .ok (.putfield 25, 3) := by decide +kernel
theorem dX4_clear_5 : decode cX4_clear 5 = .ok (.aload_n 0, 1) := by decide +kernel
theorem dX4_clear_6 : decode cX4_clear 6 = .ok (.iconst 0, 1) := by decide +kernel
theorem dX4_clear_7 : decode cX4_clear 7 = .ok (.putfield 29, 3) := by decide +kernel
theorem dX4_clear_10 : decode cX4_clear 10 = .ok (.return_, 1) := by decide +kernel
theorem dX4_addLinesAround_0 : decode cX4_addLinesAround 0 = .ok (.iconst 0, 1) := by decide +kernel
theorem dX4_addLinesAround_1 : decode cX4_addLinesAround 1 = .ok (.istore_n 2, 1) := by decide +kernel
theorem dX4_addLinesAround_2 : decode cX4_addLinesAround 2 = .ok (.iload_n 2, 1) := by decide +kernel
theorem dX4_addLinesAround_3 : decode cX4_addLinesAround 3 = .ok (.aload_n 1, 1) := by decide +kernel
theorem dX4_addLinesAround_4 : decode cX4_addLinesAround 4 = .ok (.getfield 32, 3) := by decide +kernel
theorem dX4_addLinesAround_7 : decode cX4_addLinesAround 7 = .ok (.if_icmp .ge 101, 3) := by decide +kernel
theorem dX4_addLinesAround_10 : decode cX4_addLinesAround 10 = .ok (.aload_n 0, 1) := by decide +kernel
theorem dX4_addLinesAround_11 : decode cX4_addLinesAround 11 = .ok (.aload_n 0, 1) := by decide +kernel
theorem dX4_addLinesAround_12 : decode cX4_addLinesAround 12 = .ok (.getfield 11, 3) := by decide +kernel
theorem dX4_addLinesAround_15 : decode cX4_addLinesAround 15 = .ok (.aload_n 0, 1) := by decide +kernel
theorem dX4_addLinesAround_16 : decode cX4_addLinesAround 16 = .ok (.getfield 25, 3) := by decide +kernel
theorem dX4_addLinesAround_19 : decode cX4_addLinesAround 19 = .ok (.aload_n 1, 1) := by decide +kernel
theorem dX4_addLinesAround_20 : decode cX4_addLinesAround 20 = .ok (.iload_n 2, 1) := by decide +kernel
theorem dX4_addLinesAround_21 : decode cX4_addLinesAround 21 = .ok (.iconst 0, 1) := by decide +kernel
theorem dX4_addLinesAround_22 : decode cX4_addLinesAround 22 = .ok (.invokevirtual 37, 3) := by decide +kernel
theorem dX4_addLinesAround_25 : decode cX4_addLinesAround 25 = .ok (.iconst 1, 1) := by decide +kernel
theorem dX4_addLinesAround_26 : decode cX4_addLinesAround 26 = .ok (.isub, 1) := by decide +kernel
theorem dX4_addLinesAround_27 : decode cX4_addLinesAround 27 = .ok (.invokestatic 41, 3) := by decide +kernel
theorem dX4_addLinesAround_30 : decode cX4_addLinesAround 30 = .ok (.putfield 25, 3) := by decide +kernel
theorem dX4_addLinesAround_33 : decode cX4_addLinesAround 33 = .ok (.aload_n 0, 1) := by decide +kernel
theorem dX4_addLinesAround_34 : decode cX4_addLinesAround 34 = .ok (.aload_n 0, 1) := by decide +kernel
theorem dX4_addLinesAround_35 : decode cX4_addLinesAround 35 = .ok (.getfield 11, 3) := by decide +kernel
theorem dX4_addLinesAround_38 : decode cX4_addLinesAround 38 = .ok (.aload_n 0, 1) := by decide +kernel
theorem dX4_addLinesAround_39 : decode cX4_addLinesAround 39 = .ok (.getfield 25, 3) := by decide +kernel
theorem dX4_addLinesAround_42 : decode cX4_addLinesAround 42 = .ok (.aload_n 1, 1) := by decide +kernel
theorem dX4_addLinesAround_43 : decode cX4_addLinesAround 43 = .ok (.iload_n 2, 1) := by decide +kernel
theorem dX4_addLinesAround_44 : decode cX4_addLinesAround 44 = .ok (.iconst 2, 1) := by decide +kernel
theorem dX4_addLinesAround_45 : decode cX4_addLinesAround 45 = .ok (.invokevirtual 37, 3) := by decide +kernel
theorem dX4_addLinesAround_48 : decode cX4_addLinesAround 48 = .ok (.iconst 1, 1) := by decide +kernel
theorem dX4_addLinesAround_49 : decode cX4_addLinesAround 49 = .ok (.iadd, 1) := by decide +kernel
theorem dX4_addLinesAround_50 : decode cX4_addLinesAround 50 = .ok (.invokestatic 41, 3) := by decide +kernel
theorem dX4_addLinesAround_53 : decode cX4_addLinesAround 53 = .ok (.putfield 25, 3) := by decide +kernel
theorem dX4_addLinesAround_56 : decode cX4_addLinesAround 56 = .ok (.aload_n 0, 1) := by decide +kernel
theorem dX4_addLinesAround_57 : decode cX4_addLinesAround 57 = .ok (.aload_n 0, 1) := by decide +kernel
theorem dX4_addLinesAround_58 : decode cX4_addLinesAround 58 = .ok (.getfield 15, 3) := by decide +kernel
theorem dX4_addLinesAround_61 : decode cX4_addLinesAround 61 = .ok (.aload_n 0, 1) := by decide +kernel
theorem dX4_addLinesAround_62 : decode cX4_addLinesAround 62 = .ok (.getfield 29, 3) := by decide +kernel
theorem dX4_addLinesAround_65 : decode cX4_addLinesAround 65 = .ok (.aload_n 1, 1) := by decide +kernel
theorem dX4_addLinesAround_66 : decode cX4_addLinesAround 66 = .ok (.iload_n 2, 1) := by decide +kernel
theorem dX4_addLinesAround_67 : decode cX4_addLinesAround 67 = .ok (.iconst 1, 1) := by decide +kernel
theorem dX4_addLinesAround_68 : decode cX4_addLinesAround 68 = .ok (.invokevirtual 37, 3) := by decide +kernel
theorem dX4_addLinesAround_71 : decode cX4_addLinesAround 71 = .ok (.iconst 1, 1) := by decide +kernel
theorem dX4_addLinesAround_72 : decode cX4_addLinesAround 72 = .ok (.isub, 1) := by decide +kernel
theorem dX4_addLinesAround_73 : decode cX4_addLinesAround 73 = .ok (.invokestatic 41, 3) := by decide +kernel
theorem dX4_addLinesAround_76 : decode cX4_addLinesAround 76 = .ok (.putfield 29, 3) := by decide +kernel
theorem dX4_addLinesAround_79 : decode cX4_addLinesAround 79 = .ok (.aload_n 0, 1) := by decide +kernel
theorem dX4_addLinesAround_80 : decode cX4_addLinesAround 80 = .ok (.aload_n 0, 1) := by decide +kernel
theorem dX4_addLinesAround_81 : decode cX4_addLinesAround 81 = .ok (.getfield 15, 3) := by decide +kernel
theorem dX4_addLinesAround_84 : decode cX4_addLinesAround 84 = .ok (.aload_n 0, 1) := by decide +kernel
theorem dX4_addLinesAround_85 : decode cX4_addLinesAround 85 = .ok (.getfield 29, 3) := by decide +kernel
theorem dX4_addLinesAround_88 : decode cX4_addLinesAround 88 = .ok (.aload_n 1, 1) := by decide +kernel
theorem dX4_addLinesAround_89 : decode cX4_addLinesAround 89 = .ok (.iload_n 2, 1) := by decide +kernel
theorem dX4_addLinesAround_90 : decode cX4_addLinesAround 90 = .ok (.iconst 3, 1) := by decide +kernel
theorem dX4_addLinesAround_91 : decode cX4_addLinesAround 91 = .ok (.invokevirtual 37, 3) := by decide +kernel
theorem dX4_addLinesAround_94 : decode cX4_addLinesAround 94 = .ok (.iconst 1, 1) := by decide +kernel
theorem dX4_addLinesAround_95 : decode cX4_addLinesAround 95 = .ok (.iadd, 1) := by decide +kernel
theorem dX4_addLinesAround_96 : decode cX4_addLinesAround 96 = .ok (.invokestatic 41, 3) := by decide +kernel
theorem dX4_addLinesAround_99 : decode cX4_addLinesAround 99 = .ok (.putfield 29, 3) := by decide +kernel
theorem dX4_addLinesAround_102 : decode cX4_addLinesAround 102 = .ok (.iinc 2 1, 3) := by decide +kernel
theorem dX4_addLinesAround_105 : decode cX4_addLinesAround 105 = .ok (.goto (-103), 3) := by decide +kernel
theorem dX4_addLinesAround_108 : decode cX4_addLinesAround 108 = .ok (.return_, 1) := by decide +kernel
theorem dX4_addLinesThrough_0 : decode cX4_addLinesThrough 0 = .ok (.aload_n 0, 1) := by decide +kernel
theorem dX4_addLinesThrough_1 : decode cX4_addLinesThrough 1 = .ok (.aload_n 0, 1) := by decide +kernel
theorem dX4_addLinesThrough_2 : decode cX4_addLinesThrough 2 = .ok (.getfield 11, 3) := by decide +kernel
theorem dX4_addLinesThrough_5 : decode cX4_addLinesThrough 5 = .ok (.aload_n 0, 1) := by decide +kernel
theorem dX4_addLinesThrough_6 : decode cX4_addLinesThrough 6 = .ok (.getfield 25, 3) := by decide +kernel
theorem dX4_addLinesThrough_9 : decode cX4_addLinesThrough 9 = .ok (.iload_n 1, 1) := by decide +kernel
theorem dX4_addLinesThrough_10 : decode cX4_addLinesThrough 10 = .ok (.invokestatic 41, 3) := by decide +kernel
theorem dX4_addLinesThrough_13 : decode cX4_addLinesThrough 13 = .ok (.putfield 25, 3) := by decide +kernel
theorem dX4_addLinesThrough_16 : decode cX4_addLinesThrough 16 = .ok (.aload_n 0, 1) := by decide +kernel
theorem dX4_addLinesThrough_17 : decode cX4_addLinesThrough 17 = .ok (.aload_n 0, 1) := by decide +kernel
theorem dX4_addLinesThrough_18 : decode cX4_addLinesThrough 18 = .ok (.getfield 15, 3) := by decide +kernel
theorem dX4_addLinesThrough_21 : decode cX4_addLinesThrough 21 = .ok (.aload_n 0, 1) := by decide +kernel
theorem dX4_addLinesThrough_22 : decode cX4_addLinesThrough 22 = .ok (.getfield 29, 3) := by decide +kernel
theorem dX4_addLinesThrough_25 : decode cX4_addLinesThrough 25 = .ok (.iload_n 2, 1) := by decide +kernel
theorem dX4_addLinesThrough_26 : decode cX4_addLinesThrough 26 = .ok (.invokestatic 41, 3) := by decide +kernel
theorem dX4_addLinesThrough_29 : decode cX4_addLinesThrough 29 = .ok (.putfield 29, 3) := by decide +kernel
theorem dX4_addLinesThrough_32 : decode cX4_addLinesThrough 32 = .ok (.return_, 1) := by decide +kernel
theorem dX4_insert_0 : decode cX4_insert 0 = .ok (.iload_n 1, 1) := by decide +kernel
theorem dX4_insert_1 : decode cX4_insert 1 = .ok (.istore_n 3, 1) := by decide +kernel
theorem dX4_insert_2 : decode cX4_insert 2 = .ok (.iload_n 3, 1) := by decide +kernel
theorem dX4_insert_3 : decode cX4_insert 3 = .ok (.ifCond .le 18, 3) := by decide +kernel
theorem dX4_insert_6 : decode cX4_insert 6 = .ok (.aload_n 0, 1) := by decide +kernel
theorem dX4_insert_7 : decode cX4_insert 7 = .ok (.iload_n 3, 1) := by decide +kernel
theorem dX4_insert_8 : decode cX4_insert 8 = .ok (.iconst 1, 1) := by decide +kernel
theorem dX4_insert_9 : decode cX4_insert 9 = .ok (.isub, 1) := by decide +kernel
theorem dX4_insert_10 : decode cX4_insert 10 = .ok (.iaload, 1) := by decide +kernel
theorem dX4_insert_11 : decode cX4_insert 11 = .ok (.iload_n 2, 1) := by decide +kernel
theorem dX4_insert_12 : decode cX4_insert 12 = .ok (.if_icmp .le 9, 3) := by decide +kernel
theorem dX4_insert_15 : decode cX4_insert 15 = .ok (.iinc 3 (-1), 3) := by decide +kernel
theorem dX4_insert_18 : decode cX4_insert 18 = .ok (.goto (-16), 3) := by decide +kernel
theorem dX4_insert_21 : decode cX4_insert 21 = .ok (.iload_n 1, 1) := by decide +kernel
theorem dX4_insert_22 : decode cX4_insert 22 = .ok (.aload_n 0, 1) := by decide +kernel
theorem dX4_insert_23 : decode cX4_insert 23 = .ok (.arraylength, 1) := by decide +kernel
theorem dX4_insert_24 : decode cX4_insert 24 = .ok (.if_icmp .ge 16, 3) := by decide +kernel
theorem dX4_insert_27 : decode cX4_insert 27 = .ok (.iload_n 3, 1) := by decide +kernel
theorem dX4_insert_28 : decode cX4_insert 28 = .ok (.ifCond .le 14, 3) := by decide +kernel
theorem dX4_insert_31 : decode cX4_insert 31 = .ok (.aload_n 0, 1) := by decide +kernel
theorem dX4_insert_32 : decode cX4_insert 32 = .ok (.iload_n 3, 1) := by decide +kernel
theorem dX4_insert_33 : decode cX4_insert 33 = .ok (.iconst 1, 1) := by decide +kernel
theorem dX4_insert_34 : decode cX4_insert 34 = .ok (.isub, 1) := by decide +kernel
theorem dX4_insert_35 : decode cX4_insert 35 = .ok (.iaload, 1) := by decide +kernel
theorem dX4_insert_36 : decode cX4_insert 36 = .ok (.iload_n 2, 1) := by decide +kernel
theorem dX4_insert_37 : decode cX4_insert 37 = .ok (.if_icmp .ne 5, 3) := by decide +kernel
theorem dX4_insert_40 : decode cX4_insert 40 = .ok (.iload_n 1, 1) := by decide +kernel
theorem dX4_insert_41 : decode cX4_insert 41 = .ok (.ireturn, 1) := by decide +kernel
theorem dX4_insert_42 : decode cX4_insert 42 = .ok (.aload_n 0, 1) := by decide +kernel
theorem dX4_insert_43 : decode cX4_insert 43 = .ok (.iload_n 3, 1) := by decide +kernel
theorem dX4_insert_44 : decode cX4_insert 44 = .ok (.aload_n 0, 1) := by decide +kernel
theorem dX4_insert_45 : decode cX4_insert 45 = .ok (.iload_n 3, 1) := by decide +kernel
theorem dX4_insert_46 : decode cX4_insert 46 = .ok (.iconst 1, 1) := by decide +kernel
theorem dX4_insert_47 : decode cX4_insert 47 = .ok (.iadd, 1) := by decide +kernel
theorem dX4_insert_48 : decode cX4_insert 48 = .ok (.iload_n 1, 1) := by decide +kernel
theorem dX4_insert_49 : decode cX4_insert 49 = .ok (.iload_n 3, 1) := by decide +kernel
theorem dX4_insert_50 : decode cX4_insert 50 = .ok (.isub, 1) := by decide +kernel
theorem dX4_insert_51 : decode cX4_insert 51 = .ok (.invokestatic 45, 3) := by decide +kernel
theorem dX4_insert_54 : decode cX4_insert 54 = .ok (.aload_n 0, 1) := by decide +kernel
theorem dX4_insert_55 : decode cX4_insert 55 = .ok (.iload_n 3, 1) := by decide +kernel
theorem dX4_insert_56 : decode cX4_insert 56 = .ok (.iload_n 2, 1) := by decide +kernel
theorem dX4_insert_57 : decode cX4_insert 57 = .ok (.iastore, 1) := by decide +kernel
theorem dX4_insert_58 : decode cX4_insert 58 = .ok (.iload_n 1, 1) := by decide +kernel
theorem dX4_insert_59 : decode cX4_insert 59 = .ok (.iconst 1, 1) := by decide +kernel
theorem dX4_insert_60 : decode cX4_insert 60 = .ok (.iadd, 1) := by decide +kernel
theorem dX4_insert_61 : decode cX4_insert 61 = .ok (.ireturn, 1) := by decide +kernel
theorem dX4_joinNodes_0 : decode cX4_joinNodes 0 = .ok (.iconst 0, 1) := by decide +kernel
theorem dX4_joinNodes_1 : decode cX4_joinNodes 1 = .ok (.istore_n 2, 1) := by decide +kernel
theorem dX4_joinNodes_2 : decode cX4_joinNodes 2 = .ok (.iload_n 2, 1) := by decide +kernel
theorem dX4_joinNodes_3 : decode cX4_joinNodes 3 = .ok (.aload_n 0, 1) := by decide +kernel
theorem dX4_joinNodes_4 : decode cX4_joinNodes 4 = .ok (.getfield 29, 3) := by decide +kernel
theorem dX4_joinNodes_7 : decode cX4_joinNodes 7 = .ok (.if_icmp .ge 137, 3) := by decide +kernel
theorem dX4_joinNodes_10 : decode cX4_joinNodes 10 = .ok (.iconst 0, 1) := by decide +kernel
theorem dX4_joinNodes_11 : decode cX4_joinNodes 11 = .ok (.istore_n 3, 1) := by decide +kernel
theorem dX4_joinNodes_12 : decode cX4_joinNodes 12 = .ok (.iload_n 3, 1) := by decide +kernel
theorem dX4_joinNodes_13 : decode cX4_joinNodes 13 = .ok (.aload_n 0, 1) := by decide +kernel
theorem dX4_joinNodes_14 : decode cX4_joinNodes 14 = .ok (.getfield 25, 3) := by decide +kernel
theorem dX4_joinNodes_17 : decode cX4_joinNodes 17 = .ok (.if_icmp .ge 121, 3) := by decide +kernel
theorem dX4_joinNodes_20 : decode cX4_joinNodes 20 = .ok (.aload_n 0, 1) := by decide +kernel
theorem dX4_joinNodes_21 : decode cX4_joinNodes 21 = .ok (.getfield 11, 3) := by decide +kernel
theorem dX4_joinNodes_24 : decode cX4_joinNodes 24 = .ok (.iload_n 3, 1) := by decide +kernel
theorem dX4_joinNodes_25 : decode cX4_joinNodes 25 = .ok (.iaload, 1) := by decide +kernel
theorem dX4_joinNodes_26 : decode cX4_joinNodes 26 = .ok (.istore 4, 2) := by decide +kernel
theorem dX4_joinNodes_28 : decode cX4_joinNodes 28 = .ok (.aload_n 0, 1) := by decide +kernel
theorem dX4_joinNodes_29 : decode cX4_joinNodes 29 = .ok (.getfield 15, 3) := by decide +kernel
theorem dX4_joinNodes_32 : decode cX4_joinNodes 32 = .ok (.iload_n 2, 1) := by decide +kernel
theorem dX4_joinNodes_33 : decode cX4_joinNodes 33 = .ok (.iaload, 1) := by decide +kernel
theorem dX4_joinNodes_34 : decode cX4_joinNodes 34 = .ok (.istore 5, 2) := by decide +kernel
theorem dX4_joinNodes_36 : decode cX4_joinNodes 36 = .ok (.iload_n 2, 1) := by decide +kernel
theorem dX4_joinNodes_37 : decode cX4_joinNodes 37 = .ok (.bipush 18, 2) := by decide +kernel
theorem dX4_joinNodes_39 : decode cX4_joinNodes 39 = .ok (.imul, 1) := by decide +kernel
theorem dX4_joinNodes_40 : decode cX4_joinNodes 40 = .ok (.iload_n 3, 1) := by decide +kernel
theorem dX4_joinNodes_41 : decode cX4_joinNodes 41 = .ok (.iadd, 1) := by decide +kernel
theorem dX4_joinNodes_42 : decode cX4_joinNodes 42 = .ok (.istore 6, 2) := by decide +kernel
theorem dX4_joinNodes_44 : decode cX4_joinNodes 44 = .ok (.aload_n 0, 1) := by decide +kernel
theorem dX4_joinNodes_45 : decode cX4_joinNodes 45 = .ok (.getfield 18, 3) := by decide +kernel
theorem dX4_joinNodes_48 : decode cX4_joinNodes 48 = .ok (.iload 6, 2) := by decide +kernel
theorem dX4_joinNodes_50 : decode cX4_joinNodes 50 = .ok (.iload_n 3, 1) := by decide +kernel
theorem dX4_joinNodes_51 : decode cX4_joinNodes 51 = .ok (.iconst 1, 1) := by decide +kernel
theorem dX4_joinNodes_52 : decode cX4_joinNodes 52 = .ok (.iadd, 1) := by decide +kernel
theorem dX4_joinNodes_53 : decode cX4_joinNodes 53 = .ok (.aload_n 0, 1) := by decide +kernel
theorem dX4_joinNodes_54 : decode cX4_joinNodes 54 = .ok (.getfield 25, 3) := by decide +kernel
theorem dX4_joinNodes_57 : decode cX4_joinNodes 57 = .ok (.if_icmp .ge 29, 3) := by decide +kernel
theorem dX4_joinNodes_60 : decode cX4_joinNodes 60 = .ok (.aload_n 1, 1) := by decide +kernel
theorem dX4_joinNodes_61 : decode cX4_joinNodes 61 = .ok (.iload 4, 2) := by decide +kernel
theorem dX4_joinNodes_63 : decode cX4_joinNodes 63 = .ok (.iload 5, 2) := by decide +kernel
theorem dX4_joinNodes_65 : decode cX4_joinNodes 65 = .ok (.aload_n 0, 1) := by decide +kernel
theorem dX4_joinNodes_66 : decode cX4_joinNodes 66 = .ok (.getfield 11, 3) := by decide +kernel
theorem dX4_joinNodes_69 : decode cX4_joinNodes 69 = .ok (.iload_n 3, 1) := by decide +kernel
theorem dX4_joinNodes_70 : decode cX4_joinNodes 70 = .ok (.iconst 1, 1) := by decide +kernel
theorem dX4_joinNodes_71 : decode cX4_joinNodes 71 = .ok (.iadd, 1) := by decide +kernel
theorem dX4_joinNodes_72 : decode cX4_joinNodes 72 = .ok (.iaload, 1) := by decide +kernel
theorem dX4_joinNodes_73 : decode cX4_joinNodes 73 = .ok (.iload 5, 2) := by decide +kernel
theorem dX4_joinNodes_75 : decode cX4_joinNodes 75 = .ok (.invokevirtual 51, 3) := by decide +kernel
theorem dX4_joinNodes_78 : decode cX4_joinNodes 78 = .ok (.iconst (-1), 1) := by decide +kernel
theorem dX4_joinNodes_79 : decode cX4_joinNodes 79 = .ok (.if_icmp .ne 7, 3) := by decide +kernel
theorem dX4_joinNodes_82 : decode cX4_joinNodes 82 = .ok (.iconst 1, 1) := by decide +kernel
theorem dX4_joinNodes_83 : decode cX4_joinNodes 83 = .ok (.goto 4, 3) := by decide +kernel
theorem dX4_joinNodes_86 : decode cX4_joinNodes 86 = .ok (.iconst 0, 1) := by decide +kernel
theorem dX4_joinNodes_87 : decode cX4_joinNodes 87 = .ok (.bastore, 1) := by decide +kernel
theorem dX4_joinNodes_88 : decode cX4_joinNodes 88 = .ok (.aload_n 0, 1) := by decide +kernel
theorem dX4_joinNodes_89 : decode cX4_joinNodes 89 = .ok (.getfield 22, 3) := by decide +kernel
theorem dX4_joinNodes_92 : decode cX4_joinNodes 92 = .ok (.iload 6, 2) := by decide +kernel
theorem dX4_joinNodes_94 : decode cX4_joinNodes 94 = .ok (.iload_n 2, 1) := by decide +kernel
theorem dX4_joinNodes_95 : decode cX4_joinNodes 95 = .ok (.iconst 1, 1) := by decide +kernel
theorem dX4_joinNodes_96 : decode cX4_joinNodes 96 = .ok (.iadd, 1) := by decide +kernel
theorem dX4_joinNodes_97 : decode cX4_joinNodes 97 = .ok (.aload_n 0, 1) := by decide +kernel
theorem dX4_joinNodes_98 : decode cX4_joinNodes 98 = .ok (.getfield 29, 3) := by decide +kernel
theorem dX4_joinNodes_101 : decode cX4_joinNodes 101 = .ok (.if_icmp .ge 29, 3) := by decide +kernel
theorem dX4_joinNodes_104 : decode cX4_joinNodes 104 = .ok (.aload_n 1, 1) := by decide +kernel
theorem dX4_joinNodes_105 : decode cX4_joinNodes 105 = .ok (.iload 4, 2) := by decide +kernel
theorem dX4_joinNodes_107 : decode cX4_joinNodes 107 = .ok (.iload 5, 2) := by decide +kernel
theorem dX4_joinNodes_109 : decode cX4_joinNodes 109 = .ok (.iload 4, 2) := by decide +kernel
theorem dX4_joinNodes_111 : decode cX4_joinNodes 111 = .ok (.aload_n 0, 1) := by decide +kernel
theorem dX4_joinNodes_112 : decode cX4_joinNodes 112 = .ok (.getfield 15, 3) := by decide +kernel
theorem dX4_joinNodes_115 : decode cX4_joinNodes 115 = .ok (.iload_n 2, 1) := by decide +kernel
theorem dX4_joinNodes_116 : decode cX4_joinNodes 116 = .ok (.iconst 1, 1) := by decide +kernel
theorem dX4_joinNodes_117 : decode cX4_joinNodes 117 = .ok (.iadd, 1) := by decide +kernel
theorem dX4_joinNodes_118 : decode cX4_joinNodes 118 = .ok (.iaload, 1) := by decide +kernel
theorem dX4_joinNodes_119 : decode cX4_joinNodes 119 = .ok (.invokevirtual 51, 3) := by decide +kernel
theorem dX4_joinNodes_122 : decode cX4_joinNodes 122 = .ok (.iconst (-1), 1) := by decide +kernel
theorem dX4_joinNodes_123 : decode cX4_joinNodes 123 = .ok (.if_icmp .ne 7, 3) := by decide +kernel
theorem dX4_joinNodes_126 : decode cX4_joinNodes 126 = .ok (.iconst 1, 1) := by decide +kernel
theorem dX4_joinNodes_127 : decode cX4_joinNodes 127 = .ok (.goto 4, 3) := by decide +kernel
theorem dX4_joinNodes_130 : decode cX4_joinNodes 130 = .ok (.iconst 0, 1) := by decide +kernel
theorem dX4_joinNodes_131 : decode cX4_joinNodes 131 = .ok (.bastore, 1) := by decide +kernel
theorem dX4_joinNodes_132 : decode cX4_joinNodes 132 = .ok (.iinc 3 1, 3) := by decide +kernel
theorem dX4_joinNodes_135 : decode cX4_joinNodes 135 = .ok (.goto (-123), 3) := by decide +kernel
theorem dX4_joinNodes_138 : decode cX4_joinNodes 138 = .ok (.iinc 2 1, 3) := by decide +kernel
theorem dX4_joinNodes_141 : decode cX4_joinNodes 141 = .ok (.goto (-139), 3) := by decide +kernel
theorem dX4_joinNodes_144 : decode cX4_joinNodes 144 = .ok (.return_, 1) := by decide +kernel
theorem dX4_nodeAt_0 : decode cX4_nodeAt 0 = .ok (.aload_n 0, 1) := by decide +kernel
theorem dX4_nodeAt_1 : decode cX4_nodeAt 1 = .ok (.getfield 15, 3) := by decide +kernel
theorem dX4_nodeAt_4 : decode cX4_nodeAt 4 = .ok (.aload_n 0, 1) := by decide +kernel
theorem dX4_nodeAt_5 : decode cX4_nodeAt 5 = .ok (.getfield 29, 3) := by decide +kernel
theorem dX4_nodeAt_8 : decode cX4_nodeAt 8 = .ok (.iload_n 2, 1) := by decide +kernel
theorem dX4_nodeAt_9 : decode cX4_nodeAt 9 = .ok (.invokestatic 55, 3) := by decide +kernel
theorem dX4_nodeAt_12 : decode cX4_nodeAt 12 = .ok (.bipush 18, 2) := by decide +kernel
theorem dX4_nodeAt_14 : decode cX4_nodeAt 14 = .ok (.imul, 1) := by decide +kernel
theorem dX4_nodeAt_15 : decode cX4_nodeAt 15 = .ok (.aload_n 0, 1) := by decide +kernel
theorem dX4_nodeAt_16 : decode cX4_nodeAt 16 = .ok (.getfield 11, 3) := by decide +kernel
theorem dX4_nodeAt_19 : decode cX4_nodeAt 19 = .ok (.aload_n 0, 1) := by decide +kernel
theorem dX4_nodeAt_20 : decode cX4_nodeAt 20 = .ok (.getfield 25, 3) := by decide +kernel
theorem dX4_nodeAt_23 : decode cX4_nodeAt 23 = .ok (.iload_n 1, 1) := by decide +kernel
theorem dX4_nodeAt_24 : decode cX4_nodeAt 24 = .ok (.invokestatic 55, 3) := by decide +kernel
theorem dX4_nodeAt_27 : decode cX4_nodeAt 27 = .ok (.iadd, 1) := by decide +kernel
theorem dX4_nodeAt_28 : decode cX4_nodeAt 28 = .ok (.ireturn, 1) := by decide +kernel
theorem dX4_indexOf_0 : decode cX4_indexOf 0 = .ok (.iconst 0, 1) := by decide +kernel
theorem dX4_indexOf_1 : decode cX4_indexOf 1 = .ok (.istore_n 3, 1) := by decide +kernel
theorem dX4_indexOf_2 : decode cX4_indexOf 2 = .ok (.iload_n 3, 1) := by decide +kernel
theorem dX4_indexOf_3 : decode cX4_indexOf 3 = .ok (.iload_n 1, 1) := by decide +kernel
theorem dX4_indexOf_4 : decode cX4_indexOf 4 = .ok (.iconst 1, 1) := by decide +kernel
theorem dX4_indexOf_5 : decode cX4_indexOf 5 = .ok (.isub, 1) := by decide +kernel
theorem dX4_indexOf_6 : decode cX4_indexOf 6 = .ok (.if_icmp .ge 16, 3) := by decide +kernel
theorem dX4_indexOf_9 : decode cX4_indexOf 9 = .ok (.aload_n 0, 1) := by decide +kernel
theorem dX4_indexOf_10 : decode cX4_indexOf 10 = .ok (.iload_n 3, 1) := by decide +kernel
theorem dX4_indexOf_11 : decode cX4_indexOf 11 = .ok (.iaload, 1) := by decide +kernel
theorem dX4_indexOf_12 : decode cX4_indexOf 12 = .ok (.iload_n 2, 1) := by decide +kernel
theorem dX4_indexOf_13 : decode cX4_indexOf 13 = .ok (.if_icmp .eq 9, 3) := by decide +kernel
theorem dX4_indexOf_16 : decode cX4_indexOf 16 = .ok (.iinc 3 1, 3) := by decide +kernel
theorem dX4_indexOf_19 : decode cX4_indexOf 19 = .ok (.goto (-17), 3) := by decide +kernel
theorem dX4_indexOf_22 : decode cX4_indexOf 22 = .ok (.iload_n 3, 1) := by decide +kernel
theorem dX4_indexOf_23 : decode cX4_indexOf 23 = .ok (.ireturn, 1) := by decide +kernel
theorem dX4_neighbour_0 : decode cX4_neighbour 0 = .ok (.iload_n 2, 1) := by decide +kernel
theorem dX4_neighbour_1 : decode cX4_neighbour 1 = .ok (.tableswitch 89 0 2 #[27, 54, 71], 27) := by decide +kernel
theorem dX4_neighbour_28 : decode cX4_neighbour 28 = .ok (.iload_n 1, 1) := by decide +kernel
theorem dX4_neighbour_29 : decode cX4_neighbour 29 = .ok (.bipush 18, 2) := by decide +kernel
theorem dX4_neighbour_31 : decode cX4_neighbour 31 = .ok (.if_icmp .lt 22, 3) := by decide +kernel
theorem dX4_neighbour_34 : decode cX4_neighbour 34 = .ok (.aload_n 0, 1) := by decide +kernel
theorem dX4_neighbour_35 : decode cX4_neighbour 35 = .ok (.getfield 22, 3) := by decide +kernel
theorem dX4_neighbour_38 : decode cX4_neighbour 38 = .ok (.iload_n 1, 1) := by decide +kernel
theorem dX4_neighbour_39 : decode cX4_neighbour 39 = .ok (.bipush 18, 2) := by decide +kernel
theorem dX4_neighbour_41 : decode cX4_neighbour 41 = .ok (.isub, 1) := by decide +kernel
theorem dX4_neighbour_42 : decode cX4_neighbour 42 = .ok (.baload, 1) := by decide +kernel
theorem dX4_neighbour_43 : decode cX4_neighbour 43 = .ok (.ifCond .eq 10, 3) := by decide +kernel
theorem dX4_neighbour_46 : decode cX4_neighbour 46 = .ok (.iload_n 1, 1) := by decide +kernel
theorem dX4_neighbour_47 : decode cX4_neighbour 47 = .ok (.bipush 18, 2) := by decide +kernel
theorem dX4_neighbour_49 : decode cX4_neighbour 49 = .ok (.isub, 1) := by decide +kernel
theorem dX4_neighbour_50 : decode cX4_neighbour 50 = .ok (.goto 4, 3) := by decide +kernel
theorem dX4_neighbour_53 : decode cX4_neighbour 53 = .ok (.iconst (-1), 1) := by decide +kernel
theorem dX4_neighbour_54 : decode cX4_neighbour 54 = .ok (.ireturn, 1) := by decide +kernel
theorem dX4_neighbour_55 : decode cX4_neighbour 55 = .ok (.aload_n 0, 1) := by decide +kernel
theorem dX4_neighbour_56 : decode cX4_neighbour 56 = .ok (.getfield 18, 3) := by decide +kernel
theorem dX4_neighbour_59 : decode cX4_neighbour 59 = .ok (.iload_n 1, 1) := by decide +kernel
theorem dX4_neighbour_60 : decode cX4_neighbour 60 = .ok (.baload, 1) := by decide +kernel
theorem dX4_neighbour_61 : decode cX4_neighbour 61 = .ok (.ifCond .eq 9, 3) := by decide +kernel
theorem dX4_neighbour_64 : decode cX4_neighbour 64 = .ok (.iload_n 1, 1) := by decide +kernel
theorem dX4_neighbour_65 : decode cX4_neighbour 65 = .ok (.iconst 1, 1) := by decide +kernel
theorem dX4_neighbour_66 : decode cX4_neighbour 66 = .ok (.iadd, 1) := by decide +kernel
theorem dX4_neighbour_67 : decode cX4_neighbour 67 = .ok (.goto 4, 3) := by decide +kernel
theorem dX4_neighbour_70 : decode cX4_neighbour 70 = .ok (.iconst (-1), 1) := by decide +kernel
theorem dX4_neighbour_71 : decode cX4_neighbour 71 = .ok (.ireturn, 1) := by decide +kernel
theorem dX4_neighbour_72 : decode cX4_neighbour 72 = .ok (.aload_n 0, 1) := by decide +kernel
theorem dX4_neighbour_73 : decode cX4_neighbour 73 = .ok (.getfield 22, 3) := by decide +kernel
theorem dX4_neighbour_76 : decode cX4_neighbour 76 = .ok (.iload_n 1, 1) := by decide +kernel
theorem dX4_neighbour_77 : decode cX4_neighbour 77 = .ok (.baload, 1) := by decide +kernel
theorem dX4_neighbour_78 : decode cX4_neighbour 78 = .ok (.ifCond .eq 10, 3) := by decide +kernel
theorem dX4_neighbour_81 : decode cX4_neighbour 81 = .ok (.iload_n 1, 1) := by decide +kernel
theorem dX4_neighbour_82 : decode cX4_neighbour 82 = .ok (.bipush 18, 2) := by decide +kernel
theorem dX4_neighbour_84 : decode cX4_neighbour 84 = .ok (.iadd, 1) := by decide +kernel
theorem dX4_neighbour_85 : decode cX4_neighbour 85 = .ok (.goto 4, 3) := by decide +kernel
theorem dX4_neighbour_88 : decode cX4_neighbour 88 = .ok (.iconst (-1), 1) := by decide +kernel
theorem dX4_neighbour_89 : decode cX4_neighbour 89 = .ok (.ireturn, 1) := by decide +kernel
theorem dX4_neighbour_90 : decode cX4_neighbour 90 = .ok (.iload_n 1, 1) := by decide +kernel
theorem dX4_neighbour_91 : decode cX4_neighbour 91 = .ok (.iconst 1, 1) := by decide +kernel
theorem dX4_neighbour_92 : decode cX4_neighbour 92 = .ok (.if_icmp .lt 20, 3) := by decide +kernel
theorem dX4_neighbour_95 : decode cX4_neighbour 95 = .ok (.aload_n 0, 1) := by decide +kernel
theorem dX4_neighbour_96 : decode cX4_neighbour 96 = .ok (.getfield 18, 3) := by decide +kernel
theorem dX4_neighbour_99 : decode cX4_neighbour 99 = .ok (.iload_n 1, 1) := by decide +kernel
theorem dX4_neighbour_100 : decode cX4_neighbour 100 = .ok (.iconst 1, 1) := by decide +kernel
theorem dX4_neighbour_101 : decode cX4_neighbour 101 = .ok (.isub, 1) := by decide +kernel
theorem dX4_neighbour_102 : decode cX4_neighbour 102 = .ok (.baload, 1) := by decide +kernel
theorem dX4_neighbour_103 : decode cX4_neighbour 103 = .ok (.ifCond .eq 9, 3) := by decide +kernel
theorem dX4_neighbour_106 : decode cX4_neighbour 106 = .ok (.iload_n 1, 1) := by decide +kernel
theorem dX4_neighbour_107 : decode cX4_neighbour 107 = .ok (.iconst 1, 1) := by decide +kernel
theorem dX4_neighbour_108 : decode cX4_neighbour 108 = .ok (.isub, 1) := by decide +kernel
theorem dX4_neighbour_109 : decode cX4_neighbour 109 = .ok (.goto 4, 3) := by decide +kernel
theorem dX4_neighbour_112 : decode cX4_neighbour 112 = .ok (.iconst (-1), 1) := by decide +kernel
theorem dX4_neighbour_113 : decode cX4_neighbour 113 = .ok (.ireturn, 1) := by decide +kernel
theorem dX4_xOf_0 : decode cX4_xOf 0 = .ok (.aload_n 0, 1) := by decide +kernel
theorem dX4_xOf_1 : decode cX4_xOf 1 = .ok (.getfield 11, 3) := by decide +kernel
theorem dX4_xOf_4 : decode cX4_xOf 4 = .ok (.iload_n 1, 1) := by decide +kernel
theorem dX4_xOf_5 : decode cX4_xOf 5 = .ok (.bipush 18, 2) := by decide +kernel
theorem dX4_xOf_7 : decode cX4_xOf 7 = .ok (.irem, 1) := by decide +kernel
theorem dX4_xOf_8 : decode cX4_xOf 8 = .ok (.iaload, 1) := by decide +kernel
theorem dX4_xOf_9 : decode cX4_xOf 9 = .ok (.ireturn, 1) := by decide +kernel
theorem dX4_yOf_0 : decode cX4_yOf 0 = .ok (.aload_n 0, 1) := by decide +kernel
theorem dX4_yOf_1 : decode cX4_yOf 1 = .ok (.getfield 15, 3) := by decide +kernel
theorem dX4_yOf_4 : decode cX4_yOf 4 = .ok (.iload_n 1, 1) := by decide +kernel
theorem dX4_yOf_5 : decode cX4_yOf 5 = .ok (.bipush 18, 2) := by decide +kernel
theorem dX4_yOf_7 : decode cX4_yOf 7 = .ok (.idiv, 1) := by decide +kernel
theorem dX4_yOf_8 : decode cX4_yOf 8 = .ok (.iaload, 1) := by decide +kernel
theorem dX4_yOf_9 : decode cX4_yOf 9 = .ok (.ireturn, 1) := by decide +kernel
theorem dX4_distance_0 : decode cX4_distance 0 = .ok (.aload_n 0, 1) := by decide +kernel
theorem dX4_distance_1 : decode cX4_distance 1 = .ok (.getfield 11, 3) := by decide +kernel
theorem dX4_distance_4 : decode cX4_distance 4 = .ok (.iload_n 1, 1) := by decide +kernel
theorem dX4_distance_5 : decode cX4_distance 5 = .ok (.bipush 18, 2) := by decide +kernel
theorem dX4_distance_7 : decode cX4_distance 7 = .ok (.irem, 1) := by decide +kernel
theorem dX4_distance_8 : decode cX4_distance 8 = .ok (.iaload, 1) := by decide +kernel
theorem dX4_distance_9 : decode cX4_distance 9 = .ok (.aload_n 0, 1) := by decide +kernel
theorem dX4_distance_10 : decode cX4_distance 10 = .ok (.getfield 11, 3) := by decide +kernel
theorem dX4_distance_13 : decode cX4_distance 13 = .ok (.iload_n 2, 1) := by decide +kernel
theorem dX4_distance_14 : decode cX4_distance 14 = .ok (.bipush 18, 2) := by decide +kernel
theorem dX4_distance_16 : decode cX4_distance 16 = .ok (.irem, 1) := by decide +kernel
theorem dX4_distance_17 : decode cX4_distance 17 = .ok (.iaload, 1) := by decide +kernel
theorem dX4_distance_18 : decode cX4_distance 18 = .ok (.isub, 1) := by decide +kernel
theorem dX4_distance_19 : decode cX4_distance 19 = .ok (.istore_n 3, 1) := by decide +kernel
theorem dX4_distance_20 : decode cX4_distance 20 = .ok (.aload_n 0, 1) := by decide +kernel
theorem dX4_distance_21 : decode cX4_distance 21 = .ok (.getfield 15, 3) := by decide +kernel
theorem dX4_distance_24 : decode cX4_distance 24 = .ok (.iload_n 1, 1) := by decide +kernel
theorem dX4_distance_25 : decode cX4_distance 25 = .ok (.bipush 18, 2) := by decide +kernel
theorem dX4_distance_27 : decode cX4_distance 27 = .ok (.idiv, 1) := by decide +kernel
theorem dX4_distance_28 : decode cX4_distance 28 = .ok (.iaload, 1) := by decide +kernel
theorem dX4_distance_29 : decode cX4_distance 29 = .ok (.aload_n 0, 1) := by decide +kernel
theorem dX4_distance_30 : decode cX4_distance 30 = .ok (.getfield 15, 3) := by decide +kernel
theorem dX4_distance_33 : decode cX4_distance 33 = .ok (.iload_n 2, 1) := by decide +kernel
theorem dX4_distance_34 : decode cX4_distance 34 = .ok (.bipush 18, 2) := by decide +kernel
theorem dX4_distance_36 : decode cX4_distance 36 = .ok (.idiv, 1) := by decide +kernel
theorem dX4_distance_37 : decode cX4_distance 37 = .ok (.iaload, 1) := by decide +kernel
theorem dX4_distance_38 : decode cX4_distance 38 = .ok (.isub, 1) := by decide +kernel
theorem dX4_distance_39 : decode cX4_distance 39 = .ok (.istore 4, 2) := by decide +kernel
theorem dX4_distance_41 : decode cX4_distance 41 = .ok (.iload_n 3, 1) := by decide +kernel
theorem dX4_distance_42 : decode cX4_distance 42 = .ok (.invokestatic 58, 3) := by decide +kernel
theorem dX4_distance_45 : decode cX4_distance 45 = .ok (.iload 4, 2) := by decide +kernel
theorem dX4_distance_47 : decode cX4_distance 47 = .ok (.invokestatic 58, 3) := by decide +kernel
theorem dX4_distance_50 : decode cX4_distance 50 = .ok (.iadd, 1) := by decide +kernel
theorem dX4_distance_51 : decode cX4_distance 51 = .ok (.ireturn, 1) := by decide +kernel
theorem dX5_init_0 : decode cX5_init 0 = .ok (.aload_n 0, 1) := by decide +kernel
theorem dX5_init_1 : decode cX5_init 1 = .ok (.invokespecial 1, 3) := by decide +kernel
theorem dX5_init_4 : decode cX5_init 4 = .ok (.aload_n 0, 1) := by decide +kernel
theorem dX5_init_5 : decode cX5_init 5 = .ok (.iconst 4, 1) := by decide +kernel
theorem dX5_init_6 : decode cX5_init 6 = .ok (.anewarray 9, 3) := by decide +kernel
theorem dX5_init_9 : decode cX5_init 9 = .ok (.putfield 11, 3) := by decide +kernel
theorem dX5_init_12 : decode cX5_init 12 = .ok (.iconst 0, 1) := by decide +kernel
theorem dX5_init_13 : decode cX5_init 13 = .ok (.istore_n 1, 1) := by decide +kernel
theorem dX5_init_14 : decode cX5_init 14 = .ok (.iload_n 1, 1) := by decide +kernel
theorem dX5_init_15 : decode cX5_init 15 = .ok (.iconst 4, 1) := by decide +kernel
theorem dX5_init_16 : decode cX5_init 16 = .ok (.if_icmp .ge 22, 3) := by decide +kernel
theorem dX5_init_19 : decode cX5_init 19 = .ok (.aload_n 0, 1) := by decide +kernel
theorem dX5_init_20 : decode cX5_init 20 = .ok (.getfield 11, 3) := by decide +kernel
theorem dX5_init_23 : decode cX5_init 23 = .ok (.iload_n 1, 1) := by decide +kernel
theorem dX5_init_24 : decode cX5_init 24 = .ok (.new 9, 3) := by decide +kernel
theorem dX5_init_27 : decode cX5_init 27 = .ok (.dup, 1) := by decide +kernel
theorem dX5_init_28 : decode cX5_init 28 = .ok (.invokespecial 15, 3) := by decide +kernel
theorem dX5_init_31 : decode cX5_init 31 = .ok (.aastore, 1) := by decide +kernel
theorem dX5_init_32 : decode cX5_init 32 = .ok (.iinc 1 1, 3) := by decide +kernel
theorem dX5_init_35 : decode cX5_init 35 = .ok (.goto (-21), 3) := by decide +kernel
theorem dX5_init_38 : decode cX5_init 38 = .ok (.return_, 1) := by decide +kernel
theorem dX5_keep_0 : decode cX5_keep 0 = .ok (.aload_n 0, 1) := by decide +kernel
theorem dX5_keep_1 : decode cX5_keep 1 = .ok (.getfield 16, 3) := by decide +kernel
theorem dX5_keep_4 : decode cX5_keep 4 = .ok (.iconst 4, 1) := by decide +kernel
theorem dX5_keep_5 : decode cX5_keep 5 = .ok (.if_icmp .ne 18, 3) := by decide +kernel
theorem dX5_keep_8 : decode cX5_keep 8 = .ok (.aload_n 0, 1) := by decide +kernel
theorem dX5_keep_9 : decode cX5_keep 9 = .ok (.aload_n 0, 1) := by decide +kernel
theorem dX5_keep_10 : decode cX5_keep 10 = .ok (.getfield 20, 3) := by decide +kernel
theorem dX5_keep_13 : decode cX5_keep 13 = .ok (.iconst 1, 1) := by decide +kernel
theorem dX5_keep_14 : decode cX5_keep 14 = .ok (.iadd, 1) := by decide +kernel
theorem dX5_keep_15 : decode cX5_keep 15 = .ok (.iconst 4, 1) := by decide +kernel
theorem dX5_keep_16 : decode cX5_keep 16 = .ok (.irem, 1) := by decide +kernel
theorem dX5_keep_17 : decode cX5_keep 17 = .ok (.putfield 20, 3) := by decide +kernel
theorem dX5_keep_20 : decode cX5_keep 20 = .ok (.goto 13, 3) := by decide +kernel
theorem dX5_keep_23 : decode cX5_keep 23 = .ok (.aload_n 0, 1) := by decide +kernel
theorem dX5_keep_24 : decode cX5_keep 24 = .ok (.dup, 1) := by decide +kernel
theorem dX5_keep_25 : decode cX5_keep 25 = .ok (.getfield 16, 3) := by decide +kernel
theorem dX5_keep_28 : decode cX5_keep 28 = .ok (.iconst 1, 1) := by decide +kernel
theorem dX5_keep_29 : decode cX5_keep 29 = .ok (.iadd, 1) := by decide +kernel
theorem dX5_keep_30 : decode cX5_keep 30 = .ok (.putfield 16, 3) := by decide +kernel
theorem dX5_keep_33 : decode cX5_keep 33 = .ok (.aload_n 0, 1) := by decide +kernel
theorem dX5_keep_34 : decode cX5_keep 34 = .ok (.getfield 11, 3) := by decide +kernel
theorem dX5_keep_37 : decode cX5_keep 37 = .ok (.aload_n 0, 1) := by decide +kernel
theorem dX5_keep_38 : decode cX5_keep 38 = .ok (.getfield 20, 3) := by decide +kernel
theorem dX5_keep_41 : decode cX5_keep 41 = .ok (.aload_n 0, 1) := by decide +kernel
theorem dX5_keep_42 : decode cX5_keep 42 = .ok (.getfield 16, 3) := by decide +kernel
theorem dX5_keep_45 : decode cX5_keep 45 = .ok (.iadd, 1) := by decide +kernel
theorem dX5_keep_46 : decode cX5_keep 46 = .ok (.iconst 1, 1) := by decide +kernel
theorem dX5_keep_47 : decode cX5_keep 47 = .ok (.isub, 1) := by decide +kernel
theorem dX5_keep_48 : decode cX5_keep 48 = .ok (.iconst 4, 1) := by decide +kernel
theorem dX5_keep_49 : decode cX5_keep 49 = .ok (.irem, 1) := by decide +kernel
theorem dX5_keep_50 : decode cX5_keep 50 = .ok (.aaload, 1) := by decide +kernel
theorem dX5_keep_51 : decode cX5_keep 51 = .ok (.aload_n 1, 1) := by decide +kernel
theorem dX5_keep_52 : decode cX5_keep 52 = .ok (.invokevirtual 23, 3) := by decide +kernel
theorem dX5_keep_55 : decode cX5_keep 55 = .ok (.return_, 1) := by decide +kernel
theorem dX5_restore_0 : decode cX5_restore 0 = .ok (.aload_n 0, 1) := by decide +kernel
theorem dX5_restore_1 : decode cX5_restore 1 = .ok (.dup, 1) := by decide +kernel
theorem dX5_restore_2 : decode cX5_restore 2 = .ok (.getfield 16, 3) := by decide +kernel
theorem dX5_restore_5 : decode cX5_restore 5 = .ok (.iconst 1, 1) := by decide +kernel
theorem dX5_restore_6 : decode cX5_restore 6 = .ok (.isub, 1) := by decide +kernel
theorem dX5_restore_7 : decode cX5_restore 7 = .ok (.putfield 16, 3) := by decide +kernel
theorem dX5_restore_10 : decode cX5_restore 10 = .ok (.aload_n 1, 1) := by decide +kernel
theorem dX5_restore_11 : decode cX5_restore 11 = .ok (.aload_n 0, 1) := by decide +kernel
theorem dX5_restore_12 : decode cX5_restore 12 = .ok (.getfield 11, 3) := by decide +kernel
theorem dX5_restore_15 : decode cX5_restore 15 = .ok (.aload_n 0, 1) := by decide +kernel
theorem dX5_restore_16 : decode cX5_restore 16 = .ok (.getfield 20, 3) := by decide +kernel
theorem dX5_restore_19 : decode cX5_restore 19 = .ok (.aload_n 0, 1) := by decide +kernel
theorem dX5_restore_20 : decode cX5_restore 20 = .ok (.getfield 16, 3) := by decide +kernel
theorem dX5_restore_23 : decode cX5_restore 23 = .ok (.iadd, 1) := by decide +kernel
theorem dX5_restore_24 : decode cX5_restore 24 = .ok (.iconst 4, 1) := by decide +kernel
theorem dX5_restore_25 : decode cX5_restore 25 = .ok (.irem, 1) := by decide +kernel
theorem dX5_restore_26 : decode cX5_restore 26 = .ok (.aaload, 1) := by decide +kernel
theorem dX5_restore_27 : decode cX5_restore 27 = .ok (.invokevirtual 23, 3) := by decide +kernel
theorem dX5_restore_30 : decode cX5_restore 30 = .ok (.return_, 1) := by decide +kernel
