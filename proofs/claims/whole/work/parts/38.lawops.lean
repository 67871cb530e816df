theorem lg_cmp_self (x : Int64) : lg_cmp x x = 0 := by
  unfold lg_cmp
  simp
theorem wl_c_addBox : CV RL 13 yX9_addBox cX9_addBox 6 (some .int) 4 := ⟨gT_i 362 (by decide +kernel) rfl, gT_i 363 (by decide +kernel) rfl, gT_i 364 (by decide +kernel) rfl, gT_i 77 (by decide +kernel) rfl, gT_i 365 (by decide +kernel) rfl, by decide, by decide, by decide +kernel⟩
theorem wl_m_addBox : CV RL 17 yX10_addBox cX10_addBox 5 (some .int) 4 := ⟨gT_i 1224 (by decide +kernel) rfl, gT_i 1225 (by decide +kernel) rfl, gT_i 1226 (by decide +kernel) rfl, gT_i 89 (by decide +kernel) rfl, gT_i 1227 (by decide +kernel) rfl, by decide, by decide, by decide +kernel⟩
theorem wl_c_moveBox : CV RL 18 yX9_moveBox cX9_moveBox 8 (some .int) 3 := ⟨gT_i 396 (by decide +kernel) rfl, gT_i 397 (by decide +kernel) rfl, gT_i 398 (by decide +kernel) rfl, gT_i 77 (by decide +kernel) rfl, gT_i 399 (by decide +kernel) rfl, by decide, by decide, by decide +kernel⟩
theorem wl_m_moveBox : CV RL 22 yX10_moveBox cX10_moveBox 10 (some .int) 3 := ⟨gT_i 1251 (by decide +kernel) rfl, gT_i 1252 (by decide +kernel) rfl, gT_i 1253 (by decide +kernel) rfl, gT_i 89 (by decide +kernel) rfl, gT_i 1254 (by decide +kernel) rfl, by decide, by decide, by decide +kernel⟩
theorem wl_c_box : CV RL 23 yX9_box cX9_box 3 (some .int) 2 := ⟨gT_i 478 (by decide +kernel) rfl, gT_i 479 (by decide +kernel) rfl, gT_i 480 (by decide +kernel) rfl, gT_i 77 (by decide +kernel) rfl, gT_i 481 (by decide +kernel) rfl, by decide, by decide, by decide +kernel⟩
theorem wl_m_box : CV RL 27 yX10_box cX10_box 5 (some .int) 2 := ⟨gT_i 1293 (by decide +kernel) rfl, gT_i 1294 (by decide +kernel) rfl, gT_i 1295 (by decide +kernel) rfl, gT_i 89 (by decide +kernel) rfl, gT_i 1296 (by decide +kernel) rfl, by decide, by decide, by decide +kernel⟩
theorem wl_c_blocker : CV RL 28 yX9_blocker cX9_blocker 4 (some .int) 2 := ⟨gT_i 486 (by decide +kernel) rfl, gT_i 487 (by decide +kernel) rfl, gT_i 488 (by decide +kernel) rfl, gT_i 77 (by decide +kernel) rfl, gT_i 489 (by decide +kernel) rfl, by decide, by decide, by decide +kernel⟩
theorem wl_m_blocker : CV RL 31 yX10_blocker cX10_blocker 3 (some .int) 2 := ⟨gT_i 1297 (by decide +kernel) rfl, gT_i 1298 (by decide +kernel) rfl, gT_i 1299 (by decide +kernel) rfl, gT_i 89 (by decide +kernel) rfl, gT_i 1300 (by decide +kernel) rfl, by decide, by decide, by decide +kernel⟩
theorem wl_c_link : CV RL 32 yX9_link cX9_link 8 (some .int) 6 := ⟨gT_i 491 (by decide +kernel) rfl, gT_i 492 (by decide +kernel) rfl, gT_i 493 (by decide +kernel) rfl, gT_i 77 (by decide +kernel) rfl, gT_i 494 (by decide +kernel) rfl, by decide, by decide, by decide +kernel⟩
theorem wl_m_link : CV RL 36 yX10_link cX10_link 9 (some .int) 6 := ⟨gT_i 1301 (by decide +kernel) rfl, gT_i 1302 (by decide +kernel) rfl, gT_i 1303 (by decide +kernel) rfl, gT_i 89 (by decide +kernel) rfl, gT_i 1304 (by decide +kernel) rfl, by decide, by decide, by decide +kernel⟩
theorem wl_c_drop : CV RL 37 yX9_drop cX9_drop 2 (some .int) 1 := ⟨gT_i 503 (by decide +kernel) rfl, gT_i 504 (by decide +kernel) rfl, gT_i 505 (by decide +kernel) rfl, gT_i 77 (by decide +kernel) rfl, gT_i 506 (by decide +kernel) rfl, by decide, by decide, by decide +kernel⟩
theorem wl_m_drop : CV RL 41 yX10_drop cX10_drop 4 (some .int) 1 := ⟨gT_i 1313 (by decide +kernel) rfl, gT_i 1314 (by decide +kernel) rfl, gT_i 1315 (by decide +kernel) rfl, gT_i 89 (by decide +kernel) rfl, gT_i 1316 (by decide +kernel) rfl, by decide, by decide, by decide +kernel⟩
theorem wl_c_setPenalty : CV RL 42 yX9_setPenalty cX9_setPenalty 3 (some .int) 1 := ⟨gT_i 515 (by decide +kernel) rfl, gT_i 516 (by decide +kernel) rfl, gT_i 517 (by decide +kernel) rfl, gT_i 77 (by decide +kernel) rfl, gT_i 518 (by decide +kernel) rfl, by decide, by decide, by decide +kernel⟩
theorem wl_m_setPenalty : CV RL 45 yX10_setPenalty cX10_setPenalty 3 (some .int) 1 := ⟨gT_i 1321 (by decide +kernel) rfl, gT_i 1322 (by decide +kernel) rfl, gT_i 1323 (by decide +kernel) rfl, gT_i 89 (by decide +kernel) rfl, gT_i 1324 (by decide +kernel) rfl, by decide, by decide, by decide +kernel⟩
theorem wl_c_count : CV RL 46 yX9_count cX9_count 2 (some .int) 1 := ⟨gT_i 519 (by decide +kernel) rfl, gT_i 520 (by decide +kernel) rfl, gT_i 521 (by decide +kernel) rfl, gT_i 77 (by decide +kernel) rfl, gT_i 522 (by decide +kernel) rfl, by decide, by decide, by decide +kernel⟩
theorem wl_m_count : CV RL 49 yX10_count cX10_count 5 (some .int) 1 := ⟨gT_i 1325 (by decide +kernel) rfl, gT_i 1326 (by decide +kernel) rfl, gT_i 1327 (by decide +kernel) rfl, gT_i 89 (by decide +kernel) rfl, gT_i 1328 (by decide +kernel) rfl, by decide, by decide, by decide +kernel⟩
theorem wl_c_connector : CV RL 50 yX9_connector cX9_connector 3 (some .int) 2 := ⟨gT_i 548 (by decide +kernel) rfl, gT_i 549 (by decide +kernel) rfl, gT_i 550 (by decide +kernel) rfl, gT_i 77 (by decide +kernel) rfl, gT_i 551 (by decide +kernel) rfl, by decide, by decide, by decide +kernel⟩
theorem wl_m_connector : CV RL 53 yX10_connector cX10_connector 3 (some .int) 2 := ⟨gT_i 1357 (by decide +kernel) rfl, gT_i 1358 (by decide +kernel) rfl, gT_i 1359 (by decide +kernel) rfl, gT_i 89 (by decide +kernel) rfl, gT_i 1360 (by decide +kernel) rfl, by decide, by decide, by decide +kernel⟩
theorem wl_c_route : CV RL 54 yX9_route cX9_route 3 (some .int) 1 := ⟨gT_i 556 (by decide +kernel) rfl, gT_i 557 (by decide +kernel) rfl, gT_i 558 (by decide +kernel) rfl, gT_i 77 (by decide +kernel) rfl, gT_i 559 (by decide +kernel) rfl, by decide, by decide, by decide +kernel⟩
theorem wl_m_route : CV RL 57 yX10_route cX10_route 4 (some .int) 1 := ⟨gT_i 1361 (by decide +kernel) rfl, gT_i 1362 (by decide +kernel) rfl, gT_i 1363 (by decide +kernel) rfl, gT_i 89 (by decide +kernel) rfl, gT_i 1364 (by decide +kernel) rfl, by decide, by decide, by decide +kernel⟩
theorem wl_c_routeAll : CV RL 58 yX9_routeAll cX9_routeAll 4 (some .int) 0 := ⟨gT_i 734 (by decide +kernel) rfl, gT_i 735 (by decide +kernel) rfl, gT_i 736 (by decide +kernel) rfl, gT_i 77 (by decide +kernel) rfl, gT_i 737 (by decide +kernel) rfl, by decide, by decide, by decide +kernel⟩
theorem wl_m_routeAll : CV RL 62 yX10_routeAll cX10_routeAll 4 (some .int) 0 := ⟨gT_i 1426 (by decide +kernel) rfl, gT_i 1427 (by decide +kernel) rfl, gT_i 1428 (by decide +kernel) rfl, gT_i 89 (by decide +kernel) rfl, gT_i 1429 (by decide +kernel) rfl, by decide, by decide, by decide +kernel⟩
theorem wl_c_reroute : CV RL 63 yX9_reroute cX9_reroute 4 (some .int) 0 := ⟨gT_i 738 (by decide +kernel) rfl, gT_i 739 (by decide +kernel) rfl, gT_i 740 (by decide +kernel) rfl, gT_i 77 (by decide +kernel) rfl, gT_i 741 (by decide +kernel) rfl, by decide, by decide, by decide +kernel⟩
theorem wl_m_reroute : CV RL 66 yX10_reroute cX10_reroute 1 (some .int) 0 := ⟨gT_i 1430 (by decide +kernel) rfl, gT_i 1431 (by decide +kernel) rfl, gT_i 1432 (by decide +kernel) rfl, gT_i 89 (by decide +kernel) rfl, gT_i 1433 (by decide +kernel) rfl, by decide, by decide, by decide +kernel⟩
theorem wl_c_refresh : CV RL 67 yX9_refresh cX9_refresh 5 (some .int) 0 := ⟨gT_i 742 (by decide +kernel) rfl, gT_i 743 (by decide +kernel) rfl, gT_i 744 (by decide +kernel) rfl, gT_i 77 (by decide +kernel) rfl, gT_i 745 (by decide +kernel) rfl, by decide, by decide, by decide +kernel⟩
theorem wl_m_refresh : CV RL 70 yX10_refresh cX10_refresh 1 (some .int) 0 := ⟨gT_i 1438 (by decide +kernel) rfl, gT_i 1439 (by decide +kernel) rfl, gT_i 1440 (by decide +kernel) rfl, gT_i 89 (by decide +kernel) rfl, gT_i 1441 (by decide +kernel) rfl, by decide, by decide, by decide +kernel⟩
theorem wl_c_best : CV RL 71 yX9_best cX9_best 2 (some .int) 1 := ⟨gT_i 746 (by decide +kernel) rfl, gT_i 747 (by decide +kernel) rfl, gT_i 748 (by decide +kernel) rfl, gT_i 77 (by decide +kernel) rfl, gT_i 749 (by decide +kernel) rfl, by decide, by decide, by decide +kernel⟩
theorem wl_m_best : CV RL 74 yX10_best cX10_best 2 (some .int) 1 := ⟨gT_i 1442 (by decide +kernel) rfl, gT_i 1443 (by decide +kernel) rfl, gT_i 1444 (by decide +kernel) rfl, gT_i 89 (by decide +kernel) rfl, gT_i 1445 (by decide +kernel) rfl, by decide, by decide, by decide +kernel⟩
theorem wl_c_measure : CV RL 75 yX9_measure cX9_measure 4 (some .int) 2 := ⟨gT_i 750 (by decide +kernel) rfl, gT_i 751 (by decide +kernel) rfl, gT_i 752 (by decide +kernel) rfl, gT_i 77 (by decide +kernel) rfl, gT_i 753 (by decide +kernel) rfl, by decide, by decide, by decide +kernel⟩
theorem wl_m_measure : CV RL 78 yX10_measure cX10_measure 3 (some .int) 2 := ⟨gT_i 1446 (by decide +kernel) rfl, gT_i 1447 (by decide +kernel) rfl, gT_i 1448 (by decide +kernel) rfl, gT_i 89 (by decide +kernel) rfl, gT_i 1449 (by decide +kernel) rfl, by decide, by decide, by decide +kernel⟩
theorem wl_c_corner : CV RL 79 yX9_corner cX9_corner 5 (some .int) 3 := ⟨gT_i 760 (by decide +kernel) rfl, gT_i 761 (by decide +kernel) rfl, gT_i 762 (by decide +kernel) rfl, gT_i 77 (by decide +kernel) rfl, gT_i 763 (by decide +kernel) rfl, by decide, by decide, by decide +kernel⟩
theorem wl_m_corner : CV RL 82 yX10_corner cX10_corner 4 (some .int) 3 := ⟨gT_i 1454 (by decide +kernel) rfl, gT_i 1455 (by decide +kernel) rfl, gT_i 1456 (by decide +kernel) rfl, gT_i 89 (by decide +kernel) rfl, gT_i 1457 (by decide +kernel) rfl, by decide, by decide, by decide +kernel⟩
theorem wl_c_isOn : CV RL 83 yX9_isOn cX9_isOn 5 (some .int) 3 := ⟨gT_i 769 (by decide +kernel) rfl, gT_i 770 (by decide +kernel) rfl, gT_i 771 (by decide +kernel) rfl, gT_i 77 (by decide +kernel) rfl, gT_i 772 (by decide +kernel) rfl, by decide, by decide, by decide +kernel⟩
theorem wl_m_isOn : CV RL 86 yX10_isOn cX10_isOn 8 (some .int) 3 := ⟨gT_i 1462 (by decide +kernel) rfl, gT_i 1463 (by decide +kernel) rfl, gT_i 1464 (by decide +kernel) rfl, gT_i 89 (by decide +kernel) rfl, gT_i 1465 (by decide +kernel) rfl, by decide, by decide, by decide +kernel⟩
theorem wl_c_crossings : CV RL 87 yX9_crossings cX9_crossings 3 (some .int) 2 := ⟨gT_i 782 (by decide +kernel) rfl, gT_i 783 (by decide +kernel) rfl, gT_i 784 (by decide +kernel) rfl, gT_i 77 (by decide +kernel) rfl, gT_i 785 (by decide +kernel) rfl, by decide, by decide, by decide +kernel⟩
theorem wl_m_crossings : CV RL 90 yX10_crossings cX10_crossings 3 (some .int) 2 := ⟨gT_i 1466 (by decide +kernel) rfl, gT_i 1467 (by decide +kernel) rfl, gT_i 1468 (by decide +kernel) rfl, gT_i 89 (by decide +kernel) rfl, gT_i 1469 (by decide +kernel) rfl, by decide, by decide, by decide +kernel⟩
theorem wl_c_shared : CV RL 91 yX9_shared cX9_shared 5 (some .int) 2 := ⟨gT_i 787 (by decide +kernel) rfl, gT_i 788 (by decide +kernel) rfl, gT_i 789 (by decide +kernel) rfl, gT_i 77 (by decide +kernel) rfl, gT_i 790 (by decide +kernel) rfl, by decide, by decide, by decide +kernel⟩
theorem wl_m_shared : CV RL 94 yX10_shared cX10_shared 6 (some .int) 2 := ⟨gT_i 1470 (by decide +kernel) rfl, gT_i 1471 (by decide +kernel) rfl, gT_i 1472 (by decide +kernel) rfl, gT_i 89 (by decide +kernel) rfl, gT_i 1473 (by decide +kernel) rfl, by decide, by decide, by decide +kernel⟩
theorem wl_c_lane : CV RL 95 yX9_lane cX9_lane 7 (some .int) 3 := ⟨gT_i 795 (by decide +kernel) rfl, gT_i 796 (by decide +kernel) rfl, gT_i 797 (by decide +kernel) rfl, gT_i 77 (by decide +kernel) rfl, gT_i 798 (by decide +kernel) rfl, by decide, by decide, by decide +kernel⟩
theorem wl_m_lane : CV RL 98 yX10_lane cX10_lane 8 (some .int) 3 := ⟨gT_i 1481 (by decide +kernel) rfl, gT_i 1482 (by decide +kernel) rfl, gT_i 1483 (by decide +kernel) rfl, gT_i 89 (by decide +kernel) rfl, gT_i 1484 (by decide +kernel) rfl, by decide, by decide, by decide +kernel⟩
theorem wl_c_write : CV RL 99 yX9_write cX9_write 4 (some .int) 1 := ⟨gT_i 849 (by decide +kernel) rfl, gT_i 850 (by decide +kernel) rfl, gT_i 851 (by decide +kernel) rfl, gT_i 77 (by decide +kernel) rfl, gT_i 852 (by decide +kernel) rfl, by decide, by decide, by decide +kernel⟩
theorem wl_m_write : CV RL 102 yX10_write cX10_write 4 (some .int) 1 := ⟨gT_i 1501 (by decide +kernel) rfl, gT_i 1502 (by decide +kernel) rfl, gT_i 1503 (by decide +kernel) rfl, gT_i 89 (by decide +kernel) rfl, gT_i 1504 (by decide +kernel) rfl, by decide, by decide, by decide +kernel⟩
theorem wl_c_written : CV RL 103 yX9_written cX9_written 2 (some .int) 1 := ⟨gT_i 1000 (by decide +kernel) rfl, gT_i 1001 (by decide +kernel) rfl, gT_i 1002 (by decide +kernel) rfl, gT_i 77 (by decide +kernel) rfl, gT_i 1003 (by decide +kernel) rfl, by decide, by decide, by decide +kernel⟩
theorem wl_m_written : CV RL 106 yX10_written cX10_written 2 (some .int) 1 := ⟨gT_i 1513 (by decide +kernel) rfl, gT_i 1514 (by decide +kernel) rfl, gT_i 1515 (by decide +kernel) rfl, gT_i 89 (by decide +kernel) rfl, gT_i 1516 (by decide +kernel) rfl, by decide, by decide, by decide +kernel⟩
theorem wl_c_type : CV RL 107 yX9_type cX9_type 2 (some .int) 1 := ⟨gT_i 1016 (by decide +kernel) rfl, gT_i 1017 (by decide +kernel) rfl, gT_i 1018 (by decide +kernel) rfl, gT_i 77 (by decide +kernel) rfl, gT_i 1019 (by decide +kernel) rfl, by decide, by decide, by decide +kernel⟩
theorem wl_m_type : CV RL 110 yX10_type cX10_type 2 (some .int) 1 := ⟨gT_i 1517 (by decide +kernel) rfl, gT_i 1518 (by decide +kernel) rfl, gT_i 1519 (by decide +kernel) rfl, gT_i 89 (by decide +kernel) rfl, gT_i 1520 (by decide +kernel) rfl, by decide, by decide, by decide +kernel⟩
theorem wl_c_clearText : CV RL 111 yX9_clearText cX9_clearText 2 (some .int) 0 := ⟨gT_i 1024 (by decide +kernel) rfl, gT_i 1025 (by decide +kernel) rfl, gT_i 1026 (by decide +kernel) rfl, gT_i 77 (by decide +kernel) rfl, gT_i 1027 (by decide +kernel) rfl, by decide, by decide, by decide +kernel⟩
theorem wl_m_clearText : CV RL 114 yX10_clearText cX10_clearText 2 (some .int) 0 := ⟨gT_i 1521 (by decide +kernel) rfl, gT_i 1522 (by decide +kernel) rfl, gT_i 1523 (by decide +kernel) rfl, gT_i 89 (by decide +kernel) rfl, gT_i 1524 (by decide +kernel) rfl, by decide, by decide, by decide +kernel⟩
theorem wl_c_textFault : CV RL 115 yX9_textFault cX9_textFault 1 (some .int) 0 := ⟨gT_i 1028 (by decide +kernel) rfl, gT_i 1029 (by decide +kernel) rfl, gT_i 1030 (by decide +kernel) rfl, gT_i 77 (by decide +kernel) rfl, gT_i 1031 (by decide +kernel) rfl, by decide, by decide, by decide +kernel⟩
theorem wl_m_textFault : CV RL 118 yX10_textFault cX10_textFault 2 (some .int) 0 := ⟨gT_i 1525 (by decide +kernel) rfl, gT_i 1526 (by decide +kernel) rfl, gT_i 1527 (by decide +kernel) rfl, gT_i 89 (by decide +kernel) rfl, gT_i 1528 (by decide +kernel) rfl, by decide, by decide, by decide +kernel⟩
theorem wl_c_run : CV RL 119 yX9_run cX9_run 3 (some .int) 0 := ⟨gT_i 1101 (by decide +kernel) rfl, gT_i 1102 (by decide +kernel) rfl, gT_i 1103 (by decide +kernel) rfl, gT_i 77 (by decide +kernel) rfl, gT_i 1104 (by decide +kernel) rfl, by decide, by decide, by decide +kernel⟩
theorem wl_m_run : CV RL 122 yX10_run cX10_run 2 (some .int) 0 := ⟨gT_i 1559 (by decide +kernel) rfl, gT_i 1560 (by decide +kernel) rfl, gT_i 1561 (by decide +kernel) rfl, gT_i 89 (by decide +kernel) rfl, gT_i 1562 (by decide +kernel) rfl, by decide, by decide, by decide +kernel⟩
theorem wl_c_undo : CV RL 123 yX9_undo cX9_undo 1 (some .int) 0 := ⟨gT_i 1120 (by decide +kernel) rfl, gT_i 1121 (by decide +kernel) rfl, gT_i 1122 (by decide +kernel) rfl, gT_i 77 (by decide +kernel) rfl, gT_i 1123 (by decide +kernel) rfl, by decide, by decide, by decide +kernel⟩
theorem wl_m_undo : CV RL 126 yX10_undo cX10_undo 1 (some .int) 0 := ⟨gT_i 1563 (by decide +kernel) rfl, gT_i 1564 (by decide +kernel) rfl, gT_i 1565 (by decide +kernel) rfl, gT_i 89 (by decide +kernel) rfl, gT_i 1566 (by decide +kernel) rfl, by decide, by decide, by decide +kernel⟩
theorem wl_c_digest : CV RL 127 yX9_digest cX9_digest 5 (some .long) 0 := ⟨gT_i 1128 (by decide +kernel) rfl, gT_i 1129 (by decide +kernel) rfl, gT_i 1130 (by decide +kernel) rfl, gT_i 77 (by decide +kernel) rfl, gT_i 1131 (by decide +kernel) rfl, by decide, by decide, by decide +kernel⟩
theorem wl_m_digest : CV RL 131 yX10_digest cX10_digest 3 (some .long) 0 := ⟨gT_i 1567 (by decide +kernel) rfl, gT_i 1568 (by decide +kernel) rfl, gT_i 1569 (by decide +kernel) rfl, gT_i 89 (by decide +kernel) rfl, gT_i 1570 (by decide +kernel) rfl, by decide, by decide, by decide +kernel⟩
def S_addBox (I : Nat → CSt → MS → Prop) (F : Nat) : Prop := ∀ (k : Nat) (σ : CSt) (τ : MS) (z1 : Int32) (z2 : Int32) (z3 : Int32) (z4 : Int32), k < 512 → I k σ τ → ∃ (r : Int32) (σ' : CSt) (τ' : MS), fc_X9_addBox F σ z1 z2 z3 z4 = some (r, σ') ∧ fm_addBox F τ z1 z2 z3 z4 = some (r, τ') ∧ Sres I k σ σ' τ'
set_option maxHeartbeats 4000000 in
set_option maxRecDepth 100000 in
theorem lo_addBox {p : Program} {l : Launch} {e : Env} {s : State} {m : MethodId} {below : List Frame} {meth : Method} {c : Code} {b L : Nat} {xs : Nat → Int32} {D : va_G} {cA : Nat → ClassId} {ad am : Nat → Nat} {I : Nat → CSt → MS → Prop} {F k : Nat} {i : Int32} (hk : k < 512) (hI : ∀ k σ τ, I k σ τ → cs_nc σ ≤ 1000 * k ∧ cs_ns σ ≤ 14000 * k) (hs : S_addBox I F) (hx : ∀ j : Nat, j < 7 → vp_in (i + Int32.ofNat j) L) (X : LwF p s m c b L xs D cA ad) (kk : GoOn p l e s m below meth c b D cA ad am (I (k + 1)) i 947) : GoOn p l e s m below meth c b D cA ad am (I k) i 160 := by
  intro σ τ η H locs cells slots ls hJ hP hM hD hS hc hsl hl
  obtain ⟨C, hK, hZ, hX, hb⟩ := X
  obtain ⟨r, σ', τ', hf, hg, hi, hm1, hm2⟩ := hs k σ τ (xs (i + 1).toNatClampNeg) (xs (i + 2).toNatClampNeg) (xs (i + 3).toNatClampNeg) (xs (i + 4).toNatClampNeg) hk hJ
  obtain ⟨hi1, hi2⟩ := hI _ _ _ hi
  refine lv_aload_n C.1 C.2.1 dL_law_160 rfl (lv_at hl 2 rfl) ?_
  refine lv_aload_n C.1 C.2.1 dL_law_161 rfl (lv_at hl 3 rfl) ?_
  refine lv_iload_n C.1 C.2.1 dL_law_162 rfl (lv_at hl 0 rfl) ?_
  refine lv_iconst (v := (1 : Int32)) C.1 C.2.1 dL_law_163 (by decide) ?_
  refine lv_iadd C.1 C.2.1 dL_law_164 ?_
  refine va_sld C.1 C.2.1 hX hb (lw_bA hb) hS (hx 1 (by decide)) dL_law_165 ?_
  refine lv_aload_n C.1 C.2.1 dL_law_166 rfl (lv_at hl 3 rfl) ?_
  refine lv_iload_n C.1 C.2.1 dL_law_167 rfl (lv_at hl 0 rfl) ?_
  refine lv_iconst (v := (2 : Int32)) C.1 C.2.1 dL_law_168 (by decide) ?_
  refine lv_iadd C.1 C.2.1 dL_law_169 ?_
  refine va_sld C.1 C.2.1 hX hb (lw_bA hb) hS (hx 2 (by decide)) dL_law_170 ?_
  refine lv_aload_n C.1 C.2.1 dL_law_171 rfl (lv_at hl 3 rfl) ?_
  refine lv_iload_n C.1 C.2.1 dL_law_172 rfl (lv_at hl 0 rfl) ?_
  refine lv_iconst (v := (3 : Int32)) C.1 C.2.1 dL_law_173 (by decide) ?_
  refine lv_iadd C.1 C.2.1 dL_law_174 ?_
  refine va_sld C.1 C.2.1 hX hb (lw_bA hb) hS (hx 3 (by decide)) dL_law_175 ?_
  refine lv_aload_n C.1 C.2.1 dL_law_176 rfl (lv_at hl 3 rfl) ?_
  refine lv_iload_n C.1 C.2.1 dL_law_177 rfl (lv_at hl 0 rfl) ?_
  refine lv_iconst (v := (4 : Int32)) C.1 C.2.1 dL_law_178 (by decide) ?_
  refine lv_iadd C.1 C.2.1 dL_law_179 ?_
  refine va_sld C.1 C.2.1 hX hb (lw_bA hb) hS (hx 4 (by decide)) dL_law_180 ?_
  refine lawE (b := ad 0) (As := [.int (xs (i + 1).toNatClampNeg), .int (xs (i + 2).toNatClampNeg), .int (xs (i + 3).toNatClampNeg), .int (xs (i + 4).toNatClampNeg)]) (rest := []) C hK hZ hP hM hD nwA_le hS wl_c_addBox hl (kc_X9_addBox l D cA ad σ η F (xs (i + 1).toNatClampNeg) (xs (i + 2).toNatClampNeg) (xs (i + 3).toNatClampNeg) (xs (i + 4).toNatClampNeg) r σ' hf) (lw_rcX hK hP) rfl rfl rfl (Nat.le_of_ble_eq_true rfl) ⟨by show cells + 0 ≤ 600000; omega, by show slots + 0 ≤ 7302250; omega⟩ dL_law_181 (fun η H locs hP hM hD hS => ?_)
  generalize hc9 : cells + 0 = cells1
  generalize hs9 : slots + 0 = slots1
  refine lv_aload_n C.1 C.2.1 dL_law_184 rfl (lv_at hl 1 rfl) ?_
  refine lv_aload_n C.1 C.2.1 dL_law_185 rfl (lv_at hl 3 rfl) ?_
  refine lv_iload_n C.1 C.2.1 dL_law_186 rfl (lv_at hl 0 rfl) ?_
  refine lv_iconst (v := (1 : Int32)) C.1 C.2.1 dL_law_187 (by decide) ?_
  refine lv_iadd C.1 C.2.1 dL_law_188 ?_
  refine va_sld C.1 C.2.1 hX hb (lw_bA hb) hS (hx 1 (by decide)) dL_law_189 ?_
  refine lv_aload_n C.1 C.2.1 dL_law_190 rfl (lv_at hl 3 rfl) ?_
  refine lv_iload_n C.1 C.2.1 dL_law_191 rfl (lv_at hl 0 rfl) ?_
  refine lv_iconst (v := (2 : Int32)) C.1 C.2.1 dL_law_192 (by decide) ?_
  refine lv_iadd C.1 C.2.1 dL_law_193 ?_
  refine va_sld C.1 C.2.1 hX hb (lw_bA hb) hS (hx 2 (by decide)) dL_law_194 ?_
  refine lv_aload_n C.1 C.2.1 dL_law_195 rfl (lv_at hl 3 rfl) ?_
  refine lv_iload_n C.1 C.2.1 dL_law_196 rfl (lv_at hl 0 rfl) ?_
  refine lv_iconst (v := (3 : Int32)) C.1 C.2.1 dL_law_197 (by decide) ?_
  refine lv_iadd C.1 C.2.1 dL_law_198 ?_
  refine va_sld C.1 C.2.1 hX hb (lw_bA hb) hS (hx 3 (by decide)) dL_law_199 ?_
  refine lv_aload_n C.1 C.2.1 dL_law_200 rfl (lv_at hl 3 rfl) ?_
  refine lv_iload_n C.1 C.2.1 dL_law_201 rfl (lv_at hl 0 rfl) ?_
  refine lv_iconst (v := (4 : Int32)) C.1 C.2.1 dL_law_202 (by decide) ?_
  refine lv_iadd C.1 C.2.1 dL_law_203 ?_
  refine va_sld C.1 C.2.1 hX hb (lw_bA hb) hS (hx 4 (by decide)) dL_law_204 ?_
  refine lawW (b := am 0) (As := [.int (xs (i + 1).toNatClampNeg), .int (xs (i + 2).toNatClampNeg), .int (xs (i + 3).toNatClampNeg), .int (xs (i + 4).toNatClampNeg)]) (rest := [.int r]) C hK hP hM hD nwA_le hS wl_m_addBox hl (km_addBox l D cA am τ F (xs (i + 1).toNatClampNeg) (xs (i + 2).toNatClampNeg) (xs (i + 3).toNatClampNeg) (xs (i + 4).toNatClampNeg) r τ' hg) (lw_rcM hK hM) rfl rfl rfl (Nat.le_of_ble_eq_true rfl) ⟨by show cells1 + 0 ≤ 600000; omega, by show slots1 + 0 ≤ 7302250; omega⟩ dL_law_205 (fun H locs hP hM hD hS => ?_)
  refine lv_icmp_eq (tgt := 947) C.1 C.2.1 dL_law_208 (by decide) (fun _ => ?_) (fun c9 => absurd rfl c9)
  exact kk σ' τ' _ _ _ _ _ ls hi hP hM hD hS (by omega) (by omega) hl
def S_moveBox (I : Nat → CSt → MS → Prop) (F : Nat) : Prop := ∀ (k : Nat) (σ : CSt) (τ : MS) (z1 : Int32) (z2 : Int32) (z3 : Int32), k < 512 → I k σ τ → ∃ (r : Int32) (σ' : CSt) (τ' : MS), fc_X9_moveBox F σ z1 z2 z3 = some (r, σ') ∧ fm_moveBox F τ z1 z2 z3 = some (r, τ') ∧ Sres I k σ σ' τ'
set_option maxHeartbeats 4000000 in
set_option maxRecDepth 100000 in
theorem lo_moveBox {p : Program} {l : Launch} {e : Env} {s : State} {m : MethodId} {below : List Frame} {meth : Method} {c : Code} {b L : Nat} {xs : Nat → Int32} {D : va_G} {cA : Nat → ClassId} {ad am : Nat → Nat} {I : Nat → CSt → MS → Prop} {F k : Nat} {i : Int32} (hk : k < 512) (hI : ∀ k σ τ, I k σ τ → cs_nc σ ≤ 1000 * k ∧ cs_ns σ ≤ 14000 * k) (hs : S_moveBox I F) (hx : ∀ j : Nat, j < 7 → vp_in (i + Int32.ofNat j) L) (X : LwF p s m c b L xs D cA ad) (kk : GoOn p l e s m below meth c b D cA ad am (I (k + 1)) i 947) : GoOn p l e s m below meth c b D cA ad am (I k) i 213 := by
  intro σ τ η H locs cells slots ls hJ hP hM hD hS hc hsl hl
  obtain ⟨C, hK, hZ, hX, hb⟩ := X
  obtain ⟨r, σ', τ', hf, hg, hi, hm1, hm2⟩ := hs k σ τ (xs (i + 1).toNatClampNeg) (xs (i + 2).toNatClampNeg) (xs (i + 3).toNatClampNeg) hk hJ
  obtain ⟨hi1, hi2⟩ := hI _ _ _ hi
  refine lv_aload_n C.1 C.2.1 dL_law_213 rfl (lv_at hl 2 rfl) ?_
  refine lv_aload_n C.1 C.2.1 dL_law_214 rfl (lv_at hl 3 rfl) ?_
  refine lv_iload_n C.1 C.2.1 dL_law_215 rfl (lv_at hl 0 rfl) ?_
  refine lv_iconst (v := (1 : Int32)) C.1 C.2.1 dL_law_216 (by decide) ?_
  refine lv_iadd C.1 C.2.1 dL_law_217 ?_
  refine va_sld C.1 C.2.1 hX hb (lw_bA hb) hS (hx 1 (by decide)) dL_law_218 ?_
  refine lv_aload_n C.1 C.2.1 dL_law_219 rfl (lv_at hl 3 rfl) ?_
  refine lv_iload_n C.1 C.2.1 dL_law_220 rfl (lv_at hl 0 rfl) ?_
  refine lv_iconst (v := (2 : Int32)) C.1 C.2.1 dL_law_221 (by decide) ?_
  refine lv_iadd C.1 C.2.1 dL_law_222 ?_
  refine va_sld C.1 C.2.1 hX hb (lw_bA hb) hS (hx 2 (by decide)) dL_law_223 ?_
  refine lv_aload_n C.1 C.2.1 dL_law_224 rfl (lv_at hl 3 rfl) ?_
  refine lv_iload_n C.1 C.2.1 dL_law_225 rfl (lv_at hl 0 rfl) ?_
  refine lv_iconst (v := (3 : Int32)) C.1 C.2.1 dL_law_226 (by decide) ?_
  refine lv_iadd C.1 C.2.1 dL_law_227 ?_
  refine va_sld C.1 C.2.1 hX hb (lw_bA hb) hS (hx 3 (by decide)) dL_law_228 ?_
  refine lawE (b := ad 0) (As := [.int (xs (i + 1).toNatClampNeg), .int (xs (i + 2).toNatClampNeg), .int (xs (i + 3).toNatClampNeg)]) (rest := []) C hK hZ hP hM hD nwA_le hS wl_c_moveBox hl (kc_X9_moveBox l D cA ad σ η F (xs (i + 1).toNatClampNeg) (xs (i + 2).toNatClampNeg) (xs (i + 3).toNatClampNeg) r σ' hf) (lw_rcX hK hP) rfl rfl rfl (Nat.le_of_ble_eq_true rfl) ⟨by show cells + 0 ≤ 600000; omega, by show slots + 0 ≤ 7302250; omega⟩ dL_law_229 (fun η H locs hP hM hD hS => ?_)
  generalize hc9 : cells + 0 = cells1
  generalize hs9 : slots + 0 = slots1
  refine lv_aload_n C.1 C.2.1 dL_law_232 rfl (lv_at hl 1 rfl) ?_
  refine lv_aload_n C.1 C.2.1 dL_law_233 rfl (lv_at hl 3 rfl) ?_
  refine lv_iload_n C.1 C.2.1 dL_law_234 rfl (lv_at hl 0 rfl) ?_
  refine lv_iconst (v := (1 : Int32)) C.1 C.2.1 dL_law_235 (by decide) ?_
  refine lv_iadd C.1 C.2.1 dL_law_236 ?_
  refine va_sld C.1 C.2.1 hX hb (lw_bA hb) hS (hx 1 (by decide)) dL_law_237 ?_
  refine lv_aload_n C.1 C.2.1 dL_law_238 rfl (lv_at hl 3 rfl) ?_
  refine lv_iload_n C.1 C.2.1 dL_law_239 rfl (lv_at hl 0 rfl) ?_
  refine lv_iconst (v := (2 : Int32)) C.1 C.2.1 dL_law_240 (by decide) ?_
  refine lv_iadd C.1 C.2.1 dL_law_241 ?_
  refine va_sld C.1 C.2.1 hX hb (lw_bA hb) hS (hx 2 (by decide)) dL_law_242 ?_
  refine lv_aload_n C.1 C.2.1 dL_law_243 rfl (lv_at hl 3 rfl) ?_
  refine lv_iload_n C.1 C.2.1 dL_law_244 rfl (lv_at hl 0 rfl) ?_
  refine lv_iconst (v := (3 : Int32)) C.1 C.2.1 dL_law_245 (by decide) ?_
  refine lv_iadd C.1 C.2.1 dL_law_246 ?_
  refine va_sld C.1 C.2.1 hX hb (lw_bA hb) hS (hx 3 (by decide)) dL_law_247 ?_
  refine lawW (b := am 0) (As := [.int (xs (i + 1).toNatClampNeg), .int (xs (i + 2).toNatClampNeg), .int (xs (i + 3).toNatClampNeg)]) (rest := [.int r]) C hK hP hM hD nwA_le hS wl_m_moveBox hl (km_moveBox l D cA am τ F (xs (i + 1).toNatClampNeg) (xs (i + 2).toNatClampNeg) (xs (i + 3).toNatClampNeg) r τ' hg) (lw_rcM hK hM) rfl rfl rfl (Nat.le_of_ble_eq_true rfl) ⟨by show cells1 + 0 ≤ 600000; omega, by show slots1 + 0 ≤ 7302250; omega⟩ dL_law_248 (fun H locs hP hM hD hS => ?_)
  refine lv_icmp_eq (tgt := 947) C.1 C.2.1 dL_law_251 (by decide) (fun _ => ?_) (fun c9 => absurd rfl c9)
  exact kk σ' τ' _ _ _ _ _ ls hi hP hM hD hS (by omega) (by omega) hl
def S_box (I : Nat → CSt → MS → Prop) (F : Nat) : Prop := ∀ (k : Nat) (σ : CSt) (τ : MS) (z1 : Int32) (z2 : Int32), k < 512 → I k σ τ → ∃ (r : Int32), fc_X9_box F σ z1 z2 = some r ∧ fm_box F τ z1 z2 = some r ∧ Sres I k σ σ τ
set_option maxHeartbeats 4000000 in
set_option maxRecDepth 100000 in
theorem lo_box {p : Program} {l : Launch} {e : Env} {s : State} {m : MethodId} {below : List Frame} {meth : Method} {c : Code} {b L : Nat} {xs : Nat → Int32} {D : va_G} {cA : Nat → ClassId} {ad am : Nat → Nat} {I : Nat → CSt → MS → Prop} {F k : Nat} {i : Int32} (hk : k < 512) (hI : ∀ k σ τ, I k σ τ → cs_nc σ ≤ 1000 * k ∧ cs_ns σ ≤ 14000 * k) (hs : S_box I F) (hx : ∀ j : Nat, j < 7 → vp_in (i + Int32.ofNat j) L) (X : LwF p s m c b L xs D cA ad) (kk : GoOn p l e s m below meth c b D cA ad am (I (k + 1)) i 947) : GoOn p l e s m below meth c b D cA ad am (I k) i 256 := by
  intro σ τ η H locs cells slots ls hJ hP hM hD hS hc hsl hl
  obtain ⟨C, hK, hZ, hX, hb⟩ := X
  obtain ⟨r, hf, hg, hi, hm1, hm2⟩ := hs k σ τ (xs (i + 1).toNatClampNeg) (xs (i + 2).toNatClampNeg) hk hJ
  obtain ⟨hi1, hi2⟩ := hI _ _ _ hi
  refine lv_aload_n C.1 C.2.1 dL_law_256 rfl (lv_at hl 2 rfl) ?_
  refine lv_aload_n C.1 C.2.1 dL_law_257 rfl (lv_at hl 3 rfl) ?_
  refine lv_iload_n C.1 C.2.1 dL_law_258 rfl (lv_at hl 0 rfl) ?_
  refine lv_iconst (v := (1 : Int32)) C.1 C.2.1 dL_law_259 (by decide) ?_
  refine lv_iadd C.1 C.2.1 dL_law_260 ?_
  refine va_sld C.1 C.2.1 hX hb (lw_bA hb) hS (hx 1 (by decide)) dL_law_261 ?_
  refine lv_aload_n C.1 C.2.1 dL_law_262 rfl (lv_at hl 3 rfl) ?_
  refine lv_iload_n C.1 C.2.1 dL_law_263 rfl (lv_at hl 0 rfl) ?_
  refine lv_iconst (v := (2 : Int32)) C.1 C.2.1 dL_law_264 (by decide) ?_
  refine lv_iadd C.1 C.2.1 dL_law_265 ?_
  refine va_sld C.1 C.2.1 hX hb (lw_bA hb) hS (hx 2 (by decide)) dL_law_266 ?_
  refine cV_go (runRVc (b := ad 0) (As := [.int (xs (i + 1).toNatClampNeg), .int (xs (i + 2).toNatClampNeg)]) (rest := []) C hK hP hZ hS wl_c_box hl (kc_X9_box l D cA ad σ η F (xs (i + 1).toNatClampNeg) (xs (i + 2).toNatClampNeg) r hf) (lw_rcX hK hP) rfl rfl rfl (Nat.le_of_ble_eq_true rfl) ⟨by show cells + 0 ≤ 600000; omega, by show slots + 0 ≤ 7302250; omega⟩ dL_law_267) ?_
  refine lv_aload_n C.1 C.2.1 dL_law_270 rfl (lv_at hl 1 rfl) ?_
  refine lv_aload_n C.1 C.2.1 dL_law_271 rfl (lv_at hl 3 rfl) ?_
  refine lv_iload_n C.1 C.2.1 dL_law_272 rfl (lv_at hl 0 rfl) ?_
  refine lv_iconst (v := (1 : Int32)) C.1 C.2.1 dL_law_273 (by decide) ?_
  refine lv_iadd C.1 C.2.1 dL_law_274 ?_
  refine va_sld C.1 C.2.1 hX hb (lw_bA hb) hS (hx 1 (by decide)) dL_law_275 ?_
  refine lv_aload_n C.1 C.2.1 dL_law_276 rfl (lv_at hl 3 rfl) ?_
  refine lv_iload_n C.1 C.2.1 dL_law_277 rfl (lv_at hl 0 rfl) ?_
  refine lv_iconst (v := (2 : Int32)) C.1 C.2.1 dL_law_278 (by decide) ?_
  refine lv_iadd C.1 C.2.1 dL_law_279 ?_
  refine va_sld C.1 C.2.1 hX hb (lw_bA hb) hS (hx 2 (by decide)) dL_law_280 ?_
  refine callRV (b := am 0) (As := [.int (xs (i + 1).toNatClampNeg), .int (xs (i + 2).toNatClampNeg)]) (rest := [.int r]) C hK hM wl_m_box hl (km_box l D cA am τ F (xs (i + 1).toNatClampNeg) (xs (i + 2).toNatClampNeg) r hg) (lw_rcM hK hM) rfl rfl rfl (Nat.le_of_ble_eq_true rfl) ⟨by show cells + 0 ≤ 600000; omega, by show slots + 0 ≤ 7302250; omega⟩ dL_law_281 ?_
  refine lv_icmp_eq (tgt := 947) C.1 C.2.1 dL_law_284 (by decide) (fun _ => ?_) (fun c9 => absurd rfl c9)
  exact kk σ τ _ _ _ _ _ ls hi hP hM hD hS (by omega) (by omega) hl
def S_blocker (I : Nat → CSt → MS → Prop) (F : Nat) : Prop := ∀ (k : Nat) (σ : CSt) (τ : MS) (z1 : Int32) (z2 : Int32), k < 512 → I k σ τ → ∃ (r : Int32), fc_X9_blocker F σ z1 z2 = some r ∧ fm_blocker F τ z1 z2 = some r ∧ Sres I k σ σ τ
set_option maxHeartbeats 4000000 in
set_option maxRecDepth 100000 in
theorem lo_blocker {p : Program} {l : Launch} {e : Env} {s : State} {m : MethodId} {below : List Frame} {meth : Method} {c : Code} {b L : Nat} {xs : Nat → Int32} {D : va_G} {cA : Nat → ClassId} {ad am : Nat → Nat} {I : Nat → CSt → MS → Prop} {F k : Nat} {i : Int32} (hk : k < 512) (hI : ∀ k σ τ, I k σ τ → cs_nc σ ≤ 1000 * k ∧ cs_ns σ ≤ 14000 * k) (hs : S_blocker I F) (hx : ∀ j : Nat, j < 7 → vp_in (i + Int32.ofNat j) L) (X : LwF p s m c b L xs D cA ad) (kk : GoOn p l e s m below meth c b D cA ad am (I (k + 1)) i 947) : GoOn p l e s m below meth c b D cA ad am (I k) i 289 := by
  intro σ τ η H locs cells slots ls hJ hP hM hD hS hc hsl hl
  obtain ⟨C, hK, hZ, hX, hb⟩ := X
  obtain ⟨r, hf, hg, hi, hm1, hm2⟩ := hs k σ τ (xs (i + 1).toNatClampNeg) (xs (i + 2).toNatClampNeg) hk hJ
  obtain ⟨hi1, hi2⟩ := hI _ _ _ hi
  refine lv_aload_n C.1 C.2.1 dL_law_289 rfl (lv_at hl 2 rfl) ?_
  refine lv_aload_n C.1 C.2.1 dL_law_290 rfl (lv_at hl 3 rfl) ?_
  refine lv_iload_n C.1 C.2.1 dL_law_291 rfl (lv_at hl 0 rfl) ?_
  refine lv_iconst (v := (1 : Int32)) C.1 C.2.1 dL_law_292 (by decide) ?_
  refine lv_iadd C.1 C.2.1 dL_law_293 ?_
  refine va_sld C.1 C.2.1 hX hb (lw_bA hb) hS (hx 1 (by decide)) dL_law_294 ?_
  refine lv_aload_n C.1 C.2.1 dL_law_295 rfl (lv_at hl 3 rfl) ?_
  refine lv_iload_n C.1 C.2.1 dL_law_296 rfl (lv_at hl 0 rfl) ?_
  refine lv_iconst (v := (2 : Int32)) C.1 C.2.1 dL_law_297 (by decide) ?_
  refine lv_iadd C.1 C.2.1 dL_law_298 ?_
  refine va_sld C.1 C.2.1 hX hb (lw_bA hb) hS (hx 2 (by decide)) dL_law_299 ?_
  refine cV_go (runRVc (b := ad 0) (As := [.int (xs (i + 1).toNatClampNeg), .int (xs (i + 2).toNatClampNeg)]) (rest := []) C hK hP hZ hS wl_c_blocker hl (kc_X9_blocker l D cA ad σ η F (xs (i + 1).toNatClampNeg) (xs (i + 2).toNatClampNeg) r hf) (lw_rcX hK hP) rfl rfl rfl (Nat.le_of_ble_eq_true rfl) ⟨by show cells + 0 ≤ 600000; omega, by show slots + 0 ≤ 7302250; omega⟩ dL_law_300) ?_
  refine lv_aload_n C.1 C.2.1 dL_law_303 rfl (lv_at hl 1 rfl) ?_
  refine lv_aload_n C.1 C.2.1 dL_law_304 rfl (lv_at hl 3 rfl) ?_
  refine lv_iload_n C.1 C.2.1 dL_law_305 rfl (lv_at hl 0 rfl) ?_
  refine lv_iconst (v := (1 : Int32)) C.1 C.2.1 dL_law_306 (by decide) ?_
  refine lv_iadd C.1 C.2.1 dL_law_307 ?_
  refine va_sld C.1 C.2.1 hX hb (lw_bA hb) hS (hx 1 (by decide)) dL_law_308 ?_
  refine lv_aload_n C.1 C.2.1 dL_law_309 rfl (lv_at hl 3 rfl) ?_
  refine lv_iload_n C.1 C.2.1 dL_law_310 rfl (lv_at hl 0 rfl) ?_
  refine lv_iconst (v := (2 : Int32)) C.1 C.2.1 dL_law_311 (by decide) ?_
  refine lv_iadd C.1 C.2.1 dL_law_312 ?_
  refine va_sld C.1 C.2.1 hX hb (lw_bA hb) hS (hx 2 (by decide)) dL_law_313 ?_
  refine callRV (b := am 0) (As := [.int (xs (i + 1).toNatClampNeg), .int (xs (i + 2).toNatClampNeg)]) (rest := [.int r]) C hK hM wl_m_blocker hl (km_blocker l D cA am τ F (xs (i + 1).toNatClampNeg) (xs (i + 2).toNatClampNeg) r hg) (lw_rcM hK hM) rfl rfl rfl (Nat.le_of_ble_eq_true rfl) ⟨by show cells + 0 ≤ 600000; omega, by show slots + 0 ≤ 7302250; omega⟩ dL_law_314 ?_
  refine lv_icmp_eq (tgt := 947) C.1 C.2.1 dL_law_317 (by decide) (fun _ => ?_) (fun c9 => absurd rfl c9)
  exact kk σ τ _ _ _ _ _ ls hi hP hM hD hS (by omega) (by omega) hl
def S_link (I : Nat → CSt → MS → Prop) (F : Nat) : Prop := ∀ (k : Nat) (σ : CSt) (τ : MS) (z1 : Int32) (z2 : Int32) (z3 : Int32) (z4 : Int32) (z5 : Int32) (z6 : Int32), k < 512 → I k σ τ → ∃ (r : Int32) (σ' : CSt) (τ' : MS), fc_X9_link F σ z1 z2 z3 z4 z5 z6 = some (r, σ') ∧ fm_link F τ z1 z2 z3 z4 z5 z6 = some (r, τ') ∧ Sres I k σ σ' τ'
set_option maxHeartbeats 4000000 in
set_option maxRecDepth 100000 in
theorem lo_link {p : Program} {l : Launch} {e : Env} {s : State} {m : MethodId} {below : List Frame} {meth : Method} {c : Code} {b L : Nat} {xs : Nat → Int32} {D : va_G} {cA : Nat → ClassId} {ad am : Nat → Nat} {I : Nat → CSt → MS → Prop} {F k : Nat} {i : Int32} (hk : k < 512) (hI : ∀ k σ τ, I k σ τ → cs_nc σ ≤ 1000 * k ∧ cs_ns σ ≤ 14000 * k) (hs : S_link I F) (hx : ∀ j : Nat, j < 7 → vp_in (i + Int32.ofNat j) L) (X : LwF p s m c b L xs D cA ad) (kk : GoOn p l e s m below meth c b D cA ad am (I (k + 1)) i 947) : GoOn p l e s m below meth c b D cA ad am (I k) i 322 := by
  intro σ τ η H locs cells slots ls hJ hP hM hD hS hc hsl hl
  obtain ⟨C, hK, hZ, hX, hb⟩ := X
  obtain ⟨r, σ', τ', hf, hg, hi, hm1, hm2⟩ := hs k σ τ (xs (i + 1).toNatClampNeg) (xs (i + 2).toNatClampNeg) (xs (i + 3).toNatClampNeg) (xs (i + 4).toNatClampNeg) (xs (i + 5).toNatClampNeg) (xs (i + 6).toNatClampNeg) hk hJ
  obtain ⟨hi1, hi2⟩ := hI _ _ _ hi
  refine lv_aload_n C.1 C.2.1 dL_law_322 rfl (lv_at hl 2 rfl) ?_
  refine lv_aload_n C.1 C.2.1 dL_law_323 rfl (lv_at hl 3 rfl) ?_
  refine lv_iload_n C.1 C.2.1 dL_law_324 rfl (lv_at hl 0 rfl) ?_
  refine lv_iconst (v := (1 : Int32)) C.1 C.2.1 dL_law_325 (by decide) ?_
  refine lv_iadd C.1 C.2.1 dL_law_326 ?_
  refine va_sld C.1 C.2.1 hX hb (lw_bA hb) hS (hx 1 (by decide)) dL_law_327 ?_
  refine lv_aload_n C.1 C.2.1 dL_law_328 rfl (lv_at hl 3 rfl) ?_
  refine lv_iload_n C.1 C.2.1 dL_law_329 rfl (lv_at hl 0 rfl) ?_
  refine lv_iconst (v := (2 : Int32)) C.1 C.2.1 dL_law_330 (by decide) ?_
  refine lv_iadd C.1 C.2.1 dL_law_331 ?_
  refine va_sld C.1 C.2.1 hX hb (lw_bA hb) hS (hx 2 (by decide)) dL_law_332 ?_
  refine lv_aload_n C.1 C.2.1 dL_law_333 rfl (lv_at hl 3 rfl) ?_
  refine lv_iload_n C.1 C.2.1 dL_law_334 rfl (lv_at hl 0 rfl) ?_
  refine lv_iconst (v := (3 : Int32)) C.1 C.2.1 dL_law_335 (by decide) ?_
  refine lv_iadd C.1 C.2.1 dL_law_336 ?_
  refine va_sld C.1 C.2.1 hX hb (lw_bA hb) hS (hx 3 (by decide)) dL_law_337 ?_
  refine lv_aload_n C.1 C.2.1 dL_law_338 rfl (lv_at hl 3 rfl) ?_
  refine lv_iload_n C.1 C.2.1 dL_law_339 rfl (lv_at hl 0 rfl) ?_
  refine lv_iconst (v := (4 : Int32)) C.1 C.2.1 dL_law_340 (by decide) ?_
  refine lv_iadd C.1 C.2.1 dL_law_341 ?_
  refine va_sld C.1 C.2.1 hX hb (lw_bA hb) hS (hx 4 (by decide)) dL_law_342 ?_
  refine lv_aload_n C.1 C.2.1 dL_law_343 rfl (lv_at hl 3 rfl) ?_
  refine lv_iload_n C.1 C.2.1 dL_law_344 rfl (lv_at hl 0 rfl) ?_
  refine lv_iconst (v := (5 : Int32)) C.1 C.2.1 dL_law_345 (by decide) ?_
  refine lv_iadd C.1 C.2.1 dL_law_346 ?_
  refine va_sld C.1 C.2.1 hX hb (lw_bA hb) hS (hx 5 (by decide)) dL_law_347 ?_
  refine lv_aload_n C.1 C.2.1 dL_law_348 rfl (lv_at hl 3 rfl) ?_
  refine lv_iload_n C.1 C.2.1 dL_law_349 rfl (lv_at hl 0 rfl) ?_
  refine lv_bipush (v := (6 : Int32)) C.1 C.2.1 dL_law_350 (by decide) ?_
  refine lv_iadd C.1 C.2.1 dL_law_352 ?_
  refine va_sld C.1 C.2.1 hX hb (lw_bA hb) hS (hx 6 (by decide)) dL_law_353 ?_
  refine lawE (b := ad 0) (As := [.int (xs (i + 1).toNatClampNeg), .int (xs (i + 2).toNatClampNeg), .int (xs (i + 3).toNatClampNeg), .int (xs (i + 4).toNatClampNeg), .int (xs (i + 5).toNatClampNeg), .int (xs (i + 6).toNatClampNeg)]) (rest := []) C hK hZ hP hM hD nwA_le hS wl_c_link hl (kc_X9_link l D cA ad σ η F (xs (i + 1).toNatClampNeg) (xs (i + 2).toNatClampNeg) (xs (i + 3).toNatClampNeg) (xs (i + 4).toNatClampNeg) (xs (i + 5).toNatClampNeg) (xs (i + 6).toNatClampNeg) r σ' hf) (lw_rcX hK hP) rfl rfl rfl (Nat.le_of_ble_eq_true rfl) ⟨by show cells + 0 ≤ 600000; omega, by show slots + 0 ≤ 7302250; omega⟩ dL_law_354 (fun η H locs hP hM hD hS => ?_)
  generalize hc9 : cells + 0 = cells1
  generalize hs9 : slots + 0 = slots1
  refine lv_aload_n C.1 C.2.1 dL_law_357 rfl (lv_at hl 1 rfl) ?_
  refine lv_aload_n C.1 C.2.1 dL_law_358 rfl (lv_at hl 3 rfl) ?_
  refine lv_iload_n C.1 C.2.1 dL_law_359 rfl (lv_at hl 0 rfl) ?_
  refine lv_iconst (v := (1 : Int32)) C.1 C.2.1 dL_law_360 (by decide) ?_
  refine lv_iadd C.1 C.2.1 dL_law_361 ?_
  refine va_sld C.1 C.2.1 hX hb (lw_bA hb) hS (hx 1 (by decide)) dL_law_362 ?_
  refine lv_aload_n C.1 C.2.1 dL_law_363 rfl (lv_at hl 3 rfl) ?_
  refine lv_iload_n C.1 C.2.1 dL_law_364 rfl (lv_at hl 0 rfl) ?_
  refine lv_iconst (v := (2 : Int32)) C.1 C.2.1 dL_law_365 (by decide) ?_
  refine lv_iadd C.1 C.2.1 dL_law_366 ?_
  refine va_sld C.1 C.2.1 hX hb (lw_bA hb) hS (hx 2 (by decide)) dL_law_367 ?_
  refine lv_aload_n C.1 C.2.1 dL_law_368 rfl (lv_at hl 3 rfl) ?_
  refine lv_iload_n C.1 C.2.1 dL_law_369 rfl (lv_at hl 0 rfl) ?_
  refine lv_iconst (v := (3 : Int32)) C.1 C.2.1 dL_law_370 (by decide) ?_
  refine lv_iadd C.1 C.2.1 dL_law_371 ?_
  refine va_sld C.1 C.2.1 hX hb (lw_bA hb) hS (hx 3 (by decide)) dL_law_372 ?_
  refine lv_aload_n C.1 C.2.1 dL_law_373 rfl (lv_at hl 3 rfl) ?_
  refine lv_iload_n C.1 C.2.1 dL_law_374 rfl (lv_at hl 0 rfl) ?_
  refine lv_iconst (v := (4 : Int32)) C.1 C.2.1 dL_law_375 (by decide) ?_
  refine lv_iadd C.1 C.2.1 dL_law_376 ?_
  refine va_sld C.1 C.2.1 hX hb (lw_bA hb) hS (hx 4 (by decide)) dL_law_377 ?_
  refine lv_aload_n C.1 C.2.1 dL_law_378 rfl (lv_at hl 3 rfl) ?_
  refine lv_iload_n C.1 C.2.1 dL_law_379 rfl (lv_at hl 0 rfl) ?_
  refine lv_iconst (v := (5 : Int32)) C.1 C.2.1 dL_law_380 (by decide) ?_
  refine lv_iadd C.1 C.2.1 dL_law_381 ?_
  refine va_sld C.1 C.2.1 hX hb (lw_bA hb) hS (hx 5 (by decide)) dL_law_382 ?_
  refine lv_aload_n C.1 C.2.1 dL_law_383 rfl (lv_at hl 3 rfl) ?_
  refine lv_iload_n C.1 C.2.1 dL_law_384 rfl (lv_at hl 0 rfl) ?_
  refine lv_bipush (v := (6 : Int32)) C.1 C.2.1 dL_law_385 (by decide) ?_
  refine lv_iadd C.1 C.2.1 dL_law_387 ?_
  refine va_sld C.1 C.2.1 hX hb (lw_bA hb) hS (hx 6 (by decide)) dL_law_388 ?_
  refine lawW (b := am 0) (As := [.int (xs (i + 1).toNatClampNeg), .int (xs (i + 2).toNatClampNeg), .int (xs (i + 3).toNatClampNeg), .int (xs (i + 4).toNatClampNeg), .int (xs (i + 5).toNatClampNeg), .int (xs (i + 6).toNatClampNeg)]) (rest := [.int r]) C hK hP hM hD nwA_le hS wl_m_link hl (km_link l D cA am τ F (xs (i + 1).toNatClampNeg) (xs (i + 2).toNatClampNeg) (xs (i + 3).toNatClampNeg) (xs (i + 4).toNatClampNeg) (xs (i + 5).toNatClampNeg) (xs (i + 6).toNatClampNeg) r τ' hg) (lw_rcM hK hM) rfl rfl rfl (Nat.le_of_ble_eq_true rfl) ⟨by show cells1 + 0 ≤ 600000; omega, by show slots1 + 0 ≤ 7302250; omega⟩ dL_law_389 (fun H locs hP hM hD hS => ?_)
  refine lv_icmp_eq (tgt := 947) C.1 C.2.1 dL_law_392 (by decide) (fun _ => ?_) (fun c9 => absurd rfl c9)
  exact kk σ' τ' _ _ _ _ _ ls hi hP hM hD hS (by omega) (by omega) hl
def S_drop (I : Nat → CSt → MS → Prop) (F : Nat) : Prop := ∀ (k : Nat) (σ : CSt) (τ : MS) (z1 : Int32), k < 512 → I k σ τ → ∃ (r : Int32) (σ' : CSt) (τ' : MS), fc_X9_drop F σ z1 = some (r, σ') ∧ fm_drop F τ z1 = some (r, τ') ∧ Sres I k σ σ' τ'
set_option maxHeartbeats 4000000 in
set_option maxRecDepth 100000 in
theorem lo_drop {p : Program} {l : Launch} {e : Env} {s : State} {m : MethodId} {below : List Frame} {meth : Method} {c : Code} {b L : Nat} {xs : Nat → Int32} {D : va_G} {cA : Nat → ClassId} {ad am : Nat → Nat} {I : Nat → CSt → MS → Prop} {F k : Nat} {i : Int32} (hk : k < 512) (hI : ∀ k σ τ, I k σ τ → cs_nc σ ≤ 1000 * k ∧ cs_ns σ ≤ 14000 * k) (hs : S_drop I F) (hx : ∀ j : Nat, j < 7 → vp_in (i + Int32.ofNat j) L) (X : LwF p s m c b L xs D cA ad) (kk : GoOn p l e s m below meth c b D cA ad am (I (k + 1)) i 947) : GoOn p l e s m below meth c b D cA ad am (I k) i 397 := by
  intro σ τ η H locs cells slots ls hJ hP hM hD hS hc hsl hl
  obtain ⟨C, hK, hZ, hX, hb⟩ := X
  obtain ⟨r, σ', τ', hf, hg, hi, hm1, hm2⟩ := hs k σ τ (xs (i + 1).toNatClampNeg) hk hJ
  obtain ⟨hi1, hi2⟩ := hI _ _ _ hi
  refine lv_aload_n C.1 C.2.1 dL_law_397 rfl (lv_at hl 2 rfl) ?_
  refine lv_aload_n C.1 C.2.1 dL_law_398 rfl (lv_at hl 3 rfl) ?_
  refine lv_iload_n C.1 C.2.1 dL_law_399 rfl (lv_at hl 0 rfl) ?_
  refine lv_iconst (v := (1 : Int32)) C.1 C.2.1 dL_law_400 (by decide) ?_
  refine lv_iadd C.1 C.2.1 dL_law_401 ?_
  refine va_sld C.1 C.2.1 hX hb (lw_bA hb) hS (hx 1 (by decide)) dL_law_402 ?_
  refine lawE (b := ad 0) (As := [.int (xs (i + 1).toNatClampNeg)]) (rest := []) C hK hZ hP hM hD nwA_le hS wl_c_drop hl (kc_X9_drop l D cA ad σ η F (xs (i + 1).toNatClampNeg) r σ' hf) (lw_rcX hK hP) rfl rfl rfl (Nat.le_of_ble_eq_true rfl) ⟨by show cells + 0 ≤ 600000; omega, by show slots + 0 ≤ 7302250; omega⟩ dL_law_403 (fun η H locs hP hM hD hS => ?_)
  generalize hc9 : cells + 0 = cells1
  generalize hs9 : slots + 0 = slots1
  refine lv_aload_n C.1 C.2.1 dL_law_406 rfl (lv_at hl 1 rfl) ?_
  refine lv_aload_n C.1 C.2.1 dL_law_407 rfl (lv_at hl 3 rfl) ?_
  refine lv_iload_n C.1 C.2.1 dL_law_408 rfl (lv_at hl 0 rfl) ?_
  refine lv_iconst (v := (1 : Int32)) C.1 C.2.1 dL_law_409 (by decide) ?_
  refine lv_iadd C.1 C.2.1 dL_law_410 ?_
  refine va_sld C.1 C.2.1 hX hb (lw_bA hb) hS (hx 1 (by decide)) dL_law_411 ?_
  refine lawW (b := am 0) (As := [.int (xs (i + 1).toNatClampNeg)]) (rest := [.int r]) C hK hP hM hD nwA_le hS wl_m_drop hl (km_drop l D cA am τ F (xs (i + 1).toNatClampNeg) r τ' hg) (lw_rcM hK hM) rfl rfl rfl (Nat.le_of_ble_eq_true rfl) ⟨by show cells1 + 0 ≤ 600000; omega, by show slots1 + 0 ≤ 7302250; omega⟩ dL_law_412 (fun H locs hP hM hD hS => ?_)
  refine lv_icmp_eq (tgt := 947) C.1 C.2.1 dL_law_415 (by decide) (fun _ => ?_) (fun c9 => absurd rfl c9)
  exact kk σ' τ' _ _ _ _ _ ls hi hP hM hD hS (by omega) (by omega) hl
def S_setPenalty (I : Nat → CSt → MS → Prop) (F : Nat) : Prop := ∀ (k : Nat) (σ : CSt) (τ : MS) (z1 : Int32), k < 512 → I k σ τ → ∃ (r : Int32) (σ' : CSt) (τ' : MS), fc_X9_setPenalty F σ z1 = some (r, σ') ∧ fm_setPenalty F τ z1 = some (r, τ') ∧ Sres I k σ σ' τ'
set_option maxHeartbeats 4000000 in
set_option maxRecDepth 100000 in
theorem lo_setPenalty {p : Program} {l : Launch} {e : Env} {s : State} {m : MethodId} {below : List Frame} {meth : Method} {c : Code} {b L : Nat} {xs : Nat → Int32} {D : va_G} {cA : Nat → ClassId} {ad am : Nat → Nat} {I : Nat → CSt → MS → Prop} {F k : Nat} {i : Int32} (hk : k < 512) (hI : ∀ k σ τ, I k σ τ → cs_nc σ ≤ 1000 * k ∧ cs_ns σ ≤ 14000 * k) (hs : S_setPenalty I F) (hx : ∀ j : Nat, j < 7 → vp_in (i + Int32.ofNat j) L) (X : LwF p s m c b L xs D cA ad) (kk : GoOn p l e s m below meth c b D cA ad am (I (k + 1)) i 947) : GoOn p l e s m below meth c b D cA ad am (I k) i 420 := by
  intro σ τ η H locs cells slots ls hJ hP hM hD hS hc hsl hl
  obtain ⟨C, hK, hZ, hX, hb⟩ := X
  obtain ⟨r, σ', τ', hf, hg, hi, hm1, hm2⟩ := hs k σ τ (xs (i + 1).toNatClampNeg) hk hJ
  obtain ⟨hi1, hi2⟩ := hI _ _ _ hi
  refine lv_aload_n C.1 C.2.1 dL_law_420 rfl (lv_at hl 2 rfl) ?_
  refine lv_aload_n C.1 C.2.1 dL_law_421 rfl (lv_at hl 3 rfl) ?_
  refine lv_iload_n C.1 C.2.1 dL_law_422 rfl (lv_at hl 0 rfl) ?_
  refine lv_iconst (v := (1 : Int32)) C.1 C.2.1 dL_law_423 (by decide) ?_
  refine lv_iadd C.1 C.2.1 dL_law_424 ?_
  refine va_sld C.1 C.2.1 hX hb (lw_bA hb) hS (hx 1 (by decide)) dL_law_425 ?_
  refine lawE (b := ad 0) (As := [.int (xs (i + 1).toNatClampNeg)]) (rest := []) C hK hZ hP hM hD nwA_le hS wl_c_setPenalty hl (kc_X9_setPenalty l D cA ad σ η F (xs (i + 1).toNatClampNeg) r σ' hf) (lw_rcX hK hP) rfl rfl rfl (Nat.le_of_ble_eq_true rfl) ⟨by show cells + 0 ≤ 600000; omega, by show slots + 0 ≤ 7302250; omega⟩ dL_law_426 (fun η H locs hP hM hD hS => ?_)
  generalize hc9 : cells + 0 = cells1
  generalize hs9 : slots + 0 = slots1
  refine lv_aload_n C.1 C.2.1 dL_law_429 rfl (lv_at hl 1 rfl) ?_
  refine lv_aload_n C.1 C.2.1 dL_law_430 rfl (lv_at hl 3 rfl) ?_
  refine lv_iload_n C.1 C.2.1 dL_law_431 rfl (lv_at hl 0 rfl) ?_
  refine lv_iconst (v := (1 : Int32)) C.1 C.2.1 dL_law_432 (by decide) ?_
  refine lv_iadd C.1 C.2.1 dL_law_433 ?_
  refine va_sld C.1 C.2.1 hX hb (lw_bA hb) hS (hx 1 (by decide)) dL_law_434 ?_
  refine lawW (b := am 0) (As := [.int (xs (i + 1).toNatClampNeg)]) (rest := [.int r]) C hK hP hM hD nwA_le hS wl_m_setPenalty hl (km_setPenalty l D cA am τ F (xs (i + 1).toNatClampNeg) r τ' hg) (lw_rcM hK hM) rfl rfl rfl (Nat.le_of_ble_eq_true rfl) ⟨by show cells1 + 0 ≤ 600000; omega, by show slots1 + 0 ≤ 7302250; omega⟩ dL_law_435 (fun H locs hP hM hD hS => ?_)
  refine lv_icmp_eq (tgt := 947) C.1 C.2.1 dL_law_438 (by decide) (fun _ => ?_) (fun c9 => absurd rfl c9)
  exact kk σ' τ' _ _ _ _ _ ls hi hP hM hD hS (by omega) (by omega) hl
def S_count (I : Nat → CSt → MS → Prop) (F : Nat) : Prop := ∀ (k : Nat) (σ : CSt) (τ : MS) (z1 : Int32), k < 512 → I k σ τ → ∃ (r : Int32), fc_X9_count F σ z1 = some r ∧ fm_count F τ z1 = some r ∧ Sres I k σ σ τ
set_option maxHeartbeats 4000000 in
set_option maxRecDepth 100000 in
theorem lo_count {p : Program} {l : Launch} {e : Env} {s : State} {m : MethodId} {below : List Frame} {meth : Method} {c : Code} {b L : Nat} {xs : Nat → Int32} {D : va_G} {cA : Nat → ClassId} {ad am : Nat → Nat} {I : Nat → CSt → MS → Prop} {F k : Nat} {i : Int32} (hk : k < 512) (hI : ∀ k σ τ, I k σ τ → cs_nc σ ≤ 1000 * k ∧ cs_ns σ ≤ 14000 * k) (hs : S_count I F) (hx : ∀ j : Nat, j < 7 → vp_in (i + Int32.ofNat j) L) (X : LwF p s m c b L xs D cA ad) (kk : GoOn p l e s m below meth c b D cA ad am (I (k + 1)) i 947) : GoOn p l e s m below meth c b D cA ad am (I k) i 443 := by
  intro σ τ η H locs cells slots ls hJ hP hM hD hS hc hsl hl
  obtain ⟨C, hK, hZ, hX, hb⟩ := X
  obtain ⟨r, hf, hg, hi, hm1, hm2⟩ := hs k σ τ (xs (i + 1).toNatClampNeg) hk hJ
  obtain ⟨hi1, hi2⟩ := hI _ _ _ hi
  refine lv_aload_n C.1 C.2.1 dL_law_443 rfl (lv_at hl 2 rfl) ?_
  refine lv_aload_n C.1 C.2.1 dL_law_444 rfl (lv_at hl 3 rfl) ?_
  refine lv_iload_n C.1 C.2.1 dL_law_445 rfl (lv_at hl 0 rfl) ?_
  refine lv_iconst (v := (1 : Int32)) C.1 C.2.1 dL_law_446 (by decide) ?_
  refine lv_iadd C.1 C.2.1 dL_law_447 ?_
  refine va_sld C.1 C.2.1 hX hb (lw_bA hb) hS (hx 1 (by decide)) dL_law_448 ?_
  refine cV_go (runRVc (b := ad 0) (As := [.int (xs (i + 1).toNatClampNeg)]) (rest := []) C hK hP hZ hS wl_c_count hl (kc_X9_count l D cA ad σ η F (xs (i + 1).toNatClampNeg) r hf) (lw_rcX hK hP) rfl rfl rfl (Nat.le_of_ble_eq_true rfl) ⟨by show cells + 0 ≤ 600000; omega, by show slots + 0 ≤ 7302250; omega⟩ dL_law_449) ?_
  refine lv_aload_n C.1 C.2.1 dL_law_452 rfl (lv_at hl 1 rfl) ?_
  refine lv_aload_n C.1 C.2.1 dL_law_453 rfl (lv_at hl 3 rfl) ?_
  refine lv_iload_n C.1 C.2.1 dL_law_454 rfl (lv_at hl 0 rfl) ?_
  refine lv_iconst (v := (1 : Int32)) C.1 C.2.1 dL_law_455 (by decide) ?_
  refine lv_iadd C.1 C.2.1 dL_law_456 ?_
  refine va_sld C.1 C.2.1 hX hb (lw_bA hb) hS (hx 1 (by decide)) dL_law_457 ?_
  refine callRV (b := am 0) (As := [.int (xs (i + 1).toNatClampNeg)]) (rest := [.int r]) C hK hM wl_m_count hl (km_count l D cA am τ F (xs (i + 1).toNatClampNeg) r hg) (lw_rcM hK hM) rfl rfl rfl (Nat.le_of_ble_eq_true rfl) ⟨by show cells + 0 ≤ 600000; omega, by show slots + 0 ≤ 7302250; omega⟩ dL_law_458 ?_
  refine lv_icmp_eq (tgt := 947) C.1 C.2.1 dL_law_461 (by decide) (fun _ => ?_) (fun c9 => absurd rfl c9)
  exact kk σ τ _ _ _ _ _ ls hi hP hM hD hS (by omega) (by omega) hl
def S_connector (I : Nat → CSt → MS → Prop) (F : Nat) : Prop := ∀ (k : Nat) (σ : CSt) (τ : MS) (z1 : Int32) (z2 : Int32), k < 512 → I k σ τ → ∃ (r : Int32), fc_X9_connector F σ z1 z2 = some r ∧ fm_connector F τ z1 z2 = some r ∧ Sres I k σ σ τ
set_option maxHeartbeats 4000000 in
set_option maxRecDepth 100000 in
theorem lo_connector {p : Program} {l : Launch} {e : Env} {s : State} {m : MethodId} {below : List Frame} {meth : Method} {c : Code} {b L : Nat} {xs : Nat → Int32} {D : va_G} {cA : Nat → ClassId} {ad am : Nat → Nat} {I : Nat → CSt → MS → Prop} {F k : Nat} {i : Int32} (hk : k < 512) (hI : ∀ k σ τ, I k σ τ → cs_nc σ ≤ 1000 * k ∧ cs_ns σ ≤ 14000 * k) (hs : S_connector I F) (hx : ∀ j : Nat, j < 7 → vp_in (i + Int32.ofNat j) L) (X : LwF p s m c b L xs D cA ad) (kk : GoOn p l e s m below meth c b D cA ad am (I (k + 1)) i 947) : GoOn p l e s m below meth c b D cA ad am (I k) i 466 := by
  intro σ τ η H locs cells slots ls hJ hP hM hD hS hc hsl hl
  obtain ⟨C, hK, hZ, hX, hb⟩ := X
  obtain ⟨r, hf, hg, hi, hm1, hm2⟩ := hs k σ τ (xs (i + 1).toNatClampNeg) (xs (i + 2).toNatClampNeg) hk hJ
  obtain ⟨hi1, hi2⟩ := hI _ _ _ hi
  refine lv_aload_n C.1 C.2.1 dL_law_466 rfl (lv_at hl 2 rfl) ?_
  refine lv_aload_n C.1 C.2.1 dL_law_467 rfl (lv_at hl 3 rfl) ?_
  refine lv_iload_n C.1 C.2.1 dL_law_468 rfl (lv_at hl 0 rfl) ?_
  refine lv_iconst (v := (1 : Int32)) C.1 C.2.1 dL_law_469 (by decide) ?_
  refine lv_iadd C.1 C.2.1 dL_law_470 ?_
  refine va_sld C.1 C.2.1 hX hb (lw_bA hb) hS (hx 1 (by decide)) dL_law_471 ?_
  refine lv_aload_n C.1 C.2.1 dL_law_472 rfl (lv_at hl 3 rfl) ?_
  refine lv_iload_n C.1 C.2.1 dL_law_473 rfl (lv_at hl 0 rfl) ?_
  refine lv_iconst (v := (2 : Int32)) C.1 C.2.1 dL_law_474 (by decide) ?_
  refine lv_iadd C.1 C.2.1 dL_law_475 ?_
  refine va_sld C.1 C.2.1 hX hb (lw_bA hb) hS (hx 2 (by decide)) dL_law_476 ?_
  refine cV_go (runRVc (b := ad 0) (As := [.int (xs (i + 1).toNatClampNeg), .int (xs (i + 2).toNatClampNeg)]) (rest := []) C hK hP hZ hS wl_c_connector hl (kc_X9_connector l D cA ad σ η F (xs (i + 1).toNatClampNeg) (xs (i + 2).toNatClampNeg) r hf) (lw_rcX hK hP) rfl rfl rfl (Nat.le_of_ble_eq_true rfl) ⟨by show cells + 0 ≤ 600000; omega, by show slots + 0 ≤ 7302250; omega⟩ dL_law_477) ?_
  refine lv_aload_n C.1 C.2.1 dL_law_480 rfl (lv_at hl 1 rfl) ?_
  refine lv_aload_n C.1 C.2.1 dL_law_481 rfl (lv_at hl 3 rfl) ?_
  refine lv_iload_n C.1 C.2.1 dL_law_482 rfl (lv_at hl 0 rfl) ?_
  refine lv_iconst (v := (1 : Int32)) C.1 C.2.1 dL_law_483 (by decide) ?_
  refine lv_iadd C.1 C.2.1 dL_law_484 ?_
  refine va_sld C.1 C.2.1 hX hb (lw_bA hb) hS (hx 1 (by decide)) dL_law_485 ?_
  refine lv_aload_n C.1 C.2.1 dL_law_486 rfl (lv_at hl 3 rfl) ?_
  refine lv_iload_n C.1 C.2.1 dL_law_487 rfl (lv_at hl 0 rfl) ?_
  refine lv_iconst (v := (2 : Int32)) C.1 C.2.1 dL_law_488 (by decide) ?_
  refine lv_iadd C.1 C.2.1 dL_law_489 ?_
  refine va_sld C.1 C.2.1 hX hb (lw_bA hb) hS (hx 2 (by decide)) dL_law_490 ?_
  refine callRV (b := am 0) (As := [.int (xs (i + 1).toNatClampNeg), .int (xs (i + 2).toNatClampNeg)]) (rest := [.int r]) C hK hM wl_m_connector hl (km_connector l D cA am τ F (xs (i + 1).toNatClampNeg) (xs (i + 2).toNatClampNeg) r hg) (lw_rcM hK hM) rfl rfl rfl (Nat.le_of_ble_eq_true rfl) ⟨by show cells + 0 ≤ 600000; omega, by show slots + 0 ≤ 7302250; omega⟩ dL_law_491 ?_
  refine lv_icmp_eq (tgt := 947) C.1 C.2.1 dL_law_494 (by decide) (fun _ => ?_) (fun c9 => absurd rfl c9)
  exact kk σ τ _ _ _ _ _ ls hi hP hM hD hS (by omega) (by omega) hl
def S_route (I : Nat → CSt → MS → Prop) (F : Nat) : Prop := ∀ (k : Nat) (σ : CSt) (τ : MS) (z1 : Int32), k < 512 → I k σ τ → ∃ (r : Int32) (σ' : CSt) (τ' : MS), fc_X9_route F σ z1 = some (r, σ') ∧ fm_route F τ z1 = some (r, τ') ∧ Sres I k σ σ' τ'
set_option maxHeartbeats 4000000 in
set_option maxRecDepth 100000 in
theorem lo_route {p : Program} {l : Launch} {e : Env} {s : State} {m : MethodId} {below : List Frame} {meth : Method} {c : Code} {b L : Nat} {xs : Nat → Int32} {D : va_G} {cA : Nat → ClassId} {ad am : Nat → Nat} {I : Nat → CSt → MS → Prop} {F k : Nat} {i : Int32} (hk : k < 512) (hI : ∀ k σ τ, I k σ τ → cs_nc σ ≤ 1000 * k ∧ cs_ns σ ≤ 14000 * k) (hs : S_route I F) (hx : ∀ j : Nat, j < 7 → vp_in (i + Int32.ofNat j) L) (X : LwF p s m c b L xs D cA ad) (kk : GoOn p l e s m below meth c b D cA ad am (I (k + 1)) i 947) : GoOn p l e s m below meth c b D cA ad am (I k) i 499 := by
  intro σ τ η H locs cells slots ls hJ hP hM hD hS hc hsl hl
  obtain ⟨C, hK, hZ, hX, hb⟩ := X
  obtain ⟨r, σ', τ', hf, hg, hi, hm1, hm2⟩ := hs k σ τ (xs (i + 1).toNatClampNeg) hk hJ
  obtain ⟨hi1, hi2⟩ := hI _ _ _ hi
  refine lv_aload_n C.1 C.2.1 dL_law_499 rfl (lv_at hl 2 rfl) ?_
  refine lv_aload_n C.1 C.2.1 dL_law_500 rfl (lv_at hl 3 rfl) ?_
  refine lv_iload_n C.1 C.2.1 dL_law_501 rfl (lv_at hl 0 rfl) ?_
  refine lv_iconst (v := (1 : Int32)) C.1 C.2.1 dL_law_502 (by decide) ?_
  refine lv_iadd C.1 C.2.1 dL_law_503 ?_
  refine va_sld C.1 C.2.1 hX hb (lw_bA hb) hS (hx 1 (by decide)) dL_law_504 ?_
  refine lawE (b := ad 0) (As := [.int (xs (i + 1).toNatClampNeg)]) (rest := []) C hK hZ hP hM hD nwA_le hS wl_c_route hl (kc_X9_route l D cA ad σ η F (xs (i + 1).toNatClampNeg) r σ' hf) (lw_rcX hK hP) rfl rfl rfl (Nat.le_of_ble_eq_true rfl) ⟨by show cells + (cs_nc σ' - cs_nc σ) ≤ 600000; omega, by show slots + (cs_ns σ' - cs_ns σ) ≤ 7302250; omega⟩ dL_law_505 (fun η H locs hP hM hD hS => ?_)
  generalize hc9 : cells + (cs_nc σ' - cs_nc σ) = cells1
  generalize hs9 : slots + (cs_ns σ' - cs_ns σ) = slots1
  refine lv_aload_n C.1 C.2.1 dL_law_508 rfl (lv_at hl 1 rfl) ?_
  refine lv_aload_n C.1 C.2.1 dL_law_509 rfl (lv_at hl 3 rfl) ?_
  refine lv_iload_n C.1 C.2.1 dL_law_510 rfl (lv_at hl 0 rfl) ?_
  refine lv_iconst (v := (1 : Int32)) C.1 C.2.1 dL_law_511 (by decide) ?_
  refine lv_iadd C.1 C.2.1 dL_law_512 ?_
  refine va_sld C.1 C.2.1 hX hb (lw_bA hb) hS (hx 1 (by decide)) dL_law_513 ?_
  refine lawW (b := am 0) (As := [.int (xs (i + 1).toNatClampNeg)]) (rest := [.int r]) C hK hP hM hD nwA_le hS wl_m_route hl (km_route l D cA am τ F (xs (i + 1).toNatClampNeg) r τ' hg) (lw_rcM hK hM) rfl rfl rfl (Nat.le_of_ble_eq_true rfl) ⟨by show cells1 + 0 ≤ 600000; omega, by show slots1 + 0 ≤ 7302250; omega⟩ dL_law_514 (fun H locs hP hM hD hS => ?_)
  refine lv_icmp_eq (tgt := 947) C.1 C.2.1 dL_law_517 (by decide) (fun _ => ?_) (fun c9 => absurd rfl c9)
  exact kk σ' τ' _ _ _ _ _ ls hi hP hM hD hS (by omega) (by omega) hl
def S_routeAll (I : Nat → CSt → MS → Prop) (F : Nat) : Prop := ∀ (k : Nat) (σ : CSt) (τ : MS), k < 512 → I k σ τ → ∃ (r : Int32) (σ' : CSt) (τ' : MS), fc_X9_routeAll F σ = some (r, σ') ∧ fm_routeAll F τ = some (r, τ') ∧ Sres I k σ σ' τ'
set_option maxHeartbeats 4000000 in
set_option maxRecDepth 100000 in
theorem lo_routeAll {p : Program} {l : Launch} {e : Env} {s : State} {m : MethodId} {below : List Frame} {meth : Method} {c : Code} {b L : Nat} {xs : Nat → Int32} {D : va_G} {cA : Nat → ClassId} {ad am : Nat → Nat} {I : Nat → CSt → MS → Prop} {F k : Nat} {i : Int32} (hk : k < 512) (hI : ∀ k σ τ, I k σ τ → cs_nc σ ≤ 1000 * k ∧ cs_ns σ ≤ 14000 * k) (hs : S_routeAll I F) (hx : ∀ j : Nat, j < 7 → vp_in (i + Int32.ofNat j) L) (X : LwF p s m c b L xs D cA ad) (kk : GoOn p l e s m below meth c b D cA ad am (I (k + 1)) i 947) : GoOn p l e s m below meth c b D cA ad am (I k) i 522 := by
  intro σ τ η H locs cells slots ls hJ hP hM hD hS hc hsl hl
  obtain ⟨C, hK, hZ, hX, hb⟩ := X
  obtain ⟨r, σ', τ', hf, hg, hi, hm1, hm2⟩ := hs k σ τ hk hJ
  obtain ⟨hi1, hi2⟩ := hI _ _ _ hi
  refine lv_aload_n C.1 C.2.1 dL_law_522 rfl (lv_at hl 2 rfl) ?_
  refine lawE (b := ad 0) (As := []) (rest := []) C hK hZ hP hM hD nwA_le hS wl_c_routeAll hl (kc_X9_routeAll l D cA ad σ η F r σ' hf) (lw_rcX hK hP) rfl rfl rfl (Nat.le_of_ble_eq_true rfl) ⟨by show cells + (cs_nc σ' - cs_nc σ) ≤ 600000; omega, by show slots + (cs_ns σ' - cs_ns σ) ≤ 7302250; omega⟩ dL_law_523 (fun η H locs hP hM hD hS => ?_)
  generalize hc9 : cells + (cs_nc σ' - cs_nc σ) = cells1
  generalize hs9 : slots + (cs_ns σ' - cs_ns σ) = slots1
  refine lv_aload_n C.1 C.2.1 dL_law_526 rfl (lv_at hl 1 rfl) ?_
  refine lawW (b := am 0) (As := []) (rest := [.int r]) C hK hP hM hD nwA_le hS wl_m_routeAll hl (km_routeAll l D cA am τ F r τ' hg) (lw_rcM hK hM) rfl rfl rfl (Nat.le_of_ble_eq_true rfl) ⟨by show cells1 + 0 ≤ 600000; omega, by show slots1 + 0 ≤ 7302250; omega⟩ dL_law_527 (fun H locs hP hM hD hS => ?_)
  refine lv_icmp_eq (tgt := 947) C.1 C.2.1 dL_law_530 (by decide) (fun _ => ?_) (fun c9 => absurd rfl c9)
  exact kk σ' τ' _ _ _ _ _ ls hi hP hM hD hS (by omega) (by omega) hl
def S_reroute (I : Nat → CSt → MS → Prop) (F : Nat) : Prop := ∀ (k : Nat) (σ : CSt) (τ : MS), k < 512 → I k σ τ → ∃ (r : Int32) (σ' : CSt) (τ' : MS), fc_X9_reroute F σ = some (r, σ') ∧ fm_reroute F τ = some (r, τ') ∧ Sres I k σ σ' τ'
set_option maxHeartbeats 4000000 in
set_option maxRecDepth 100000 in
theorem lo_reroute {p : Program} {l : Launch} {e : Env} {s : State} {m : MethodId} {below : List Frame} {meth : Method} {c : Code} {b L : Nat} {xs : Nat → Int32} {D : va_G} {cA : Nat → ClassId} {ad am : Nat → Nat} {I : Nat → CSt → MS → Prop} {F k : Nat} {i : Int32} (hk : k < 512) (hI : ∀ k σ τ, I k σ τ → cs_nc σ ≤ 1000 * k ∧ cs_ns σ ≤ 14000 * k) (hs : S_reroute I F) (hx : ∀ j : Nat, j < 7 → vp_in (i + Int32.ofNat j) L) (X : LwF p s m c b L xs D cA ad) (kk : GoOn p l e s m below meth c b D cA ad am (I (k + 1)) i 947) : GoOn p l e s m below meth c b D cA ad am (I k) i 535 := by
  intro σ τ η H locs cells slots ls hJ hP hM hD hS hc hsl hl
  obtain ⟨C, hK, hZ, hX, hb⟩ := X
  obtain ⟨r, σ', τ', hf, hg, hi, hm1, hm2⟩ := hs k σ τ hk hJ
  obtain ⟨hi1, hi2⟩ := hI _ _ _ hi
  refine lv_aload_n C.1 C.2.1 dL_law_535 rfl (lv_at hl 2 rfl) ?_
  refine lawE (b := ad 0) (As := []) (rest := []) C hK hZ hP hM hD nwA_le hS wl_c_reroute hl (kc_X9_reroute l D cA ad σ η F r σ' hf) (lw_rcX hK hP) rfl rfl rfl (Nat.le_of_ble_eq_true rfl) ⟨by show cells + (cs_nc σ' - cs_nc σ) ≤ 600000; omega, by show slots + (cs_ns σ' - cs_ns σ) ≤ 7302250; omega⟩ dL_law_536 (fun η H locs hP hM hD hS => ?_)
  generalize hc9 : cells + (cs_nc σ' - cs_nc σ) = cells1
  generalize hs9 : slots + (cs_ns σ' - cs_ns σ) = slots1
  refine lv_aload_n C.1 C.2.1 dL_law_539 rfl (lv_at hl 1 rfl) ?_
  refine lawW (b := am 0) (As := []) (rest := [.int r]) C hK hP hM hD nwA_le hS wl_m_reroute hl (km_reroute l D cA am τ F r τ' hg) (lw_rcM hK hM) rfl rfl rfl (Nat.le_of_ble_eq_true rfl) ⟨by show cells1 + 0 ≤ 600000; omega, by show slots1 + 0 ≤ 7302250; omega⟩ dL_law_540 (fun H locs hP hM hD hS => ?_)
  refine lv_icmp_eq (tgt := 947) C.1 C.2.1 dL_law_543 (by decide) (fun _ => ?_) (fun c9 => absurd rfl c9)
  exact kk σ' τ' _ _ _ _ _ ls hi hP hM hD hS (by omega) (by omega) hl
def S_refresh (I : Nat → CSt → MS → Prop) (F : Nat) : Prop := ∀ (k : Nat) (σ : CSt) (τ : MS), k < 512 → I k σ τ → ∃ (r : Int32) (σ' : CSt) (τ' : MS), fc_X9_refresh F σ = some (r, σ') ∧ fm_refresh F τ = some (r, τ') ∧ Sres I k σ σ' τ'
set_option maxHeartbeats 4000000 in
set_option maxRecDepth 100000 in
theorem lo_refresh {p : Program} {l : Launch} {e : Env} {s : State} {m : MethodId} {below : List Frame} {meth : Method} {c : Code} {b L : Nat} {xs : Nat → Int32} {D : va_G} {cA : Nat → ClassId} {ad am : Nat → Nat} {I : Nat → CSt → MS → Prop} {F k : Nat} {i : Int32} (hk : k < 512) (hI : ∀ k σ τ, I k σ τ → cs_nc σ ≤ 1000 * k ∧ cs_ns σ ≤ 14000 * k) (hs : S_refresh I F) (hx : ∀ j : Nat, j < 7 → vp_in (i + Int32.ofNat j) L) (X : LwF p s m c b L xs D cA ad) (kk : GoOn p l e s m below meth c b D cA ad am (I (k + 1)) i 947) : GoOn p l e s m below meth c b D cA ad am (I k) i 548 := by
  intro σ τ η H locs cells slots ls hJ hP hM hD hS hc hsl hl
  obtain ⟨C, hK, hZ, hX, hb⟩ := X
  obtain ⟨r, σ', τ', hf, hg, hi, hm1, hm2⟩ := hs k σ τ hk hJ
  obtain ⟨hi1, hi2⟩ := hI _ _ _ hi
  refine lv_aload_n C.1 C.2.1 dL_law_548 rfl (lv_at hl 2 rfl) ?_
  refine lawE (b := ad 0) (As := []) (rest := []) C hK hZ hP hM hD nwA_le hS wl_c_refresh hl (kc_X9_refresh l D cA ad σ η F r σ' hf) (lw_rcX hK hP) rfl rfl rfl (Nat.le_of_ble_eq_true rfl) ⟨by show cells + (cs_nc σ' - cs_nc σ) ≤ 600000; omega, by show slots + (cs_ns σ' - cs_ns σ) ≤ 7302250; omega⟩ dL_law_549 (fun η H locs hP hM hD hS => ?_)
  generalize hc9 : cells + (cs_nc σ' - cs_nc σ) = cells1
  generalize hs9 : slots + (cs_ns σ' - cs_ns σ) = slots1
  refine lv_aload_n C.1 C.2.1 dL_law_552 rfl (lv_at hl 1 rfl) ?_
  refine lawW (b := am 0) (As := []) (rest := [.int r]) C hK hP hM hD nwA_le hS wl_m_refresh hl (km_refresh l D cA am τ F r τ' hg) (lw_rcM hK hM) rfl rfl rfl (Nat.le_of_ble_eq_true rfl) ⟨by show cells1 + 0 ≤ 600000; omega, by show slots1 + 0 ≤ 7302250; omega⟩ dL_law_553 (fun H locs hP hM hD hS => ?_)
  refine lv_icmp_eq (tgt := 947) C.1 C.2.1 dL_law_556 (by decide) (fun _ => ?_) (fun c9 => absurd rfl c9)
  exact kk σ' τ' _ _ _ _ _ ls hi hP hM hD hS (by omega) (by omega) hl
def S_best (I : Nat → CSt → MS → Prop) (F : Nat) : Prop := ∀ (k : Nat) (σ : CSt) (τ : MS) (z1 : Int32), k < 512 → I k σ τ → ∃ (r : Int32) (σ' : CSt) (τ' : MS), fc_X9_best F σ z1 = some (r, σ') ∧ fm_best F τ z1 = some (r, τ') ∧ Sres I k σ σ' τ'
set_option maxHeartbeats 4000000 in
set_option maxRecDepth 100000 in
theorem lo_best {p : Program} {l : Launch} {e : Env} {s : State} {m : MethodId} {below : List Frame} {meth : Method} {c : Code} {b L : Nat} {xs : Nat → Int32} {D : va_G} {cA : Nat → ClassId} {ad am : Nat → Nat} {I : Nat → CSt → MS → Prop} {F k : Nat} {i : Int32} (hk : k < 512) (hI : ∀ k σ τ, I k σ τ → cs_nc σ ≤ 1000 * k ∧ cs_ns σ ≤ 14000 * k) (hs : S_best I F) (hx : ∀ j : Nat, j < 7 → vp_in (i + Int32.ofNat j) L) (X : LwF p s m c b L xs D cA ad) (kk : GoOn p l e s m below meth c b D cA ad am (I (k + 1)) i 947) : GoOn p l e s m below meth c b D cA ad am (I k) i 561 := by
  intro σ τ η H locs cells slots ls hJ hP hM hD hS hc hsl hl
  obtain ⟨C, hK, hZ, hX, hb⟩ := X
  obtain ⟨r, σ', τ', hf, hg, hi, hm1, hm2⟩ := hs k σ τ (xs (i + 1).toNatClampNeg) hk hJ
  obtain ⟨hi1, hi2⟩ := hI _ _ _ hi
  refine lv_aload_n C.1 C.2.1 dL_law_561 rfl (lv_at hl 2 rfl) ?_
  refine lv_aload_n C.1 C.2.1 dL_law_562 rfl (lv_at hl 3 rfl) ?_
  refine lv_iload_n C.1 C.2.1 dL_law_563 rfl (lv_at hl 0 rfl) ?_
  refine lv_iconst (v := (1 : Int32)) C.1 C.2.1 dL_law_564 (by decide) ?_
  refine lv_iadd C.1 C.2.1 dL_law_565 ?_
  refine va_sld C.1 C.2.1 hX hb (lw_bA hb) hS (hx 1 (by decide)) dL_law_566 ?_
  refine lawC (b := ad 0) (As := [.int (xs (i + 1).toNatClampNeg)]) (rest := []) C hK hZ hP hM hD nwA_le hS wl_c_best hl (kc_X9_best l D cA ad σ η F (xs (i + 1).toNatClampNeg) r σ' hf) (lw_rcX hK hP) rfl rfl rfl (Nat.le_of_ble_eq_true rfl) ⟨by show cells + 0 ≤ 600000; omega, by show slots + 0 ≤ 7302250; omega⟩ dL_law_567 (fun H locs hP hM hD hS => ?_)
  refine lv_aload_n C.1 C.2.1 dL_law_570 rfl (lv_at hl 1 rfl) ?_
  refine lv_aload_n C.1 C.2.1 dL_law_571 rfl (lv_at hl 3 rfl) ?_
  refine lv_iload_n C.1 C.2.1 dL_law_572 rfl (lv_at hl 0 rfl) ?_
  refine lv_iconst (v := (1 : Int32)) C.1 C.2.1 dL_law_573 (by decide) ?_
  refine lv_iadd C.1 C.2.1 dL_law_574 ?_
  refine va_sld C.1 C.2.1 hX hb (lw_bA hb) hS (hx 1 (by decide)) dL_law_575 ?_
  refine lawW (b := am 0) (As := [.int (xs (i + 1).toNatClampNeg)]) (rest := [.int r]) C hK hP hM hD nwA_le hS wl_m_best hl (km_best l D cA am τ F (xs (i + 1).toNatClampNeg) r τ' hg) (lw_rcM hK hM) rfl rfl rfl (Nat.le_of_ble_eq_true rfl) ⟨by show cells + 0 ≤ 600000; omega, by show slots + 0 ≤ 7302250; omega⟩ dL_law_576 (fun H locs hP hM hD hS => ?_)
  refine lv_icmp_eq (tgt := 947) C.1 C.2.1 dL_law_579 (by decide) (fun _ => ?_) (fun c9 => absurd rfl c9)
  exact kk σ' τ' _ _ _ _ _ ls hi hP hM hD hS (by omega) (by omega) hl
def S_measure (I : Nat → CSt → MS → Prop) (F : Nat) : Prop := ∀ (k : Nat) (σ : CSt) (τ : MS) (z1 : Int32) (z2 : Int32), k < 512 → I k σ τ → ∃ (r : Int32), fc_X9_measure F σ z1 z2 = some r ∧ fm_measure F τ z1 z2 = some r ∧ Sres I k σ σ τ
set_option maxHeartbeats 4000000 in
set_option maxRecDepth 100000 in
theorem lo_measure {p : Program} {l : Launch} {e : Env} {s : State} {m : MethodId} {below : List Frame} {meth : Method} {c : Code} {b L : Nat} {xs : Nat → Int32} {D : va_G} {cA : Nat → ClassId} {ad am : Nat → Nat} {I : Nat → CSt → MS → Prop} {F k : Nat} {i : Int32} (hk : k < 512) (hI : ∀ k σ τ, I k σ τ → cs_nc σ ≤ 1000 * k ∧ cs_ns σ ≤ 14000 * k) (hs : S_measure I F) (hx : ∀ j : Nat, j < 7 → vp_in (i + Int32.ofNat j) L) (X : LwF p s m c b L xs D cA ad) (kk : GoOn p l e s m below meth c b D cA ad am (I (k + 1)) i 947) : GoOn p l e s m below meth c b D cA ad am (I k) i 584 := by
  intro σ τ η H locs cells slots ls hJ hP hM hD hS hc hsl hl
  obtain ⟨C, hK, hZ, hX, hb⟩ := X
  obtain ⟨r, hf, hg, hi, hm1, hm2⟩ := hs k σ τ (xs (i + 1).toNatClampNeg) (xs (i + 2).toNatClampNeg) hk hJ
  obtain ⟨hi1, hi2⟩ := hI _ _ _ hi
  refine lv_aload_n C.1 C.2.1 dL_law_584 rfl (lv_at hl 2 rfl) ?_
  refine lv_aload_n C.1 C.2.1 dL_law_585 rfl (lv_at hl 3 rfl) ?_
  refine lv_iload_n C.1 C.2.1 dL_law_586 rfl (lv_at hl 0 rfl) ?_
  refine lv_iconst (v := (1 : Int32)) C.1 C.2.1 dL_law_587 (by decide) ?_
  refine lv_iadd C.1 C.2.1 dL_law_588 ?_
  refine va_sld C.1 C.2.1 hX hb (lw_bA hb) hS (hx 1 (by decide)) dL_law_589 ?_
  refine lv_aload_n C.1 C.2.1 dL_law_590 rfl (lv_at hl 3 rfl) ?_
  refine lv_iload_n C.1 C.2.1 dL_law_591 rfl (lv_at hl 0 rfl) ?_
  refine lv_iconst (v := (2 : Int32)) C.1 C.2.1 dL_law_592 (by decide) ?_
  refine lv_iadd C.1 C.2.1 dL_law_593 ?_
  refine va_sld C.1 C.2.1 hX hb (lw_bA hb) hS (hx 2 (by decide)) dL_law_594 ?_
  refine cV_go (runRVc (b := ad 0) (As := [.int (xs (i + 1).toNatClampNeg), .int (xs (i + 2).toNatClampNeg)]) (rest := []) C hK hP hZ hS wl_c_measure hl (kc_X9_measure l D cA ad σ η F (xs (i + 1).toNatClampNeg) (xs (i + 2).toNatClampNeg) r hf) (lw_rcX hK hP) rfl rfl rfl (Nat.le_of_ble_eq_true rfl) ⟨by show cells + 0 ≤ 600000; omega, by show slots + 0 ≤ 7302250; omega⟩ dL_law_595) ?_
  refine lv_aload_n C.1 C.2.1 dL_law_598 rfl (lv_at hl 1 rfl) ?_
  refine lv_aload_n C.1 C.2.1 dL_law_599 rfl (lv_at hl 3 rfl) ?_
  refine lv_iload_n C.1 C.2.1 dL_law_600 rfl (lv_at hl 0 rfl) ?_
  refine lv_iconst (v := (1 : Int32)) C.1 C.2.1 dL_law_601 (by decide) ?_
  refine lv_iadd C.1 C.2.1 dL_law_602 ?_
  refine va_sld C.1 C.2.1 hX hb (lw_bA hb) hS (hx 1 (by decide)) dL_law_603 ?_
  refine lv_aload_n C.1 C.2.1 dL_law_604 rfl (lv_at hl 3 rfl) ?_
  refine lv_iload_n C.1 C.2.1 dL_law_605 rfl (lv_at hl 0 rfl) ?_
  refine lv_iconst (v := (2 : Int32)) C.1 C.2.1 dL_law_606 (by decide) ?_
  refine lv_iadd C.1 C.2.1 dL_law_607 ?_
  refine va_sld C.1 C.2.1 hX hb (lw_bA hb) hS (hx 2 (by decide)) dL_law_608 ?_
  refine callRV (b := am 0) (As := [.int (xs (i + 1).toNatClampNeg), .int (xs (i + 2).toNatClampNeg)]) (rest := [.int r]) C hK hM wl_m_measure hl (km_measure l D cA am τ F (xs (i + 1).toNatClampNeg) (xs (i + 2).toNatClampNeg) r hg) (lw_rcM hK hM) rfl rfl rfl (Nat.le_of_ble_eq_true rfl) ⟨by show cells + 0 ≤ 600000; omega, by show slots + 0 ≤ 7302250; omega⟩ dL_law_609 ?_
  refine lv_icmp_eq (tgt := 947) C.1 C.2.1 dL_law_612 (by decide) (fun _ => ?_) (fun c9 => absurd rfl c9)
  exact kk σ τ _ _ _ _ _ ls hi hP hM hD hS (by omega) (by omega) hl
def S_corner (I : Nat → CSt → MS → Prop) (F : Nat) : Prop := ∀ (k : Nat) (σ : CSt) (τ : MS) (z1 : Int32) (z2 : Int32) (z3 : Int32), k < 512 → I k σ τ → ∃ (r : Int32), fc_X9_corner F σ z1 z2 z3 = some r ∧ fm_corner F τ z1 z2 z3 = some r ∧ Sres I k σ σ τ
set_option maxHeartbeats 4000000 in
set_option maxRecDepth 100000 in
theorem lo_corner {p : Program} {l : Launch} {e : Env} {s : State} {m : MethodId} {below : List Frame} {meth : Method} {c : Code} {b L : Nat} {xs : Nat → Int32} {D : va_G} {cA : Nat → ClassId} {ad am : Nat → Nat} {I : Nat → CSt → MS → Prop} {F k : Nat} {i : Int32} (hk : k < 512) (hI : ∀ k σ τ, I k σ τ → cs_nc σ ≤ 1000 * k ∧ cs_ns σ ≤ 14000 * k) (hs : S_corner I F) (hx : ∀ j : Nat, j < 7 → vp_in (i + Int32.ofNat j) L) (X : LwF p s m c b L xs D cA ad) (kk : GoOn p l e s m below meth c b D cA ad am (I (k + 1)) i 947) : GoOn p l e s m below meth c b D cA ad am (I k) i 617 := by
  intro σ τ η H locs cells slots ls hJ hP hM hD hS hc hsl hl
  obtain ⟨C, hK, hZ, hX, hb⟩ := X
  obtain ⟨r, hf, hg, hi, hm1, hm2⟩ := hs k σ τ (xs (i + 1).toNatClampNeg) (xs (i + 2).toNatClampNeg) (xs (i + 3).toNatClampNeg) hk hJ
  obtain ⟨hi1, hi2⟩ := hI _ _ _ hi
  refine lv_aload_n C.1 C.2.1 dL_law_617 rfl (lv_at hl 2 rfl) ?_
  refine lv_aload_n C.1 C.2.1 dL_law_618 rfl (lv_at hl 3 rfl) ?_
  refine lv_iload_n C.1 C.2.1 dL_law_619 rfl (lv_at hl 0 rfl) ?_
  refine lv_iconst (v := (1 : Int32)) C.1 C.2.1 dL_law_620 (by decide) ?_
  refine lv_iadd C.1 C.2.1 dL_law_621 ?_
  refine va_sld C.1 C.2.1 hX hb (lw_bA hb) hS (hx 1 (by decide)) dL_law_622 ?_
  refine lv_aload_n C.1 C.2.1 dL_law_623 rfl (lv_at hl 3 rfl) ?_
  refine lv_iload_n C.1 C.2.1 dL_law_624 rfl (lv_at hl 0 rfl) ?_
  refine lv_iconst (v := (2 : Int32)) C.1 C.2.1 dL_law_625 (by decide) ?_
  refine lv_iadd C.1 C.2.1 dL_law_626 ?_
  refine va_sld C.1 C.2.1 hX hb (lw_bA hb) hS (hx 2 (by decide)) dL_law_627 ?_
  refine lv_aload_n C.1 C.2.1 dL_law_628 rfl (lv_at hl 3 rfl) ?_
  refine lv_iload_n C.1 C.2.1 dL_law_629 rfl (lv_at hl 0 rfl) ?_
  refine lv_iconst (v := (3 : Int32)) C.1 C.2.1 dL_law_630 (by decide) ?_
  refine lv_iadd C.1 C.2.1 dL_law_631 ?_
  refine va_sld C.1 C.2.1 hX hb (lw_bA hb) hS (hx 3 (by decide)) dL_law_632 ?_
  refine cV_go (runRVc (b := ad 0) (As := [.int (xs (i + 1).toNatClampNeg), .int (xs (i + 2).toNatClampNeg), .int (xs (i + 3).toNatClampNeg)]) (rest := []) C hK hP hZ hS wl_c_corner hl (kc_X9_corner l D cA ad σ η F (xs (i + 1).toNatClampNeg) (xs (i + 2).toNatClampNeg) (xs (i + 3).toNatClampNeg) r hf) (lw_rcX hK hP) rfl rfl rfl (Nat.le_of_ble_eq_true rfl) ⟨by show cells + 0 ≤ 600000; omega, by show slots + 0 ≤ 7302250; omega⟩ dL_law_633) ?_
  refine lv_aload_n C.1 C.2.1 dL_law_636 rfl (lv_at hl 1 rfl) ?_
  refine lv_aload_n C.1 C.2.1 dL_law_637 rfl (lv_at hl 3 rfl) ?_
  refine lv_iload_n C.1 C.2.1 dL_law_638 rfl (lv_at hl 0 rfl) ?_
  refine lv_iconst (v := (1 : Int32)) C.1 C.2.1 dL_law_639 (by decide) ?_
  refine lv_iadd C.1 C.2.1 dL_law_640 ?_
  refine va_sld C.1 C.2.1 hX hb (lw_bA hb) hS (hx 1 (by decide)) dL_law_641 ?_
  refine lv_aload_n C.1 C.2.1 dL_law_642 rfl (lv_at hl 3 rfl) ?_
  refine lv_iload_n C.1 C.2.1 dL_law_643 rfl (lv_at hl 0 rfl) ?_
  refine lv_iconst (v := (2 : Int32)) C.1 C.2.1 dL_law_644 (by decide) ?_
  refine lv_iadd C.1 C.2.1 dL_law_645 ?_
  refine va_sld C.1 C.2.1 hX hb (lw_bA hb) hS (hx 2 (by decide)) dL_law_646 ?_
  refine lv_aload_n C.1 C.2.1 dL_law_647 rfl (lv_at hl 3 rfl) ?_
  refine lv_iload_n C.1 C.2.1 dL_law_648 rfl (lv_at hl 0 rfl) ?_
  refine lv_iconst (v := (3 : Int32)) C.1 C.2.1 dL_law_649 (by decide) ?_
  refine lv_iadd C.1 C.2.1 dL_law_650 ?_
  refine va_sld C.1 C.2.1 hX hb (lw_bA hb) hS (hx 3 (by decide)) dL_law_651 ?_
  refine callRV (b := am 0) (As := [.int (xs (i + 1).toNatClampNeg), .int (xs (i + 2).toNatClampNeg), .int (xs (i + 3).toNatClampNeg)]) (rest := [.int r]) C hK hM wl_m_corner hl (km_corner l D cA am τ F (xs (i + 1).toNatClampNeg) (xs (i + 2).toNatClampNeg) (xs (i + 3).toNatClampNeg) r hg) (lw_rcM hK hM) rfl rfl rfl (Nat.le_of_ble_eq_true rfl) ⟨by show cells + 0 ≤ 600000; omega, by show slots + 0 ≤ 7302250; omega⟩ dL_law_652 ?_
  refine lv_icmp_eq (tgt := 947) C.1 C.2.1 dL_law_655 (by decide) (fun _ => ?_) (fun c9 => absurd rfl c9)
  exact kk σ τ _ _ _ _ _ ls hi hP hM hD hS (by omega) (by omega) hl
def S_isOn (I : Nat → CSt → MS → Prop) (F : Nat) : Prop := ∀ (k : Nat) (σ : CSt) (τ : MS) (z1 : Int32) (z2 : Int32) (z3 : Int32), k < 512 → I k σ τ → ∃ (r : Int32), fc_X9_isOn F σ z1 z2 z3 = some r ∧ fm_isOn F τ z1 z2 z3 = some r ∧ Sres I k σ σ τ
set_option maxHeartbeats 4000000 in
set_option maxRecDepth 100000 in
theorem lo_isOn {p : Program} {l : Launch} {e : Env} {s : State} {m : MethodId} {below : List Frame} {meth : Method} {c : Code} {b L : Nat} {xs : Nat → Int32} {D : va_G} {cA : Nat → ClassId} {ad am : Nat → Nat} {I : Nat → CSt → MS → Prop} {F k : Nat} {i : Int32} (hk : k < 512) (hI : ∀ k σ τ, I k σ τ → cs_nc σ ≤ 1000 * k ∧ cs_ns σ ≤ 14000 * k) (hs : S_isOn I F) (hx : ∀ j : Nat, j < 7 → vp_in (i + Int32.ofNat j) L) (X : LwF p s m c b L xs D cA ad) (kk : GoOn p l e s m below meth c b D cA ad am (I (k + 1)) i 947) : GoOn p l e s m below meth c b D cA ad am (I k) i 660 := by
  intro σ τ η H locs cells slots ls hJ hP hM hD hS hc hsl hl
  obtain ⟨C, hK, hZ, hX, hb⟩ := X
  obtain ⟨r, hf, hg, hi, hm1, hm2⟩ := hs k σ τ (xs (i + 1).toNatClampNeg) (xs (i + 2).toNatClampNeg) (xs (i + 3).toNatClampNeg) hk hJ
  obtain ⟨hi1, hi2⟩ := hI _ _ _ hi
  refine lv_aload_n C.1 C.2.1 dL_law_660 rfl (lv_at hl 2 rfl) ?_
  refine lv_aload_n C.1 C.2.1 dL_law_661 rfl (lv_at hl 3 rfl) ?_
  refine lv_iload_n C.1 C.2.1 dL_law_662 rfl (lv_at hl 0 rfl) ?_
  refine lv_iconst (v := (1 : Int32)) C.1 C.2.1 dL_law_663 (by decide) ?_
  refine lv_iadd C.1 C.2.1 dL_law_664 ?_
  refine va_sld C.1 C.2.1 hX hb (lw_bA hb) hS (hx 1 (by decide)) dL_law_665 ?_
  refine lv_aload_n C.1 C.2.1 dL_law_666 rfl (lv_at hl 3 rfl) ?_
  refine lv_iload_n C.1 C.2.1 dL_law_667 rfl (lv_at hl 0 rfl) ?_
  refine lv_iconst (v := (2 : Int32)) C.1 C.2.1 dL_law_668 (by decide) ?_
  refine lv_iadd C.1 C.2.1 dL_law_669 ?_
  refine va_sld C.1 C.2.1 hX hb (lw_bA hb) hS (hx 2 (by decide)) dL_law_670 ?_
  refine lv_aload_n C.1 C.2.1 dL_law_671 rfl (lv_at hl 3 rfl) ?_
  refine lv_iload_n C.1 C.2.1 dL_law_672 rfl (lv_at hl 0 rfl) ?_
  refine lv_iconst (v := (3 : Int32)) C.1 C.2.1 dL_law_673 (by decide) ?_
  refine lv_iadd C.1 C.2.1 dL_law_674 ?_
  refine va_sld C.1 C.2.1 hX hb (lw_bA hb) hS (hx 3 (by decide)) dL_law_675 ?_
  refine cV_go (runRVc (b := ad 0) (As := [.int (xs (i + 1).toNatClampNeg), .int (xs (i + 2).toNatClampNeg), .int (xs (i + 3).toNatClampNeg)]) (rest := []) C hK hP hZ hS wl_c_isOn hl (kc_X9_isOn l D cA ad σ η F (xs (i + 1).toNatClampNeg) (xs (i + 2).toNatClampNeg) (xs (i + 3).toNatClampNeg) r hf) (lw_rcX hK hP) rfl rfl rfl (Nat.le_of_ble_eq_true rfl) ⟨by show cells + 0 ≤ 600000; omega, by show slots + 0 ≤ 7302250; omega⟩ dL_law_676) ?_
  refine lv_aload_n C.1 C.2.1 dL_law_679 rfl (lv_at hl 1 rfl) ?_
  refine lv_aload_n C.1 C.2.1 dL_law_680 rfl (lv_at hl 3 rfl) ?_
  refine lv_iload_n C.1 C.2.1 dL_law_681 rfl (lv_at hl 0 rfl) ?_
  refine lv_iconst (v := (1 : Int32)) C.1 C.2.1 dL_law_682 (by decide) ?_
  refine lv_iadd C.1 C.2.1 dL_law_683 ?_
  refine va_sld C.1 C.2.1 hX hb (lw_bA hb) hS (hx 1 (by decide)) dL_law_684 ?_
  refine lv_aload_n C.1 C.2.1 dL_law_685 rfl (lv_at hl 3 rfl) ?_
  refine lv_iload_n C.1 C.2.1 dL_law_686 rfl (lv_at hl 0 rfl) ?_
  refine lv_iconst (v := (2 : Int32)) C.1 C.2.1 dL_law_687 (by decide) ?_
  refine lv_iadd C.1 C.2.1 dL_law_688 ?_
  refine va_sld C.1 C.2.1 hX hb (lw_bA hb) hS (hx 2 (by decide)) dL_law_689 ?_
  refine lv_aload_n C.1 C.2.1 dL_law_690 rfl (lv_at hl 3 rfl) ?_
  refine lv_iload_n C.1 C.2.1 dL_law_691 rfl (lv_at hl 0 rfl) ?_
  refine lv_iconst (v := (3 : Int32)) C.1 C.2.1 dL_law_692 (by decide) ?_
  refine lv_iadd C.1 C.2.1 dL_law_693 ?_
  refine va_sld C.1 C.2.1 hX hb (lw_bA hb) hS (hx 3 (by decide)) dL_law_694 ?_
  refine callRV (b := am 0) (As := [.int (xs (i + 1).toNatClampNeg), .int (xs (i + 2).toNatClampNeg), .int (xs (i + 3).toNatClampNeg)]) (rest := [.int r]) C hK hM wl_m_isOn hl (km_isOn l D cA am τ F (xs (i + 1).toNatClampNeg) (xs (i + 2).toNatClampNeg) (xs (i + 3).toNatClampNeg) r hg) (lw_rcM hK hM) rfl rfl rfl (Nat.le_of_ble_eq_true rfl) ⟨by show cells + 0 ≤ 600000; omega, by show slots + 0 ≤ 7302250; omega⟩ dL_law_695 ?_
  refine lv_icmp_eq (tgt := 947) C.1 C.2.1 dL_law_698 (by decide) (fun _ => ?_) (fun c9 => absurd rfl c9)
  exact kk σ τ _ _ _ _ _ ls hi hP hM hD hS (by omega) (by omega) hl
def S_crossings (I : Nat → CSt → MS → Prop) (F : Nat) : Prop := ∀ (k : Nat) (σ : CSt) (τ : MS) (z1 : Int32) (z2 : Int32), k < 512 → I k σ τ → ∃ (r : Int32), fc_X9_crossings F σ z1 z2 = some r ∧ fm_crossings F τ z1 z2 = some r ∧ Sres I k σ σ τ
set_option maxHeartbeats 4000000 in
set_option maxRecDepth 100000 in
theorem lo_crossings {p : Program} {l : Launch} {e : Env} {s : State} {m : MethodId} {below : List Frame} {meth : Method} {c : Code} {b L : Nat} {xs : Nat → Int32} {D : va_G} {cA : Nat → ClassId} {ad am : Nat → Nat} {I : Nat → CSt → MS → Prop} {F k : Nat} {i : Int32} (hk : k < 512) (hI : ∀ k σ τ, I k σ τ → cs_nc σ ≤ 1000 * k ∧ cs_ns σ ≤ 14000 * k) (hs : S_crossings I F) (hx : ∀ j : Nat, j < 7 → vp_in (i + Int32.ofNat j) L) (X : LwF p s m c b L xs D cA ad) (kk : GoOn p l e s m below meth c b D cA ad am (I (k + 1)) i 947) : GoOn p l e s m below meth c b D cA ad am (I k) i 703 := by
  intro σ τ η H locs cells slots ls hJ hP hM hD hS hc hsl hl
  obtain ⟨C, hK, hZ, hX, hb⟩ := X
  obtain ⟨r, hf, hg, hi, hm1, hm2⟩ := hs k σ τ (xs (i + 1).toNatClampNeg) (xs (i + 2).toNatClampNeg) hk hJ
  obtain ⟨hi1, hi2⟩ := hI _ _ _ hi
  refine lv_aload_n C.1 C.2.1 dL_law_703 rfl (lv_at hl 2 rfl) ?_
  refine lv_aload_n C.1 C.2.1 dL_law_704 rfl (lv_at hl 3 rfl) ?_
  refine lv_iload_n C.1 C.2.1 dL_law_705 rfl (lv_at hl 0 rfl) ?_
  refine lv_iconst (v := (1 : Int32)) C.1 C.2.1 dL_law_706 (by decide) ?_
  refine lv_iadd C.1 C.2.1 dL_law_707 ?_
  refine va_sld C.1 C.2.1 hX hb (lw_bA hb) hS (hx 1 (by decide)) dL_law_708 ?_
  refine lv_aload_n C.1 C.2.1 dL_law_709 rfl (lv_at hl 3 rfl) ?_
  refine lv_iload_n C.1 C.2.1 dL_law_710 rfl (lv_at hl 0 rfl) ?_
  refine lv_iconst (v := (2 : Int32)) C.1 C.2.1 dL_law_711 (by decide) ?_
  refine lv_iadd C.1 C.2.1 dL_law_712 ?_
  refine va_sld C.1 C.2.1 hX hb (lw_bA hb) hS (hx 2 (by decide)) dL_law_713 ?_
  refine cV_go (runRVc (b := ad 0) (As := [.int (xs (i + 1).toNatClampNeg), .int (xs (i + 2).toNatClampNeg)]) (rest := []) C hK hP hZ hS wl_c_crossings hl (kc_X9_crossings l D cA ad σ η F (xs (i + 1).toNatClampNeg) (xs (i + 2).toNatClampNeg) r hf) (lw_rcX hK hP) rfl rfl rfl (Nat.le_of_ble_eq_true rfl) ⟨by show cells + 0 ≤ 600000; omega, by show slots + 0 ≤ 7302250; omega⟩ dL_law_714) ?_
  refine lv_aload_n C.1 C.2.1 dL_law_717 rfl (lv_at hl 1 rfl) ?_
  refine lv_aload_n C.1 C.2.1 dL_law_718 rfl (lv_at hl 3 rfl) ?_
  refine lv_iload_n C.1 C.2.1 dL_law_719 rfl (lv_at hl 0 rfl) ?_
  refine lv_iconst (v := (1 : Int32)) C.1 C.2.1 dL_law_720 (by decide) ?_
  refine lv_iadd C.1 C.2.1 dL_law_721 ?_
  refine va_sld C.1 C.2.1 hX hb (lw_bA hb) hS (hx 1 (by decide)) dL_law_722 ?_
  refine lv_aload_n C.1 C.2.1 dL_law_723 rfl (lv_at hl 3 rfl) ?_
  refine lv_iload_n C.1 C.2.1 dL_law_724 rfl (lv_at hl 0 rfl) ?_
  refine lv_iconst (v := (2 : Int32)) C.1 C.2.1 dL_law_725 (by decide) ?_
  refine lv_iadd C.1 C.2.1 dL_law_726 ?_
  refine va_sld C.1 C.2.1 hX hb (lw_bA hb) hS (hx 2 (by decide)) dL_law_727 ?_
  refine callRV (b := am 0) (As := [.int (xs (i + 1).toNatClampNeg), .int (xs (i + 2).toNatClampNeg)]) (rest := [.int r]) C hK hM wl_m_crossings hl (km_crossings l D cA am τ F (xs (i + 1).toNatClampNeg) (xs (i + 2).toNatClampNeg) r hg) (lw_rcM hK hM) rfl rfl rfl (Nat.le_of_ble_eq_true rfl) ⟨by show cells + 0 ≤ 600000; omega, by show slots + 0 ≤ 7302250; omega⟩ dL_law_728 ?_
  refine lv_icmp_eq (tgt := 947) C.1 C.2.1 dL_law_731 (by decide) (fun _ => ?_) (fun c9 => absurd rfl c9)
  exact kk σ τ _ _ _ _ _ ls hi hP hM hD hS (by omega) (by omega) hl
def S_shared (I : Nat → CSt → MS → Prop) (F : Nat) : Prop := ∀ (k : Nat) (σ : CSt) (τ : MS) (z1 : Int32) (z2 : Int32), k < 512 → I k σ τ → ∃ (r : Int32), fc_X9_shared F σ z1 z2 = some r ∧ fm_shared F τ z1 z2 = some r ∧ Sres I k σ σ τ
set_option maxHeartbeats 4000000 in
set_option maxRecDepth 100000 in
theorem lo_shared {p : Program} {l : Launch} {e : Env} {s : State} {m : MethodId} {below : List Frame} {meth : Method} {c : Code} {b L : Nat} {xs : Nat → Int32} {D : va_G} {cA : Nat → ClassId} {ad am : Nat → Nat} {I : Nat → CSt → MS → Prop} {F k : Nat} {i : Int32} (hk : k < 512) (hI : ∀ k σ τ, I k σ τ → cs_nc σ ≤ 1000 * k ∧ cs_ns σ ≤ 14000 * k) (hs : S_shared I F) (hx : ∀ j : Nat, j < 7 → vp_in (i + Int32.ofNat j) L) (X : LwF p s m c b L xs D cA ad) (kk : GoOn p l e s m below meth c b D cA ad am (I (k + 1)) i 947) : GoOn p l e s m below meth c b D cA ad am (I k) i 736 := by
  intro σ τ η H locs cells slots ls hJ hP hM hD hS hc hsl hl
  obtain ⟨C, hK, hZ, hX, hb⟩ := X
  obtain ⟨r, hf, hg, hi, hm1, hm2⟩ := hs k σ τ (xs (i + 1).toNatClampNeg) (xs (i + 2).toNatClampNeg) hk hJ
  obtain ⟨hi1, hi2⟩ := hI _ _ _ hi
  refine lv_aload_n C.1 C.2.1 dL_law_736 rfl (lv_at hl 2 rfl) ?_
  refine lv_aload_n C.1 C.2.1 dL_law_737 rfl (lv_at hl 3 rfl) ?_
  refine lv_iload_n C.1 C.2.1 dL_law_738 rfl (lv_at hl 0 rfl) ?_
  refine lv_iconst (v := (1 : Int32)) C.1 C.2.1 dL_law_739 (by decide) ?_
  refine lv_iadd C.1 C.2.1 dL_law_740 ?_
  refine va_sld C.1 C.2.1 hX hb (lw_bA hb) hS (hx 1 (by decide)) dL_law_741 ?_
  refine lv_aload_n C.1 C.2.1 dL_law_742 rfl (lv_at hl 3 rfl) ?_
  refine lv_iload_n C.1 C.2.1 dL_law_743 rfl (lv_at hl 0 rfl) ?_
  refine lv_iconst (v := (2 : Int32)) C.1 C.2.1 dL_law_744 (by decide) ?_
  refine lv_iadd C.1 C.2.1 dL_law_745 ?_
  refine va_sld C.1 C.2.1 hX hb (lw_bA hb) hS (hx 2 (by decide)) dL_law_746 ?_
  refine cV_go (runRVc (b := ad 0) (As := [.int (xs (i + 1).toNatClampNeg), .int (xs (i + 2).toNatClampNeg)]) (rest := []) C hK hP hZ hS wl_c_shared hl (kc_X9_shared l D cA ad σ η F (xs (i + 1).toNatClampNeg) (xs (i + 2).toNatClampNeg) r hf) (lw_rcX hK hP) rfl rfl rfl (Nat.le_of_ble_eq_true rfl) ⟨by show cells + 0 ≤ 600000; omega, by show slots + 0 ≤ 7302250; omega⟩ dL_law_747) ?_
  refine lv_aload_n C.1 C.2.1 dL_law_750 rfl (lv_at hl 1 rfl) ?_
  refine lv_aload_n C.1 C.2.1 dL_law_751 rfl (lv_at hl 3 rfl) ?_
  refine lv_iload_n C.1 C.2.1 dL_law_752 rfl (lv_at hl 0 rfl) ?_
  refine lv_iconst (v := (1 : Int32)) C.1 C.2.1 dL_law_753 (by decide) ?_
  refine lv_iadd C.1 C.2.1 dL_law_754 ?_
  refine va_sld C.1 C.2.1 hX hb (lw_bA hb) hS (hx 1 (by decide)) dL_law_755 ?_
  refine lv_aload_n C.1 C.2.1 dL_law_756 rfl (lv_at hl 3 rfl) ?_
  refine lv_iload_n C.1 C.2.1 dL_law_757 rfl (lv_at hl 0 rfl) ?_
  refine lv_iconst (v := (2 : Int32)) C.1 C.2.1 dL_law_758 (by decide) ?_
  refine lv_iadd C.1 C.2.1 dL_law_759 ?_
  refine va_sld C.1 C.2.1 hX hb (lw_bA hb) hS (hx 2 (by decide)) dL_law_760 ?_
  refine callRV (b := am 0) (As := [.int (xs (i + 1).toNatClampNeg), .int (xs (i + 2).toNatClampNeg)]) (rest := [.int r]) C hK hM wl_m_shared hl (km_shared l D cA am τ F (xs (i + 1).toNatClampNeg) (xs (i + 2).toNatClampNeg) r hg) (lw_rcM hK hM) rfl rfl rfl (Nat.le_of_ble_eq_true rfl) ⟨by show cells + 0 ≤ 600000; omega, by show slots + 0 ≤ 7302250; omega⟩ dL_law_761 ?_
  refine lv_icmp_eq (tgt := 947) C.1 C.2.1 dL_law_764 (by decide) (fun _ => ?_) (fun c9 => absurd rfl c9)
  exact kk σ τ _ _ _ _ _ ls hi hP hM hD hS (by omega) (by omega) hl
def S_lane (I : Nat → CSt → MS → Prop) (F : Nat) : Prop := ∀ (k : Nat) (σ : CSt) (τ : MS) (z1 : Int32) (z2 : Int32) (z3 : Int32), k < 512 → I k σ τ → ∃ (r : Int32) (σ' : CSt) (τ' : MS), fc_X9_lane F σ z1 z2 z3 = some (r, σ') ∧ fm_lane F τ z1 z2 z3 = some (r, τ') ∧ Sres I k σ σ' τ'
set_option maxHeartbeats 4000000 in
set_option maxRecDepth 100000 in
theorem lo_lane {p : Program} {l : Launch} {e : Env} {s : State} {m : MethodId} {below : List Frame} {meth : Method} {c : Code} {b L : Nat} {xs : Nat → Int32} {D : va_G} {cA : Nat → ClassId} {ad am : Nat → Nat} {I : Nat → CSt → MS → Prop} {F k : Nat} {i : Int32} (hk : k < 512) (hI : ∀ k σ τ, I k σ τ → cs_nc σ ≤ 1000 * k ∧ cs_ns σ ≤ 14000 * k) (hs : S_lane I F) (hx : ∀ j : Nat, j < 7 → vp_in (i + Int32.ofNat j) L) (X : LwF p s m c b L xs D cA ad) (kk : GoOn p l e s m below meth c b D cA ad am (I (k + 1)) i 947) : GoOn p l e s m below meth c b D cA ad am (I k) i 769 := by
  intro σ τ η H locs cells slots ls hJ hP hM hD hS hc hsl hl
  obtain ⟨C, hK, hZ, hX, hb⟩ := X
  obtain ⟨r, σ', τ', hf, hg, hi, hm1, hm2⟩ := hs k σ τ (xs (i + 1).toNatClampNeg) (xs (i + 2).toNatClampNeg) (xs (i + 3).toNatClampNeg) hk hJ
  obtain ⟨hi1, hi2⟩ := hI _ _ _ hi
  refine lv_aload_n C.1 C.2.1 dL_law_769 rfl (lv_at hl 2 rfl) ?_
  refine lv_aload_n C.1 C.2.1 dL_law_770 rfl (lv_at hl 3 rfl) ?_
  refine lv_iload_n C.1 C.2.1 dL_law_771 rfl (lv_at hl 0 rfl) ?_
  refine lv_iconst (v := (1 : Int32)) C.1 C.2.1 dL_law_772 (by decide) ?_
  refine lv_iadd C.1 C.2.1 dL_law_773 ?_
  refine va_sld C.1 C.2.1 hX hb (lw_bA hb) hS (hx 1 (by decide)) dL_law_774 ?_
  refine lv_aload_n C.1 C.2.1 dL_law_775 rfl (lv_at hl 3 rfl) ?_
  refine lv_iload_n C.1 C.2.1 dL_law_776 rfl (lv_at hl 0 rfl) ?_
  refine lv_iconst (v := (2 : Int32)) C.1 C.2.1 dL_law_777 (by decide) ?_
  refine lv_iadd C.1 C.2.1 dL_law_778 ?_
  refine va_sld C.1 C.2.1 hX hb (lw_bA hb) hS (hx 2 (by decide)) dL_law_779 ?_
  refine lv_aload_n C.1 C.2.1 dL_law_780 rfl (lv_at hl 3 rfl) ?_
  refine lv_iload_n C.1 C.2.1 dL_law_781 rfl (lv_at hl 0 rfl) ?_
  refine lv_iconst (v := (3 : Int32)) C.1 C.2.1 dL_law_782 (by decide) ?_
  refine lv_iadd C.1 C.2.1 dL_law_783 ?_
  refine va_sld C.1 C.2.1 hX hb (lw_bA hb) hS (hx 3 (by decide)) dL_law_784 ?_
  refine lawC (b := ad 0) (As := [.int (xs (i + 1).toNatClampNeg), .int (xs (i + 2).toNatClampNeg), .int (xs (i + 3).toNatClampNeg)]) (rest := []) C hK hZ hP hM hD nwA_le hS wl_c_lane hl (kc_X9_lane l D cA ad σ η F (xs (i + 1).toNatClampNeg) (xs (i + 2).toNatClampNeg) (xs (i + 3).toNatClampNeg) r σ' hf) (lw_rcX hK hP) rfl rfl rfl (Nat.le_of_ble_eq_true rfl) ⟨by show cells + 0 ≤ 600000; omega, by show slots + 0 ≤ 7302250; omega⟩ dL_law_785 (fun H locs hP hM hD hS => ?_)
  refine lv_aload_n C.1 C.2.1 dL_law_788 rfl (lv_at hl 1 rfl) ?_
  refine lv_aload_n C.1 C.2.1 dL_law_789 rfl (lv_at hl 3 rfl) ?_
  refine lv_iload_n C.1 C.2.1 dL_law_790 rfl (lv_at hl 0 rfl) ?_
  refine lv_iconst (v := (1 : Int32)) C.1 C.2.1 dL_law_791 (by decide) ?_
  refine lv_iadd C.1 C.2.1 dL_law_792 ?_
  refine va_sld C.1 C.2.1 hX hb (lw_bA hb) hS (hx 1 (by decide)) dL_law_793 ?_
  refine lv_aload_n C.1 C.2.1 dL_law_794 rfl (lv_at hl 3 rfl) ?_
  refine lv_iload_n C.1 C.2.1 dL_law_795 rfl (lv_at hl 0 rfl) ?_
  refine lv_iconst (v := (2 : Int32)) C.1 C.2.1 dL_law_796 (by decide) ?_
  refine lv_iadd C.1 C.2.1 dL_law_797 ?_
  refine va_sld C.1 C.2.1 hX hb (lw_bA hb) hS (hx 2 (by decide)) dL_law_798 ?_
  refine lv_aload_n C.1 C.2.1 dL_law_799 rfl (lv_at hl 3 rfl) ?_
  refine lv_iload_n C.1 C.2.1 dL_law_800 rfl (lv_at hl 0 rfl) ?_
  refine lv_iconst (v := (3 : Int32)) C.1 C.2.1 dL_law_801 (by decide) ?_
  refine lv_iadd C.1 C.2.1 dL_law_802 ?_
  refine va_sld C.1 C.2.1 hX hb (lw_bA hb) hS (hx 3 (by decide)) dL_law_803 ?_
  refine lawW (b := am 0) (As := [.int (xs (i + 1).toNatClampNeg), .int (xs (i + 2).toNatClampNeg), .int (xs (i + 3).toNatClampNeg)]) (rest := [.int r]) C hK hP hM hD nwA_le hS wl_m_lane hl (km_lane l D cA am τ F (xs (i + 1).toNatClampNeg) (xs (i + 2).toNatClampNeg) (xs (i + 3).toNatClampNeg) r τ' hg) (lw_rcM hK hM) rfl rfl rfl (Nat.le_of_ble_eq_true rfl) ⟨by show cells + 0 ≤ 600000; omega, by show slots + 0 ≤ 7302250; omega⟩ dL_law_804 (fun H locs hP hM hD hS => ?_)
  refine lv_icmp_eq (tgt := 947) C.1 C.2.1 dL_law_807 (by decide) (fun _ => ?_) (fun c9 => absurd rfl c9)
  exact kk σ' τ' _ _ _ _ _ ls hi hP hM hD hS (by omega) (by omega) hl
def S_write (I : Nat → CSt → MS → Prop) (F : Nat) : Prop := ∀ (k : Nat) (σ : CSt) (τ : MS) (z1 : Int32), k < 512 → I k σ τ → ∃ (r : Int32) (σ' : CSt) (τ' : MS), fc_X9_write F σ z1 = some (r, σ') ∧ fm_write F τ z1 = some (r, τ') ∧ Sres I k σ σ' τ'
set_option maxHeartbeats 4000000 in
set_option maxRecDepth 100000 in
theorem lo_write {p : Program} {l : Launch} {e : Env} {s : State} {m : MethodId} {below : List Frame} {meth : Method} {c : Code} {b L : Nat} {xs : Nat → Int32} {D : va_G} {cA : Nat → ClassId} {ad am : Nat → Nat} {I : Nat → CSt → MS → Prop} {F k : Nat} {i : Int32} (hk : k < 512) (hI : ∀ k σ τ, I k σ τ → cs_nc σ ≤ 1000 * k ∧ cs_ns σ ≤ 14000 * k) (hs : S_write I F) (hx : ∀ j : Nat, j < 7 → vp_in (i + Int32.ofNat j) L) (X : LwF p s m c b L xs D cA ad) (kk : GoOn p l e s m below meth c b D cA ad am (I (k + 1)) i 947) : GoOn p l e s m below meth c b D cA ad am (I k) i 812 := by
  intro σ τ η H locs cells slots ls hJ hP hM hD hS hc hsl hl
  obtain ⟨C, hK, hZ, hX, hb⟩ := X
  obtain ⟨r, σ', τ', hf, hg, hi, hm1, hm2⟩ := hs k σ τ (xs (i + 1).toNatClampNeg) hk hJ
  obtain ⟨hi1, hi2⟩ := hI _ _ _ hi
  refine lv_aload_n C.1 C.2.1 dL_law_812 rfl (lv_at hl 2 rfl) ?_
  refine lv_aload_n C.1 C.2.1 dL_law_813 rfl (lv_at hl 3 rfl) ?_
  refine lv_iload_n C.1 C.2.1 dL_law_814 rfl (lv_at hl 0 rfl) ?_
  refine lv_iconst (v := (1 : Int32)) C.1 C.2.1 dL_law_815 (by decide) ?_
  refine lv_iadd C.1 C.2.1 dL_law_816 ?_
  refine va_sld C.1 C.2.1 hX hb (lw_bA hb) hS (hx 1 (by decide)) dL_law_817 ?_
  refine lawE (b := ad 0) (As := [.int (xs (i + 1).toNatClampNeg)]) (rest := []) C hK hZ hP hM hD nwA_le hS wl_c_write hl (kc_X9_write l D cA ad σ η F (xs (i + 1).toNatClampNeg) r σ' hf) (lw_rcX hK hP) rfl rfl rfl (Nat.le_of_ble_eq_true rfl) ⟨by show cells + (cs_nc σ' - cs_nc σ) ≤ 600000; omega, by show slots + (cs_ns σ' - cs_ns σ) ≤ 7302250; omega⟩ dL_law_818 (fun η H locs hP hM hD hS => ?_)
  generalize hc9 : cells + (cs_nc σ' - cs_nc σ) = cells1
  generalize hs9 : slots + (cs_ns σ' - cs_ns σ) = slots1
  refine lv_aload_n C.1 C.2.1 dL_law_821 rfl (lv_at hl 1 rfl) ?_
  refine lv_aload_n C.1 C.2.1 dL_law_822 rfl (lv_at hl 3 rfl) ?_
  refine lv_iload_n C.1 C.2.1 dL_law_823 rfl (lv_at hl 0 rfl) ?_
  refine lv_iconst (v := (1 : Int32)) C.1 C.2.1 dL_law_824 (by decide) ?_
  refine lv_iadd C.1 C.2.1 dL_law_825 ?_
  refine va_sld C.1 C.2.1 hX hb (lw_bA hb) hS (hx 1 (by decide)) dL_law_826 ?_
  refine lawW (b := am 0) (As := [.int (xs (i + 1).toNatClampNeg)]) (rest := [.int r]) C hK hP hM hD nwA_le hS wl_m_write hl (km_write l D cA am τ F (xs (i + 1).toNatClampNeg) r τ' hg) (lw_rcM hK hM) rfl rfl rfl (Nat.le_of_ble_eq_true rfl) ⟨by show cells1 + 0 ≤ 600000; omega, by show slots1 + 0 ≤ 7302250; omega⟩ dL_law_827 (fun H locs hP hM hD hS => ?_)
  refine lv_icmp_eq (tgt := 947) C.1 C.2.1 dL_law_830 (by decide) (fun _ => ?_) (fun c9 => absurd rfl c9)
  exact kk σ' τ' _ _ _ _ _ ls hi hP hM hD hS (by omega) (by omega) hl
def S_written (I : Nat → CSt → MS → Prop) (F : Nat) : Prop := ∀ (k : Nat) (σ : CSt) (τ : MS) (z1 : Int32), k < 512 → I k σ τ → ∃ (r : Int32), fc_X9_written F σ z1 = some r ∧ fm_written F τ z1 = some r ∧ Sres I k σ σ τ
set_option maxHeartbeats 4000000 in
set_option maxRecDepth 100000 in
theorem lo_written {p : Program} {l : Launch} {e : Env} {s : State} {m : MethodId} {below : List Frame} {meth : Method} {c : Code} {b L : Nat} {xs : Nat → Int32} {D : va_G} {cA : Nat → ClassId} {ad am : Nat → Nat} {I : Nat → CSt → MS → Prop} {F k : Nat} {i : Int32} (hk : k < 512) (hI : ∀ k σ τ, I k σ τ → cs_nc σ ≤ 1000 * k ∧ cs_ns σ ≤ 14000 * k) (hs : S_written I F) (hx : ∀ j : Nat, j < 7 → vp_in (i + Int32.ofNat j) L) (X : LwF p s m c b L xs D cA ad) (kk : GoOn p l e s m below meth c b D cA ad am (I (k + 1)) i 947) : GoOn p l e s m below meth c b D cA ad am (I k) i 835 := by
  intro σ τ η H locs cells slots ls hJ hP hM hD hS hc hsl hl
  obtain ⟨C, hK, hZ, hX, hb⟩ := X
  obtain ⟨r, hf, hg, hi, hm1, hm2⟩ := hs k σ τ (xs (i + 1).toNatClampNeg) hk hJ
  obtain ⟨hi1, hi2⟩ := hI _ _ _ hi
  refine lv_aload_n C.1 C.2.1 dL_law_835 rfl (lv_at hl 2 rfl) ?_
  refine lv_aload_n C.1 C.2.1 dL_law_836 rfl (lv_at hl 3 rfl) ?_
  refine lv_iload_n C.1 C.2.1 dL_law_837 rfl (lv_at hl 0 rfl) ?_
  refine lv_iconst (v := (1 : Int32)) C.1 C.2.1 dL_law_838 (by decide) ?_
  refine lv_iadd C.1 C.2.1 dL_law_839 ?_
  refine va_sld C.1 C.2.1 hX hb (lw_bA hb) hS (hx 1 (by decide)) dL_law_840 ?_
  refine cV_go (runRVc (b := ad 0) (As := [.int (xs (i + 1).toNatClampNeg)]) (rest := []) C hK hP hZ hS wl_c_written hl (kc_X9_written l D cA ad σ η F (xs (i + 1).toNatClampNeg) r hf) (lw_rcX hK hP) rfl rfl rfl (Nat.le_of_ble_eq_true rfl) ⟨by show cells + 0 ≤ 600000; omega, by show slots + 0 ≤ 7302250; omega⟩ dL_law_841) ?_
  refine lv_aload_n C.1 C.2.1 dL_law_844 rfl (lv_at hl 1 rfl) ?_
  refine lv_aload_n C.1 C.2.1 dL_law_845 rfl (lv_at hl 3 rfl) ?_
  refine lv_iload_n C.1 C.2.1 dL_law_846 rfl (lv_at hl 0 rfl) ?_
  refine lv_iconst (v := (1 : Int32)) C.1 C.2.1 dL_law_847 (by decide) ?_
  refine lv_iadd C.1 C.2.1 dL_law_848 ?_
  refine va_sld C.1 C.2.1 hX hb (lw_bA hb) hS (hx 1 (by decide)) dL_law_849 ?_
  refine callRV (b := am 0) (As := [.int (xs (i + 1).toNatClampNeg)]) (rest := [.int r]) C hK hM wl_m_written hl (km_written l D cA am τ F (xs (i + 1).toNatClampNeg) r hg) (lw_rcM hK hM) rfl rfl rfl (Nat.le_of_ble_eq_true rfl) ⟨by show cells + 0 ≤ 600000; omega, by show slots + 0 ≤ 7302250; omega⟩ dL_law_850 ?_
  refine lv_icmp_eq (tgt := 947) C.1 C.2.1 dL_law_853 (by decide) (fun _ => ?_) (fun c9 => absurd rfl c9)
  exact kk σ τ _ _ _ _ _ ls hi hP hM hD hS (by omega) (by omega) hl
def S_type (I : Nat → CSt → MS → Prop) (F : Nat) : Prop := ∀ (k : Nat) (σ : CSt) (τ : MS) (z1 : Int32), k < 512 → I k σ τ → ∃ (r : Int32) (σ' : CSt) (τ' : MS), fc_X9_type F σ z1 = some (r, σ') ∧ fm_type F τ z1 = some (r, τ') ∧ Sres I k σ σ' τ'
set_option maxHeartbeats 4000000 in
set_option maxRecDepth 100000 in
theorem lo_type {p : Program} {l : Launch} {e : Env} {s : State} {m : MethodId} {below : List Frame} {meth : Method} {c : Code} {b L : Nat} {xs : Nat → Int32} {D : va_G} {cA : Nat → ClassId} {ad am : Nat → Nat} {I : Nat → CSt → MS → Prop} {F k : Nat} {i : Int32} (hk : k < 512) (hI : ∀ k σ τ, I k σ τ → cs_nc σ ≤ 1000 * k ∧ cs_ns σ ≤ 14000 * k) (hs : S_type I F) (hx : ∀ j : Nat, j < 7 → vp_in (i + Int32.ofNat j) L) (X : LwF p s m c b L xs D cA ad) (kk : GoOn p l e s m below meth c b D cA ad am (I (k + 1)) i 947) : GoOn p l e s m below meth c b D cA ad am (I k) i 858 := by
  intro σ τ η H locs cells slots ls hJ hP hM hD hS hc hsl hl
  obtain ⟨C, hK, hZ, hX, hb⟩ := X
  obtain ⟨r, σ', τ', hf, hg, hi, hm1, hm2⟩ := hs k σ τ (xs (i + 1).toNatClampNeg) hk hJ
  obtain ⟨hi1, hi2⟩ := hI _ _ _ hi
  refine lv_aload_n C.1 C.2.1 dL_law_858 rfl (lv_at hl 2 rfl) ?_
  refine lv_aload_n C.1 C.2.1 dL_law_859 rfl (lv_at hl 3 rfl) ?_
  refine lv_iload_n C.1 C.2.1 dL_law_860 rfl (lv_at hl 0 rfl) ?_
  refine lv_iconst (v := (1 : Int32)) C.1 C.2.1 dL_law_861 (by decide) ?_
  refine lv_iadd C.1 C.2.1 dL_law_862 ?_
  refine va_sld C.1 C.2.1 hX hb (lw_bA hb) hS (hx 1 (by decide)) dL_law_863 ?_
  refine lawC (b := ad 0) (As := [.int (xs (i + 1).toNatClampNeg)]) (rest := []) C hK hZ hP hM hD nwA_le hS wl_c_type hl (kc_X9_type l D cA ad σ η F (xs (i + 1).toNatClampNeg) r σ' hf) (lw_rcX hK hP) rfl rfl rfl (Nat.le_of_ble_eq_true rfl) ⟨by show cells + 0 ≤ 600000; omega, by show slots + 0 ≤ 7302250; omega⟩ dL_law_864 (fun H locs hP hM hD hS => ?_)
  refine lv_aload_n C.1 C.2.1 dL_law_867 rfl (lv_at hl 1 rfl) ?_
  refine lv_aload_n C.1 C.2.1 dL_law_868 rfl (lv_at hl 3 rfl) ?_
  refine lv_iload_n C.1 C.2.1 dL_law_869 rfl (lv_at hl 0 rfl) ?_
  refine lv_iconst (v := (1 : Int32)) C.1 C.2.1 dL_law_870 (by decide) ?_
  refine lv_iadd C.1 C.2.1 dL_law_871 ?_
  refine va_sld C.1 C.2.1 hX hb (lw_bA hb) hS (hx 1 (by decide)) dL_law_872 ?_
  refine lawW (b := am 0) (As := [.int (xs (i + 1).toNatClampNeg)]) (rest := [.int r]) C hK hP hM hD nwA_le hS wl_m_type hl (km_type l D cA am τ F (xs (i + 1).toNatClampNeg) r τ' hg) (lw_rcM hK hM) rfl rfl rfl (Nat.le_of_ble_eq_true rfl) ⟨by show cells + 0 ≤ 600000; omega, by show slots + 0 ≤ 7302250; omega⟩ dL_law_873 (fun H locs hP hM hD hS => ?_)
  refine lv_icmp_eq (tgt := 947) C.1 C.2.1 dL_law_876 (by decide) (fun _ => ?_) (fun c9 => absurd rfl c9)
  exact kk σ' τ' _ _ _ _ _ ls hi hP hM hD hS (by omega) (by omega) hl
def S_clearText (I : Nat → CSt → MS → Prop) (F : Nat) : Prop := ∀ (k : Nat) (σ : CSt) (τ : MS), k < 512 → I k σ τ → ∃ (r : Int32) (σ' : CSt) (τ' : MS), fc_X9_clearText F σ = some (r, σ') ∧ fm_clearText F τ = some (r, τ') ∧ Sres I k σ σ' τ'
set_option maxHeartbeats 4000000 in
set_option maxRecDepth 100000 in
theorem lo_clearText {p : Program} {l : Launch} {e : Env} {s : State} {m : MethodId} {below : List Frame} {meth : Method} {c : Code} {b L : Nat} {xs : Nat → Int32} {D : va_G} {cA : Nat → ClassId} {ad am : Nat → Nat} {I : Nat → CSt → MS → Prop} {F k : Nat} {i : Int32} (hk : k < 512) (hI : ∀ k σ τ, I k σ τ → cs_nc σ ≤ 1000 * k ∧ cs_ns σ ≤ 14000 * k) (hs : S_clearText I F) (hx : ∀ j : Nat, j < 7 → vp_in (i + Int32.ofNat j) L) (X : LwF p s m c b L xs D cA ad) (kk : GoOn p l e s m below meth c b D cA ad am (I (k + 1)) i 947) : GoOn p l e s m below meth c b D cA ad am (I k) i 881 := by
  intro σ τ η H locs cells slots ls hJ hP hM hD hS hc hsl hl
  obtain ⟨C, hK, hZ, hX, hb⟩ := X
  obtain ⟨r, σ', τ', hf, hg, hi, hm1, hm2⟩ := hs k σ τ hk hJ
  obtain ⟨hi1, hi2⟩ := hI _ _ _ hi
  refine lv_aload_n C.1 C.2.1 dL_law_881 rfl (lv_at hl 2 rfl) ?_
  refine lawC (b := ad 0) (As := []) (rest := []) C hK hZ hP hM hD nwA_le hS wl_c_clearText hl (kc_X9_clearText l D cA ad σ η F r σ' hf) (lw_rcX hK hP) rfl rfl rfl (Nat.le_of_ble_eq_true rfl) ⟨by show cells + 0 ≤ 600000; omega, by show slots + 0 ≤ 7302250; omega⟩ dL_law_882 (fun H locs hP hM hD hS => ?_)
  refine lv_aload_n C.1 C.2.1 dL_law_885 rfl (lv_at hl 1 rfl) ?_
  refine lawW (b := am 0) (As := []) (rest := [.int r]) C hK hP hM hD nwA_le hS wl_m_clearText hl (km_clearText l D cA am τ F r τ' hg) (lw_rcM hK hM) rfl rfl rfl (Nat.le_of_ble_eq_true rfl) ⟨by show cells + 0 ≤ 600000; omega, by show slots + 0 ≤ 7302250; omega⟩ dL_law_886 (fun H locs hP hM hD hS => ?_)
  refine lv_icmp_eq (tgt := 947) C.1 C.2.1 dL_law_889 (by decide) (fun _ => ?_) (fun c9 => absurd rfl c9)
  exact kk σ' τ' _ _ _ _ _ ls hi hP hM hD hS (by omega) (by omega) hl
def S_textFault (I : Nat → CSt → MS → Prop) (F : Nat) : Prop := ∀ (k : Nat) (σ : CSt) (τ : MS), k < 512 → I k σ τ → ∃ (r : Int32) (σ' : CSt) (τ' : MS), fc_X9_textFault F σ = some (r, σ') ∧ fm_textFault F τ = some (r, τ') ∧ Sres I k σ σ' τ'
set_option maxHeartbeats 4000000 in
set_option maxRecDepth 100000 in
theorem lo_textFault {p : Program} {l : Launch} {e : Env} {s : State} {m : MethodId} {below : List Frame} {meth : Method} {c : Code} {b L : Nat} {xs : Nat → Int32} {D : va_G} {cA : Nat → ClassId} {ad am : Nat → Nat} {I : Nat → CSt → MS → Prop} {F k : Nat} {i : Int32} (hk : k < 512) (hI : ∀ k σ τ, I k σ τ → cs_nc σ ≤ 1000 * k ∧ cs_ns σ ≤ 14000 * k) (hs : S_textFault I F) (hx : ∀ j : Nat, j < 7 → vp_in (i + Int32.ofNat j) L) (X : LwF p s m c b L xs D cA ad) (kk : GoOn p l e s m below meth c b D cA ad am (I (k + 1)) i 947) : GoOn p l e s m below meth c b D cA ad am (I k) i 894 := by
  intro σ τ η H locs cells slots ls hJ hP hM hD hS hc hsl hl
  obtain ⟨C, hK, hZ, hX, hb⟩ := X
  obtain ⟨r, σ', τ', hf, hg, hi, hm1, hm2⟩ := hs k σ τ hk hJ
  obtain ⟨hi1, hi2⟩ := hI _ _ _ hi
  refine lv_aload_n C.1 C.2.1 dL_law_894 rfl (lv_at hl 2 rfl) ?_
  refine lawC (b := ad 0) (As := []) (rest := []) C hK hZ hP hM hD nwA_le hS wl_c_textFault hl (kc_X9_textFault l D cA ad σ η F r σ' hf) (lw_rcX hK hP) rfl rfl rfl (Nat.le_of_ble_eq_true rfl) ⟨by show cells + 0 ≤ 600000; omega, by show slots + 0 ≤ 7302250; omega⟩ dL_law_895 (fun H locs hP hM hD hS => ?_)
  refine lv_aload_n C.1 C.2.1 dL_law_898 rfl (lv_at hl 1 rfl) ?_
  refine lawW (b := am 0) (As := []) (rest := [.int r]) C hK hP hM hD nwA_le hS wl_m_textFault hl (km_textFault l D cA am τ F r τ' hg) (lw_rcM hK hM) rfl rfl rfl (Nat.le_of_ble_eq_true rfl) ⟨by show cells + 0 ≤ 600000; omega, by show slots + 0 ≤ 7302250; omega⟩ dL_law_899 (fun H locs hP hM hD hS => ?_)
  refine lv_icmp_eq (tgt := 947) C.1 C.2.1 dL_law_902 (by decide) (fun _ => ?_) (fun c9 => absurd rfl c9)
  exact kk σ' τ' _ _ _ _ _ ls hi hP hM hD hS (by omega) (by omega) hl
def S_run (I : Nat → CSt → MS → Prop) (F : Nat) : Prop := ∀ (k : Nat) (σ : CSt) (τ : MS), k < 512 → I k σ τ → ∃ (r : Int32) (σ' : CSt) (τ' : MS), fc_X9_run F σ = some (r, σ') ∧ fm_run F τ = some (r, τ') ∧ Sres I k σ σ' τ'
set_option maxHeartbeats 4000000 in
set_option maxRecDepth 100000 in
theorem lo_run {p : Program} {l : Launch} {e : Env} {s : State} {m : MethodId} {below : List Frame} {meth : Method} {c : Code} {b L : Nat} {xs : Nat → Int32} {D : va_G} {cA : Nat → ClassId} {ad am : Nat → Nat} {I : Nat → CSt → MS → Prop} {F k : Nat} {i : Int32} (hk : k < 512) (hI : ∀ k σ τ, I k σ τ → cs_nc σ ≤ 1000 * k ∧ cs_ns σ ≤ 14000 * k) (hs : S_run I F) (hx : ∀ j : Nat, j < 7 → vp_in (i + Int32.ofNat j) L) (X : LwF p s m c b L xs D cA ad) (kk : GoOn p l e s m below meth c b D cA ad am (I (k + 1)) i 947) : GoOn p l e s m below meth c b D cA ad am (I k) i 907 := by
  intro σ τ η H locs cells slots ls hJ hP hM hD hS hc hsl hl
  obtain ⟨C, hK, hZ, hX, hb⟩ := X
  obtain ⟨r, σ', τ', hf, hg, hi, hm1, hm2⟩ := hs k σ τ hk hJ
  obtain ⟨hi1, hi2⟩ := hI _ _ _ hi
  refine lv_aload_n C.1 C.2.1 dL_law_907 rfl (lv_at hl 2 rfl) ?_
  refine lawE (b := ad 0) (As := []) (rest := []) C hK hZ hP hM hD nwA_le hS wl_c_run hl (kc_X9_run l D cA ad σ η F r σ' hf) (lw_rcX hK hP) rfl rfl rfl (Nat.le_of_ble_eq_true rfl) ⟨by show cells + (cs_nc σ' - cs_nc σ) ≤ 600000; omega, by show slots + (cs_ns σ' - cs_ns σ) ≤ 7302250; omega⟩ dL_law_908 (fun η H locs hP hM hD hS => ?_)
  generalize hc9 : cells + (cs_nc σ' - cs_nc σ) = cells1
  generalize hs9 : slots + (cs_ns σ' - cs_ns σ) = slots1
  refine lv_aload_n C.1 C.2.1 dL_law_911 rfl (lv_at hl 1 rfl) ?_
  refine lawW (b := am 0) (As := []) (rest := [.int r]) C hK hP hM hD nwA_le hS wl_m_run hl (km_run l D cA am τ F r τ' hg) (lw_rcM hK hM) rfl rfl rfl (Nat.le_of_ble_eq_true rfl) ⟨by show cells1 + 0 ≤ 600000; omega, by show slots1 + 0 ≤ 7302250; omega⟩ dL_law_912 (fun H locs hP hM hD hS => ?_)
  refine lv_icmp_eq (tgt := 947) C.1 C.2.1 dL_law_915 (by decide) (fun _ => ?_) (fun c9 => absurd rfl c9)
  exact kk σ' τ' _ _ _ _ _ ls hi hP hM hD hS (by omega) (by omega) hl
def S_undo (I : Nat → CSt → MS → Prop) (F : Nat) : Prop := ∀ (k : Nat) (σ : CSt) (τ : MS), k < 512 → I k σ τ → ∃ (r : Int32) (σ' : CSt) (τ' : MS), fc_X9_undo F σ = some (r, σ') ∧ fm_undo F τ = some (r, τ') ∧ Sres I k σ σ' τ'
set_option maxHeartbeats 4000000 in
set_option maxRecDepth 100000 in
theorem lo_undo {p : Program} {l : Launch} {e : Env} {s : State} {m : MethodId} {below : List Frame} {meth : Method} {c : Code} {b L : Nat} {xs : Nat → Int32} {D : va_G} {cA : Nat → ClassId} {ad am : Nat → Nat} {I : Nat → CSt → MS → Prop} {F k : Nat} {i : Int32} (hk : k < 512) (hI : ∀ k σ τ, I k σ τ → cs_nc σ ≤ 1000 * k ∧ cs_ns σ ≤ 14000 * k) (hs : S_undo I F) (hx : ∀ j : Nat, j < 7 → vp_in (i + Int32.ofNat j) L) (X : LwF p s m c b L xs D cA ad) (kk : GoOn p l e s m below meth c b D cA ad am (I (k + 1)) i 947) : GoOn p l e s m below meth c b D cA ad am (I k) i 920 := by
  intro σ τ η H locs cells slots ls hJ hP hM hD hS hc hsl hl
  obtain ⟨C, hK, hZ, hX, hb⟩ := X
  obtain ⟨r, σ', τ', hf, hg, hi, hm1, hm2⟩ := hs k σ τ hk hJ
  obtain ⟨hi1, hi2⟩ := hI _ _ _ hi
  refine lv_aload_n C.1 C.2.1 dL_law_920 rfl (lv_at hl 2 rfl) ?_
  refine lawE (b := ad 0) (As := []) (rest := []) C hK hZ hP hM hD nwA_le hS wl_c_undo hl (kc_X9_undo l D cA ad σ η F r σ' hf) (lw_rcX hK hP) rfl rfl rfl (Nat.le_of_ble_eq_true rfl) ⟨by show cells + 0 ≤ 600000; omega, by show slots + 0 ≤ 7302250; omega⟩ dL_law_921 (fun η H locs hP hM hD hS => ?_)
  generalize hc9 : cells + 0 = cells1
  generalize hs9 : slots + 0 = slots1
  refine lv_aload_n C.1 C.2.1 dL_law_924 rfl (lv_at hl 1 rfl) ?_
  refine lawW (b := am 0) (As := []) (rest := [.int r]) C hK hP hM hD nwA_le hS wl_m_undo hl (km_undo l D cA am τ F r τ' hg) (lw_rcM hK hM) rfl rfl rfl (Nat.le_of_ble_eq_true rfl) ⟨by show cells1 + 0 ≤ 600000; omega, by show slots1 + 0 ≤ 7302250; omega⟩ dL_law_925 (fun H locs hP hM hD hS => ?_)
  refine lv_icmp_eq (tgt := 947) C.1 C.2.1 dL_law_928 (by decide) (fun _ => ?_) (fun c9 => absurd rfl c9)
  exact kk σ' τ' _ _ _ _ _ ls hi hP hM hD hS (by omega) (by omega) hl
def S_digest (I : Nat → CSt → MS → Prop) (F : Nat) : Prop := ∀ (k : Nat) (σ : CSt) (τ : MS), k < 512 → I k σ τ → ∃ (r : Int64) (τ' : MS), fc_X9_digest F σ = some r ∧ fm_digest F τ = some (r, τ') ∧ Sres I k σ σ τ'
set_option maxHeartbeats 4000000 in
set_option maxRecDepth 100000 in
theorem lo_digest {p : Program} {l : Launch} {e : Env} {s : State} {m : MethodId} {below : List Frame} {meth : Method} {c : Code} {b L : Nat} {xs : Nat → Int32} {D : va_G} {cA : Nat → ClassId} {ad am : Nat → Nat} {I : Nat → CSt → MS → Prop} {F k : Nat} {i : Int32} (hk : k < 512) (hI : ∀ k σ τ, I k σ τ → cs_nc σ ≤ 1000 * k ∧ cs_ns σ ≤ 14000 * k) (hs : S_digest I F) (hx : ∀ j : Nat, j < 7 → vp_in (i + Int32.ofNat j) L) (X : LwF p s m c b L xs D cA ad) (kk : GoOn p l e s m below meth c b D cA ad am (I (k + 1)) i 947) : GoOn p l e s m below meth c b D cA ad am (I k) i 933 := by
  intro σ τ η H locs cells slots ls hJ hP hM hD hS hc hsl hl
  obtain ⟨C, hK, hZ, hX, hb⟩ := X
  obtain ⟨r, τ', hf, hg, hi, hm1, hm2⟩ := hs k σ τ hk hJ
  obtain ⟨hi1, hi2⟩ := hI _ _ _ hi
  refine lv_aload_n C.1 C.2.1 dL_law_933 rfl (lv_at hl 2 rfl) ?_
  refine cV_go (runRVc (b := ad 0) (As := []) (rest := []) C hK hP hZ hS wl_c_digest hl (kc_X9_digest l D cA ad σ η F r hf) (lw_rcX hK hP) rfl rfl rfl (Nat.le_of_ble_eq_true rfl) ⟨by show cells + 0 ≤ 600000; omega, by show slots + 0 ≤ 7302250; omega⟩ dL_law_934) ?_
  refine lv_aload_n C.1 C.2.1 dL_law_937 rfl (lv_at hl 1 rfl) ?_
  refine lawW (b := am 0) (As := []) (rest := [.long r]) C hK hP hM hD nwA_le hS wl_m_digest hl (km_digest l D cA am τ F r τ' hg) (lw_rcM hK hM) rfl rfl rfl (Nat.le_of_ble_eq_true rfl) ⟨by show cells + 0 ≤ 600000; omega, by show slots + 0 ≤ 7302250; omega⟩ dL_law_938 (fun H locs hP hM hD hS => ?_)
  refine W.lcmp C.1 C.2.1 dL_law_941 ?_
  refine lv_if_eq (tgt := 947) C.1 C.2.1 dL_law_942 (by decide) (fun _ => ?_) (fun c9 => absurd (lg_cmp_self r) c9)
  exact kk σ τ' _ _ _ _ _ ls hi hP hM hD hS (by omega) (by omega) hl
