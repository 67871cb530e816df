def fc_X8_walkedAlong_L53 (F : Nat) (σ : CSt) (k15 : RV → Int32 → Option (Int32)) : Option (Int32) :=
  some (0 : Int32)
def fc_X8_walkedAlong_L15_c (F : Nat) (σ : CSt) (k15 : RV → Int32 → Option (Int32)) (vx1 : RV) (x2 : Int32) : Option (Int32) :=
  if (cs_fcn σ) ≤ x2 then (some (1 : Int32)) else (gd (ix x2 (vx1.2.1) = true) (gd (ix x2 326 = true) (if (vx1.2.2.1 x2.toNatClampNeg) = (cs_fcx σ x2.toNatClampNeg) then (gd (ix x2 (vx1.2.1) = true) (gd (ix x2 326 = true) (if (vx1.2.2.2 x2.toNatClampNeg) = (cs_fcy σ x2.toNatClampNeg) then (lt (x2 + (1 : Int32)) (fun x2_55 => k15 vx1 x2_55)) else (fc_X8_walkedAlong_L53 F σ k15)))) else (fc_X8_walkedAlong_L53 F σ k15))))
def fc_X8_walkedAlong_L15 (F : Nat) (σ : CSt) (n : Nat) (vx1 : RV) (x2 : Int32) : Option (Int32) := lpN (fun (k : RV × Int32 → Option (Int32)) a => fc_X8_walkedAlong_L15_c F σ (fun vx1 x2 => k (vx1, x2)) a.1 a.2) n (vx1, x2)
def fc_X8_walkedAlong (F : Nat) (σ : CSt) (vx1 : RV) : Option (Int32) :=
  bd (fc_X6_corners F σ vx1) (fun r1 => if r1 = (cs_fcn σ) then (fc_X8_walkedAlong_L15 F σ F vx1 (0 : Int32)) else (some (0 : Int32)))
set_option maxHeartbeats 4000000 in
set_option maxRecDepth 100000 in
theorem kc_X8_walkedAlong (l : Launch) (D : va_G) (cA : Nat → ClassId) (ad : Nat → Nat) (σ : CSt) (η : HS) (F : Nat) (az1 : Nat) (vz1 : RV) (hvz1 : isRt cA η az1 vz1) (r : Int32) (hf : fc_X8_walkedAlong F σ vz1 = some r) : KRc l D cA ad σ η yX8_walkedAlong cX8_walkedAlong 3 (some .boolean) (rmk 1 20) [.ref (ad 23), .ref az1] (QcV (.int r)) := by
  refine KRc.of (by decide) (Nat.le_of_ble_eq_true rfl) ?_
  intro p e s m below meth c C hr hlk hK hP hZ ls hl
  have hS : va_S NoA s.heap s.heap [] := va_S.rf
  have hl : lv_has ls 3 [(0, .ref (ad 23)), (1, .ref az1)] := hl
  have hB15 : ∀ (n15 : Nat) (ls : Array Slot) (ax1 : Nat) (vx1 : RV) (x2 : Int32), isRt cA η ax1 vx1 → lv_has ls 3 [(0, .ref (ad 23)), (1, .ref ax1), (2, .int x2)] → fc_X8_walkedAlong_L15 F σ n15 vx1 x2 = some r → WRc p l e 1 20 s m [.ref (ad 23), .ref az1] below meth c (QcV (.int r)) (F0 m 15 ls []) := by
    intro n15
    induction n15 with
    | zero =>
      intro ls ax1 vx1 x2 hvx1 hl hf
      cases (show (none : Option _) = _ from hf)
    | succ n15 ih15 =>
      have hB53 : ∀ (ls : Array Slot), lv_has ls 3 [] → fc_X8_walkedAlong_L53 F σ (fc_X8_walkedAlong_L15 F σ n15) = some r → WRc p l e 1 20 s m [.ref (ad 23), .ref az1] below meth c (QcV (.int r)) (F0 m 53 ls []) := by
        intro ls hl hf
        unfold fc_X8_walkedAlong_L53 at hf
        refine lv_iconst (v := (0 : Int32)) C.1 C.2.1 dX8_walkedAlong_53 (by decide) ?_
        exact KRc.zret C hr hlk (by decide) (Option.some.inj hf) dX8_walkedAlong_54
      intro ls ax1 vx1 x2 hvx1 hl hf
      have hf : fc_X8_walkedAlong_L15_c F σ (fc_X8_walkedAlong_L15 F σ n15) vx1 x2 = some r := hf
      unfold fc_X8_walkedAlong_L15_c at hf
      refine lv_iload_n C.1 C.2.1 dX8_walkedAlong_15 rfl (lv_at hl 2 rfl) ?_
      refine lv_aload_n C.1 C.2.1 dX8_walkedAlong_16 rfl (lv_at hl 0 rfl) ?_
      refine gc_fi_corners C hK hP wf_X8_135 dX8_walkedAlong_17 ?_
      refine lv_icmp_ge (tgt := 61) C.1 C.2.1 dX8_walkedAlong_20 (by decide) (fun c20 => ?_) (fun c20 => ?_)
      · have hf := br_p c20 hf
        refine lv_iconst (v := (1 : Int32)) C.1 C.2.1 dX8_walkedAlong_61 (by decide) ?_
        exact KRc.zret C hr hlk (by decide) (Option.some.inj hf) dX8_walkedAlong_62
      · have hf := br_n c20 hf
        refine lv_aload_n C.1 C.2.1 dX8_walkedAlong_23 rfl (lv_at hl 1 rfl) ?_
        refine gp_xs C hK hP hvx1 wf_X8_154 dX8_walkedAlong_24 (fun q24 hq24 => ?_)
        refine lv_iload_n C.1 C.2.1 dX8_walkedAlong_27 rfl (lv_at hl 2 rfl) ?_
        obtain ⟨hi28, hf⟩ := gd_some hf
        refine lp_pa C hK hP hq24 hi28 dX8_walkedAlong_28 ?_
        refine lv_aload_n C.1 C.2.1 dX8_walkedAlong_29 rfl (lv_at hl 0 rfl) ?_
        refine gc_fi_cornerXs C hK hP wf_X8_33 dX8_walkedAlong_30 ?_
        refine lv_iload_n C.1 C.2.1 dX8_walkedAlong_33 rfl (lv_at hl 2 rfl) ?_
        obtain ⟨hi34, hf⟩ := gd_some hf
        refine lc_fcx C hK hP hi34 dX8_walkedAlong_34 ?_
        refine lv_icmp_ne (tgt := 53) C.1 C.2.1 dX8_walkedAlong_35 (by decide) (fun c35 => ?_) (fun c35 => ?_)
        · have hf := br_n c35 hf
          exact hB53 ls (lv_sub hl [] rfl) hf
        · have hf := br_p c35 hf
          refine lv_aload_n C.1 C.2.1 dX8_walkedAlong_38 rfl (lv_at hl 1 rfl) ?_
          refine gp_ys C hK hP hvx1 wf_X8_157 dX8_walkedAlong_39 (fun q39 hq39 => ?_)
          refine lv_iload_n C.1 C.2.1 dX8_walkedAlong_42 rfl (lv_at hl 2 rfl) ?_
          obtain ⟨hi43, hf⟩ := gd_some hf
          refine lp_pa C hK hP hq39 hi43 dX8_walkedAlong_43 ?_
          refine lv_aload_n C.1 C.2.1 dX8_walkedAlong_44 rfl (lv_at hl 0 rfl) ?_
          refine gc_fi_cornerYs C hK hP wf_X8_36 dX8_walkedAlong_45 ?_
          refine lv_iload_n C.1 C.2.1 dX8_walkedAlong_48 rfl (lv_at hl 2 rfl) ?_
          obtain ⟨hi49, hf⟩ := gd_some hf
          refine lc_fcy C hK hP hi49 dX8_walkedAlong_49 ?_
          refine lv_icmp_eq (tgt := 55) C.1 C.2.1 dX8_walkedAlong_50 (by decide) (fun c50 => ?_) (fun c50 => ?_)
          · have hf := br_p c50 hf
            obtain ⟨x2_55, ex2_55, hf⟩ := lt_some hf
            refine lv_iinc (v := x2_55) (lv' := [(2, .int x2_55), (0, .ref (ad 23)), (1, .ref ax1)]) C.1 C.2.1 dX8_walkedAlong_55 hl (k := 2) rfl (by rw [ex2_55]; rfl) (by decide) rfl (fun ls hl => ?_)
            refine lv_goto (tgt := 15) C.1 C.2.1 dX8_walkedAlong_58 (by decide) ?_
            exact ih15 ls _ _ _ hvx1 (lv_sub hl [1, 2, 0] rfl) hf
          · have hf := br_n c50 hf
            exact hB53 ls (lv_sub hl [] rfl) hf
  unfold fc_X8_walkedAlong at hf
  refine lv_aload_n C.1 C.2.1 dX8_walkedAlong_0 rfl (lv_at hl 1 rfl) ?_
  obtain ⟨r1, hc1, hf⟩ := bd_some hf
  refine cV_go (runRVc (As := []) C hK hP hZ hS wv_X8_150 hl (kc_X6_corners l D cA ad _ η F _ _ hvz1 r1 hc1) (rcR hK hP hvz1) rfl rfl rfl (Nat.le_of_ble_eq_true rfl) ⟨Nat.le_refl _, Nat.le_refl _⟩ dX8_walkedAlong_1) ?_
  refine lv_aload_n C.1 C.2.1 dX8_walkedAlong_4 rfl (lv_at hl 0 rfl) ?_
  refine gc_fi_corners C hK hP wf_X8_135 dX8_walkedAlong_5 ?_
  refine lv_icmp_eq (tgt := 13) C.1 C.2.1 dX8_walkedAlong_8 (by decide) (fun c8 => ?_) (fun c8 => ?_)
  · have hf := br_p c8 hf
    refine lv_iconst (v := (0 : Int32)) C.1 C.2.1 dX8_walkedAlong_13 (by decide) ?_
    refine lv_istore_n (lv' := [(2, .int (0 : Int32)), (0, .ref (ad 23)), (1, .ref az1)]) C.1 C.2.1 dX8_walkedAlong_14 rfl hl (by decide) rfl (fun ls hl => ?_)
    exact hB15 F ls _ _ _ hvz1 (lv_sub hl [1, 2, 0] rfl) hf
  · have hf := br_n c8 hf
    refine lv_iconst (v := (0 : Int32)) C.1 C.2.1 dX8_walkedAlong_11 (by decide) ?_
    exact KRc.zret C hr hlk (by decide) (Option.some.inj hf) dX8_walkedAlong_12
def fc_X6_length_L4_c (F : Nat) (σ : CSt) (k4 : RV → Int32 → Int32 → Option (Int32)) (vx0 : RV) (x1 : Int32) (x2 : Int32) : Option (Int32) :=
  bd (fc_X6_segments F σ vx0) (fun r6 => if r6 ≤ x2 then (some x1) else (bd (fc_X6_endOf F σ vx0 x2) (fun r15 => bd (fc_X6_startOf F σ vx0 x2) (fun r20 => lt (x1 + (r15 - r20)) (fun x1_25 => lt (x2 + (1 : Int32)) (fun x2_26 => k4 vx0 x1_25 x2_26))))))
def fc_X6_length_L4 (F : Nat) (σ : CSt) (n : Nat) (vx0 : RV) (x1 : Int32) (x2 : Int32) : Option (Int32) := lpN (fun (k : RV × Int32 × Int32 → Option (Int32)) a => fc_X6_length_L4_c F σ (fun vx0 x1 x2 => k (vx0, x1, x2)) a.1 a.2.1 a.2.2) n (vx0, x1, x2)
def fc_X6_length (F : Nat) (σ : CSt) (vx0 : RV) : Option (Int32) :=
  fc_X6_length_L4 F σ F vx0 (0 : Int32) (0 : Int32)
set_option maxHeartbeats 4000000 in
set_option maxRecDepth 100000 in
theorem kc_X6_length (l : Launch) (D : va_G) (cA : Nat → ClassId) (ad : Nat → Nat) (σ : CSt) (η : HS) (F : Nat) (az0 : Nat) (vz0 : RV) (hvz0 : isRt cA η az0 vz0) (r : Int32) (hf : fc_X6_length F σ vz0 = some r) : KRc l D cA ad σ η yX6_length cX6_length 3 (some .int) (rmk 2 42) [.ref az0] (QcV (.int r)) := by
  refine KRc.of (by decide) (Nat.le_of_ble_eq_true rfl) ?_
  intro p e s m below meth c C hr hlk hK hP hZ ls hl
  have hS : va_S NoA s.heap s.heap [] := va_S.rf
  have hl : lv_has ls 3 [(0, .ref az0)] := hl
  have hB4 : ∀ (n4 : Nat) (ls : Array Slot) (ax0 : Nat) (vx0 : RV) (x1 : Int32) (x2 : Int32), isRt cA η ax0 vx0 → lv_has ls 3 [(0, .ref ax0), (1, .int x1), (2, .int x2)] → fc_X6_length_L4 F σ n4 vx0 x1 x2 = some r → WRc p l e 2 42 s m [.ref az0] below meth c (QcV (.int r)) (F0 m 4 ls []) := by
    intro n4
    induction n4 with
    | zero =>
      intro ls ax0 vx0 x1 x2 hvx0 hl hf
      cases (show (none : Option _) = _ from hf)
    | succ n4 ih4 =>
      intro ls ax0 vx0 x1 x2 hvx0 hl hf
      have hf : fc_X6_length_L4_c F σ (fc_X6_length_L4 F σ n4) vx0 x1 x2 = some r := hf
      unfold fc_X6_length_L4_c at hf
      refine lv_iload_n C.1 C.2.1 dX6_length_4 rfl (lv_at hl 2 rfl) ?_
      refine lv_aload_n C.1 C.2.1 dX6_length_5 rfl (lv_at hl 0 rfl) ?_
      obtain ⟨r6, hc6, hf⟩ := bd_some hf
      refine cV_go (runRVc (As := []) C hK hP hZ hS wv_X6_20 hl (kc_X6_segments l D cA ad _ η F _ _ hvx0 r6 hc6) (rcR hK hP hvx0) rfl rfl rfl (Nat.le_of_ble_eq_true rfl) ⟨Nat.le_refl _, Nat.le_refl _⟩ dX6_length_6) ?_
      refine lv_icmp_ge (tgt := 32) C.1 C.2.1 dX6_length_9 (by decide) (fun c9 => ?_) (fun c9 => ?_)
      · have hf := br_p c9 hf
        refine lv_iload_n C.1 C.2.1 dX6_length_32 rfl (lv_at hl 1 rfl) ?_
        exact KRc.iret C hr hlk (Option.some.inj hf) dX6_length_33
      · have hf := br_n c9 hf
        refine lv_iload_n C.1 C.2.1 dX6_length_12 rfl (lv_at hl 1 rfl) ?_
        refine lv_aload_n C.1 C.2.1 dX6_length_13 rfl (lv_at hl 0 rfl) ?_
        refine lv_iload_n C.1 C.2.1 dX6_length_14 rfl (lv_at hl 2 rfl) ?_
        obtain ⟨r15, hc15, hf⟩ := bd_some hf
        refine cV_go (runRVc (As := [_]) C hK hP hZ hS wv_X6_37 hl (kc_X6_endOf l D cA ad _ η F _ _ _ hvx0 r15 hc15) (rcR hK hP hvx0) rfl rfl rfl (Nat.le_of_ble_eq_true rfl) ⟨Nat.le_refl _, Nat.le_refl _⟩ dX6_length_15) ?_
        refine lv_aload_n C.1 C.2.1 dX6_length_18 rfl (lv_at hl 0 rfl) ?_
        refine lv_iload_n C.1 C.2.1 dX6_length_19 rfl (lv_at hl 2 rfl) ?_
        obtain ⟨r20, hc20, hf⟩ := bd_some hf
        refine cV_go (runRVc (As := [_]) C hK hP hZ hS wv_X6_41 hl (kc_X6_startOf l D cA ad _ η F _ _ _ hvx0 r20 hc20) (rcR hK hP hvx0) rfl rfl rfl (Nat.le_of_ble_eq_true rfl) ⟨Nat.le_refl _, Nat.le_refl _⟩ dX6_length_20) ?_
        refine lv_isub C.1 C.2.1 dX6_length_23 ?_
        refine lv_iadd C.1 C.2.1 dX6_length_24 ?_
        obtain ⟨x1_25, ex1_25, hf⟩ := lt_some hf
        refine lv_tope ex1_25 ?_
        refine lv_istore_n (lv' := [(1, .int x1_25), (0, .ref ax0), (2, .int x2)]) C.1 C.2.1 dX6_length_25 rfl hl (by decide) rfl (fun ls hl => ?_)
        obtain ⟨x2_26, ex2_26, hf⟩ := lt_some hf
        refine lv_iinc (v := x2_26) (lv' := [(2, .int x2_26), (1, .int x1_25), (0, .ref ax0)]) C.1 C.2.1 dX6_length_26 hl (k := 2) rfl (by rw [ex2_26]; rfl) (by decide) rfl (fun ls hl => ?_)
        refine lv_goto (tgt := 4) C.1 C.2.1 dX6_length_29 (by decide) ?_
        exact ih4 ls _ _ _ _ hvx0 (lv_sub hl [2, 1, 0] rfl) hf
  unfold fc_X6_length at hf
  refine lv_iconst (v := (0 : Int32)) C.1 C.2.1 dX6_length_0 (by decide) ?_
  refine lv_istore_n (lv' := [(1, .int (0 : Int32)), (0, .ref az0)]) C.1 C.2.1 dX6_length_1 rfl hl (by decide) rfl (fun ls hl => ?_)
  refine lv_iconst (v := (0 : Int32)) C.1 C.2.1 dX6_length_2 (by decide) ?_
  refine lv_istore_n (lv' := [(2, .int (0 : Int32)), (1, .int (0 : Int32)), (0, .ref az0)]) C.1 C.2.1 dX6_length_3 rfl hl (by decide) rfl (fun ls hl => ?_)
  exact hB4 F ls _ _ _ _ hvz0 (lv_sub hl [2, 1, 0] rfl) hf
def fc_X9_measure (F : Nat) (σ : CSt) (x1 : Int32) (x2 : Int32) : Option (Int32) :=
  bd (fc_X1_hasConnector F σ x1) (fun r5 => if r5 = 0 then (some (-1001 : Int32)) else (bd (fc_X9_isWithin F σ x2 (0 : Int32) (3 : Int32)) (fun r18 => if r18 = 0 then (some (-1002 : Int32)) else (gd (ix x1 10 = true) (mo (cs_cr σ x1.toNatClampNeg) (some (-1003 : Int32)) (fun v36 => if x2 = (0 : Int32) then (some (v36.1)) else if x2 = (1 : Int32) then (bd (fc_X6_length F σ v36) (fun r78 => some r78)) else if x2 = (2 : Int32) then (bd (fc_X6_corners F σ v36) (fun r83 => some r83)) else (bd (fc_X6_segments F σ v36) (fun r88 => some r88))))))))
set_option maxHeartbeats 4000000 in
set_option maxRecDepth 100000 in
theorem kc_X9_measure (l : Launch) (D : va_G) (cA : Nat → ClassId) (ad : Nat → Nat) (σ : CSt) (η : HS) (F : Nat) (z1 : Int32) (z2 : Int32) (r : Int32) (hf : fc_X9_measure F σ z1 z2 = some r) : KRc l D cA ad σ η yX9_measure cX9_measure 4 (some .int) (rmk 3 64) [.ref (ad 0), .int z1, .int z2] (QcV (.int r)) := by
  refine KRc.of (by decide) (Nat.le_of_ble_eq_true rfl) ?_
  intro p e s m below meth c C hr hlk hK hP hZ ls hl
  have hS : va_S NoA s.heap s.heap [] := va_S.rf
  have hl : lv_has ls 4 [(0, .ref (ad 0)), (1, .int z1), (2, .int z2)] := hl
  unfold fc_X9_measure at hf
  refine lv_aload_n C.1 C.2.1 dX9_measure_0 rfl (lv_at hl 0 rfl) ?_
  refine gc_R_canvas C hK hP wf_X9_10 dX9_measure_1 ?_
  refine lv_iload_n C.1 C.2.1 dX9_measure_4 rfl (lv_at hl 1 rfl) ?_
  obtain ⟨r5, hc5, hf⟩ := bd_some hf
  refine cV_go (runRVc (As := [_]) C hK hP hZ hS wv_X9_110 hl (kc_X1_hasConnector l D cA ad _ η F _  r5 hc5) (rcC 1 2 hK hP rfl rfl) rfl rfl rfl (Nat.le_of_ble_eq_true rfl) ⟨Nat.le_refl _, Nat.le_refl _⟩ dX9_measure_5) ?_
  refine lv_if_ne (tgt := 15) C.1 C.2.1 dX9_measure_8 (by decide) (fun c8 => ?_) (fun c8 => ?_)
  · have hf := br_n c8 hf
    refine lv_iload_n C.1 C.2.1 dX9_measure_15 rfl (lv_at hl 2 rfl) ?_
    refine lv_iconst (v := (0 : Int32)) C.1 C.2.1 dX9_measure_16 (by decide) ?_
    refine lv_iconst (v := (3 : Int32)) C.1 C.2.1 dX9_measure_17 (by decide) ?_
    obtain ⟨r18, hc18, hf⟩ := bd_some hf
    refine cV_go (runRSc (As := [_, _, _]) C hK hP hZ hS wv_X9_74 hl (kc_X9_isWithin l D cA ad _ η F _ _ _  r18 hc18) rfl rfl rfl (Nat.le_of_ble_eq_true rfl) ⟨Nat.le_refl _, Nat.le_refl _⟩ dX9_measure_18) ?_
    refine lv_if_ne (tgt := 28) C.1 C.2.1 dX9_measure_21 (by decide) (fun c21 => ?_) (fun c21 => ?_)
    · have hf := br_n c21 hf
      refine lv_aload_n C.1 C.2.1 dX9_measure_28 rfl (lv_at hl 0 rfl) ?_
      refine gc_R_canvas C hK hP wf_X9_10 dX9_measure_29 ?_
      refine gc_cv_routes C hK hP wf_X9_103 dX9_measure_32 ?_
      refine lv_iload_n C.1 C.2.1 dX9_measure_35 rfl (lv_at hl 1 rfl) ?_
      obtain ⟨hi36, hf⟩ := gd_some hf
      refine lr_cr C hK hP hi36 dX9_measure_36 (fun hn36 => ?_) (fun a36 v36 he36 hv36 => ?_)
      · have hf := mo_n hn36 hf
        refine lv_astore_nN (lv' := [(3, .null), (0, .ref (ad 0)), (1, .int z1), (2, .int z2)]) C.1 C.2.1 dX9_measure_37 rfl hl (by decide) rfl (fun ls hl => ?_)
        refine lv_aload_nN C.1 C.2.1 dX9_measure_38 rfl (lv_at hl 0 rfl) ?_
        refine lv_ifnonnullN C.1 C.2.1 dX9_measure_39 ?_
        refine lv_sipush (v := (-1003 : Int32)) C.1 C.2.1 dX9_measure_42 (by decide) ?_
        exact KRc.iret C hr hlk (Option.some.inj hf) dX9_measure_45
      · have hf := mo_s he36 hf
        refine lv_astore_n (lv' := [(3, .ref a36), (0, .ref (ad 0)), (1, .int z1), (2, .int z2)]) C.1 C.2.1 dX9_measure_37 rfl hl (by decide) rfl (fun ls hl => ?_)
        refine lv_aload_n C.1 C.2.1 dX9_measure_38 rfl (lv_at hl 0 rfl) ?_
        refine lv_ifnonnull (tgt := 46) C.1 C.2.1 dX9_measure_39 (by decide) ?_
        refine lv_iload_n C.1 C.2.1 dX9_measure_46 rfl (lv_at hl 3 rfl) ?_
        by_cases c47_0 : z2 = (0 : Int32)
        · have hf := br_p c47_0 hf
          refine lv_tableIn (tgt := 72) C.1 C.2.1 dX9_measure_47 (by rw [c47_0]; decide) (by rw [c47_0]; decide) (by rw [c47_0]; rfl) (by decide) ?_
          refine lv_aload_n C.1 C.2.1 dX9_measure_72 rfl (lv_at hl 0 rfl) ?_
          refine gp_cost C hK hP hv36 wf_X9_146 dX9_measure_73 ?_
          exact KRc.iret C hr hlk (Option.some.inj hf) dX9_measure_76
        have hf := br_n c47_0 hf
        by_cases c47_1 : z2 = (1 : Int32)
        · have hf := br_p c47_1 hf
          refine lv_tableIn (tgt := 77) C.1 C.2.1 dX9_measure_47 (by rw [c47_1]; decide) (by rw [c47_1]; decide) (by rw [c47_1]; rfl) (by decide) ?_
          refine lv_aload_n C.1 C.2.1 dX9_measure_77 rfl (lv_at hl 0 rfl) ?_
          obtain ⟨r78, hc78, hf⟩ := bd_some hf
          refine cV_go (runRVc (As := []) C hK hP hZ hS wv_X9_151 hl (kc_X6_length l D cA ad _ η F _ _ hv36 r78 hc78) (rcR hK hP hv36) rfl rfl rfl (Nat.le_of_ble_eq_true rfl) ⟨Nat.le_refl _, Nat.le_refl _⟩ dX9_measure_78) ?_
          exact KRc.iret C hr hlk (Option.some.inj hf) dX9_measure_81
        have hf := br_n c47_1 hf
        by_cases c47_2 : z2 = (2 : Int32)
        · have hf := br_p c47_2 hf
          refine lv_tableIn (tgt := 82) C.1 C.2.1 dX9_measure_47 (by rw [c47_2]; decide) (by rw [c47_2]; decide) (by rw [c47_2]; rfl) (by decide) ?_
          refine lv_aload_n C.1 C.2.1 dX9_measure_82 rfl (lv_at hl 0 rfl) ?_
          obtain ⟨r83, hc83, hf⟩ := bd_some hf
          refine cV_go (runRVc (As := []) C hK hP hZ hS wv_X9_154 hl (kc_X6_corners l D cA ad _ η F _ _ hv36 r83 hc83) (rcR hK hP hv36) rfl rfl rfl (Nat.le_of_ble_eq_true rfl) ⟨Nat.le_refl _, Nat.le_refl _⟩ dX9_measure_83) ?_
          exact KRc.iret C hr hlk (Option.some.inj hf) dX9_measure_86
        have hf := br_n c47_2 hf
        refine lv_tableOut (tgt := 87) C.1 C.2.1 dX9_measure_47 (by have q0 : ¬ z2.toInt = 0 := lv_neT c47_0 (by decide); have q1 : ¬ z2.toInt = 1 := lv_neT c47_1 (by decide); have q2 : ¬ z2.toInt = 2 := lv_neT c47_2 (by decide); omega) (by decide) ?_
        refine lv_aload_n C.1 C.2.1 dX9_measure_87 rfl (lv_at hl 0 rfl) ?_
        obtain ⟨r88, hc88, hf⟩ := bd_some hf
        refine cV_go (runRVc (As := []) C hK hP hZ hS wv_X9_157 hl (kc_X6_segments l D cA ad _ η F _ _ hv36 r88 hc88) (rcR hK hP hv36) rfl rfl rfl (Nat.le_of_ble_eq_true rfl) ⟨Nat.le_refl _, Nat.le_refl _⟩ dX9_measure_88) ?_
        exact KRc.iret C hr hlk (Option.some.inj hf) dX9_measure_91
    · have hf := br_p c21 hf
      refine lv_sipush (v := (-1002 : Int32)) C.1 C.2.1 dX9_measure_24 (by decide) ?_
      exact KRc.iret C hr hlk (Option.some.inj hf) dX9_measure_27
  · have hf := br_p c8 hf
    refine lv_sipush (v := (-1001 : Int32)) C.1 C.2.1 dX9_measure_11 (by decide) ?_
    exact KRc.iret C hr hlk (Option.some.inj hf) dX9_measure_14
def fc_X1_routeOf_L18 (F : Nat) (σ : CSt) (os0 : Option RV) : Option (Option RV) :=
  some os0
def fc_X1_routeOf (F : Nat) (σ : CSt) (x1 : Int32) : Option (Option RV) :=
  bd (fc_X1_hasConnector F σ x1) (fun r2 => if r2 = 0 then (fc_X1_routeOf_L18 F σ none) else (gd (ix x1 10 = true) (mo (cs_cr σ x1.toNatClampNeg) (fc_X1_routeOf_L18 F σ none) (fun v13 => fc_X1_routeOf_L18 F σ (some v13)))))
set_option maxHeartbeats 4000000 in
set_option maxRecDepth 100000 in
theorem kc_X1_routeOf (l : Launch) (D : va_G) (cA : Nat → ClassId) (ad : Nat → Nat) (σ : CSt) (η : HS) (F : Nat) (z1 : Int32) (r : Option RV) (hf : fc_X1_routeOf F σ z1 = some r) : KRc l D cA ad σ η yX1_routeOf cX1_routeOf 2 (some (.object "ConnectorRouter$Route")) (rmk 1 21) [.ref (ad 1), .int z1] (QcO cA η r) := by
  refine KRc.of (by decide) (Nat.le_of_ble_eq_true rfl) ?_
  intro p e s m below meth c C hr hlk hK hP hZ ls hl
  have hS : va_S NoA s.heap s.heap [] := va_S.rf
  have hl : lv_has ls 2 [(0, .ref (ad 1)), (1, .int z1)] := hl
  have hB18 : ∀ (ls : Array Slot) (qs0 : Option Nat) (os0 : Option RV), RelR cA η qs0 os0 → lv_has ls 2 [] → fc_X1_routeOf_L18 F σ os0 = some r → WRc p l e 1 21 s m [.ref (ad 1), .int z1] below meth c (QcO cA η r) (F0 m 18 ls [va_rf qs0]) := by
    intro ls qs0 os0 hos0 hl hf
    unfold fc_X1_routeOf_L18 at hf
    obtain rfl := Option.some.inj hf
    exact KRc.oret C hr hlk hos0 dX1_routeOf_18
  unfold fc_X1_routeOf at hf
  refine lv_aload_n C.1 C.2.1 dX1_routeOf_0 rfl (lv_at hl 0 rfl) ?_
  refine lv_iload_n C.1 C.2.1 dX1_routeOf_1 rfl (lv_at hl 1 rfl) ?_
  obtain ⟨r2, hc2, hf⟩ := bd_some hf
  refine cV_go (runRVc (As := [_]) C hK hP hZ hS wv_X1_56 hl (kc_X1_hasConnector l D cA ad _ η F _  r2 hc2) (rcC 1 2 hK hP rfl rfl) rfl rfl rfl (Nat.le_of_ble_eq_true rfl) ⟨Nat.le_refl _, Nat.le_refl _⟩ dX1_routeOf_2) ?_
  refine lv_if_eq (tgt := 17) C.1 C.2.1 dX1_routeOf_5 (by decide) (fun c5 => ?_) (fun c5 => ?_)
  · have hf := br_p c5 hf
    refine lv_null C.1 C.2.1 dX1_routeOf_17 ?_
    refine W.eq (g2 := F0 m 18 ls [va_rf none]) rfl ?_
    exact hB18 ls _ _ (Or.inl ⟨rfl, rfl⟩) (lv_sub hl [] rfl) hf
  · have hf := br_n c5 hf
    refine lv_aload_n C.1 C.2.1 dX1_routeOf_8 rfl (lv_at hl 0 rfl) ?_
    refine gc_cv_routes C hK hP wf_X1_24 dX1_routeOf_9 ?_
    refine lv_iload_n C.1 C.2.1 dX1_routeOf_12 rfl (lv_at hl 1 rfl) ?_
    obtain ⟨hi13, hf⟩ := gd_some hf
    refine lr_cr C hK hP hi13 dX1_routeOf_13 (fun hn13 => ?_) (fun a13 v13 he13 hv13 => ?_)
    · have hf := mo_n hn13 hf
      refine lv_goto (tgt := 18) C.1 C.2.1 dX1_routeOf_14 (by decide) ?_
      refine W.eq (g2 := F0 m 18 ls [va_rf none]) rfl ?_
      exact hB18 ls _ _ (Or.inl ⟨rfl, rfl⟩) (lv_sub hl [] rfl) hf
    · have hf := mo_s he13 hf
      refine lv_goto (tgt := 18) C.1 C.2.1 dX1_routeOf_14 (by decide) ?_
      refine W.eq (g2 := F0 m 18 ls [va_rf (some a13)]) rfl ?_
      exact hB18 ls _ _ (Or.inr ⟨_, _, rfl, rfl, hv13⟩) (lv_sub hl [] rfl) hf
def fc_X9_corner_L68 (F : Nat) (σ : CSt) (s0 : Int32) : Option (Int32) :=
  some s0
def fc_X9_corner_L30 (F : Nat) (σ : CSt) : Option (Int32) :=
  some (-1001 : Int32)
def fc_X9_corner (F : Nat) (σ : CSt) (x1 : Int32) (x2 : Int32) (x3 : Int32) : Option (Int32) :=
  bd (fc_X1_routeOf F σ x1) (fun r5 => mo r5 (fc_X9_corner_L30 F σ) (fun v5 => bd (fc_X6_corners F σ v5) (fun r19 => bd (fc_X9_isWithin F σ x2 (0 : Int32) (r19 - (1 : Int32))) (fun r24 => if r24 = 0 then (fc_X9_corner_L30 F σ) else (bd (fc_X9_isWithin F σ x3 (0 : Int32) (1 : Int32)) (fun r37 => if r37 = 0 then (some (-1002 : Int32)) else (if x3 = 0 then (gd (ix x2 (v5.2.1) = true) (fc_X9_corner_L68 F σ (v5.2.2.1 x2.toNatClampNeg))) else (gd (ix x2 (v5.2.1) = true) (fc_X9_corner_L68 F σ (v5.2.2.2 x2.toNatClampNeg))))))))))
set_option maxHeartbeats 4000000 in
set_option maxRecDepth 100000 in
theorem kc_X9_corner (l : Launch) (D : va_G) (cA : Nat → ClassId) (ad : Nat → Nat) (σ : CSt) (η : HS) (F : Nat) (z1 : Int32) (z2 : Int32) (z3 : Int32) (r : Int32) (hf : fc_X9_corner F σ z1 z2 z3 = some r) : KRc l D cA ad σ η yX9_corner cX9_corner 5 (some .int) (rmk 2 42) [.ref (ad 0), .int z1, .int z2, .int z3] (QcV (.int r)) := by
  refine KRc.of (by decide) (Nat.le_of_ble_eq_true rfl) ?_
  intro p e s m below meth c C hr hlk hK hP hZ ls hl
  have hS : va_S NoA s.heap s.heap [] := va_S.rf
  have hl : lv_has ls 5 [(0, .ref (ad 0)), (1, .int z1), (2, .int z2), (3, .int z3)] := hl
  have hB68 : ∀ (ls : Array Slot) (s0 : Int32), lv_has ls 5 [] → fc_X9_corner_L68 F σ s0 = some r → WRc p l e 2 42 s m [.ref (ad 0), .int z1, .int z2, .int z3] below meth c (QcV (.int r)) (F0 m 68 ls [.int s0]) := by
    intro ls s0 hl hf
    unfold fc_X9_corner_L68 at hf
    exact KRc.iret C hr hlk (Option.some.inj hf) dX9_corner_68
  have hB30 : ∀ (ls : Array Slot), lv_has ls 5 [] → fc_X9_corner_L30 F σ = some r → WRc p l e 2 42 s m [.ref (ad 0), .int z1, .int z2, .int z3] below meth c (QcV (.int r)) (F0 m 30 ls []) := by
    intro ls hl hf
    unfold fc_X9_corner_L30 at hf
    refine lv_sipush (v := (-1001 : Int32)) C.1 C.2.1 dX9_corner_30 (by decide) ?_
    exact KRc.iret C hr hlk (Option.some.inj hf) dX9_corner_33
  unfold fc_X9_corner at hf
  refine lv_aload_n C.1 C.2.1 dX9_corner_0 rfl (lv_at hl 0 rfl) ?_
  refine gc_R_canvas C hK hP wf_X9_10 dX9_corner_1 ?_
  refine lv_iload_n C.1 C.2.1 dX9_corner_4 rfl (lv_at hl 1 rfl) ?_
  obtain ⟨r5, hc5, hf⟩ := bd_some hf
  refine cO_go (runRVc (As := [_]) C hK hP hZ hS wv_X9_160 hl (kc_X1_routeOf l D cA ad _ η F _  r5 hc5) (rcC 1 2 hK hP rfl rfl) rfl rfl rfl (Nat.le_of_ble_eq_true rfl) ⟨Nat.le_refl _, Nat.le_refl _⟩ dX9_corner_5) (fun hn5 => ?_) (fun a5 v5 he5 hv5 => ?_)
  · have hf := mo_n hn5 hf
    refine lv_astoreN (lv' := [(4, .null), (0, .ref (ad 0)), (1, .int z1), (2, .int z2), (3, .int z3)]) C.1 C.2.1 dX9_corner_8 hl (by decide) rfl (fun ls hl => ?_)
    refine lv_aloadN C.1 C.2.1 dX9_corner_10 (lv_at hl 0 rfl) ?_
    refine lv_ifnullN (tgt := 30) C.1 C.2.1 dX9_corner_12 (by decide) ?_
    exact hB30 ls (lv_sub hl [] rfl) hf
  · have hf := mo_s he5 hf
    refine lv_astore (lv' := [(4, .ref a5), (0, .ref (ad 0)), (1, .int z1), (2, .int z2), (3, .int z3)]) C.1 C.2.1 dX9_corner_8 hl (by decide) rfl (fun ls hl => ?_)
    refine lv_aload C.1 C.2.1 dX9_corner_10 (lv_at hl 0 rfl) ?_
    refine lv_ifnull C.1 C.2.1 dX9_corner_12 ?_
    refine lv_iload_n C.1 C.2.1 dX9_corner_15 rfl (lv_at hl 3 rfl) ?_
    refine lv_iconst (v := (0 : Int32)) C.1 C.2.1 dX9_corner_16 (by decide) ?_
    refine lv_aload C.1 C.2.1 dX9_corner_17 (lv_at hl 0 rfl) ?_
    obtain ⟨r19, hc19, hf⟩ := bd_some hf
    refine cV_go (runRVc (As := []) C hK hP hZ hS wv_X9_154 hl (kc_X6_corners l D cA ad _ η F _ _ hv5 r19 hc19) (rcR hK hP hv5) rfl rfl rfl (Nat.le_of_ble_eq_true rfl) ⟨Nat.le_refl _, Nat.le_refl _⟩ dX9_corner_19) ?_
    refine lv_iconst (v := (1 : Int32)) C.1 C.2.1 dX9_corner_22 (by decide) ?_
    refine lv_isub C.1 C.2.1 dX9_corner_23 ?_
    obtain ⟨r24, hc24, hf⟩ := bd_some hf
    refine cV_go (runRSc (As := [_, _, _]) C hK hP hZ hS wv_X9_74 hl (kc_X9_isWithin l D cA ad _ η F _ _ _  r24 hc24) rfl rfl rfl (Nat.le_of_ble_eq_true rfl) ⟨Nat.le_refl _, Nat.le_refl _⟩ dX9_corner_24) ?_
    refine lv_if_ne (tgt := 34) C.1 C.2.1 dX9_corner_27 (by decide) (fun c27 => ?_) (fun c27 => ?_)
    · have hf := br_n c27 hf
      refine lv_iload_n C.1 C.2.1 dX9_corner_34 rfl (lv_at hl 4 rfl) ?_
      refine lv_iconst (v := (0 : Int32)) C.1 C.2.1 dX9_corner_35 (by decide) ?_
      refine lv_iconst (v := (1 : Int32)) C.1 C.2.1 dX9_corner_36 (by decide) ?_
      obtain ⟨r37, hc37, hf⟩ := bd_some hf
      refine cV_go (runRSc (As := [_, _, _]) C hK hP hZ hS wv_X9_74 hl (kc_X9_isWithin l D cA ad _ η F _ _ _  r37 hc37) rfl rfl rfl (Nat.le_of_ble_eq_true rfl) ⟨Nat.le_refl _, Nat.le_refl _⟩ dX9_corner_37) ?_
      refine lv_if_ne (tgt := 47) C.1 C.2.1 dX9_corner_40 (by decide) (fun c40 => ?_) (fun c40 => ?_)
      · have hf := br_n c40 hf
        refine lv_iload_n C.1 C.2.1 dX9_corner_47 rfl (lv_at hl 4 rfl) ?_
        refine lv_if_ne (tgt := 61) C.1 C.2.1 dX9_corner_48 (by decide) (fun c48 => ?_) (fun c48 => ?_)
        · have hf := br_n c48 hf
          refine lv_aload C.1 C.2.1 dX9_corner_61 (lv_at hl 0 rfl) ?_
          refine gp_ys C hK hP hv5 wf_X9_168 dX9_corner_63 (fun q63 hq63 => ?_)
          refine lv_iload_n C.1 C.2.1 dX9_corner_66 rfl (lv_at hl 3 rfl) ?_
          obtain ⟨hi67, hf⟩ := gd_some hf
          refine lp_pa C hK hP hq63 hi67 dX9_corner_67 ?_
          exact hB68 ls _ (lv_sub hl [] rfl) hf
        · have hf := br_p c48 hf
          refine lv_aload C.1 C.2.1 dX9_corner_51 (lv_at hl 0 rfl) ?_
          refine gp_xs C hK hP hv5 wf_X9_164 dX9_corner_53 (fun q53 hq53 => ?_)
          refine lv_iload_n C.1 C.2.1 dX9_corner_56 rfl (lv_at hl 3 rfl) ?_
          obtain ⟨hi57, hf⟩ := gd_some hf
          refine lp_pa C hK hP hq53 hi57 dX9_corner_57 ?_
          refine lv_goto (tgt := 68) C.1 C.2.1 dX9_corner_58 (by decide) ?_
          exact hB68 ls _ (lv_sub hl [] rfl) hf
      · have hf := br_p c40 hf
        refine lv_sipush (v := (-1002 : Int32)) C.1 C.2.1 dX9_corner_43 (by decide) ?_
        exact KRc.iret C hr hlk (Option.some.inj hf) dX9_corner_46
    · have hf := br_p c27 hf
      exact hB30 ls (lv_sub hl [] rfl) hf
def fc_X6_hasCornerAt_L32 (F : Nat) (σ : CSt) (k2 : RV → Int32 → Int32 → Int32 → Option (Int32)) (vx0 : RV) (x1 : Int32) (x2 : Int32) (x3 : Int32) : Option (Int32) :=
  lt (x3 + (1 : Int32)) (fun x3_32 => k2 vx0 x1 x2 x3_32)
def fc_X6_hasCornerAt_L2_c (F : Nat) (σ : CSt) (k2 : RV → Int32 → Int32 → Int32 → Option (Int32)) (vx0 : RV) (x1 : Int32) (x2 : Int32) (x3 : Int32) : Option (Int32) :=
  bd (fc_X6_corners F σ vx0) (fun r4 => if r4 ≤ x3 then (some (0 : Int32)) else (gd (ix x3 (vx0.2.1) = true) (if (vx0.2.2.1 x3.toNatClampNeg) = x1 then (gd (ix x3 (vx0.2.1) = true) (if (vx0.2.2.2 x3.toNatClampNeg) = x2 then (some (1 : Int32)) else (fc_X6_hasCornerAt_L32 F σ k2 vx0 x1 x2 x3))) else (fc_X6_hasCornerAt_L32 F σ k2 vx0 x1 x2 x3))))
def fc_X6_hasCornerAt_L2 (F : Nat) (σ : CSt) (n : Nat) (vx0 : RV) (x1 : Int32) (x2 : Int32) (x3 : Int32) : Option (Int32) := lpN (fun (k : RV × Int32 × Int32 × Int32 → Option (Int32)) a => fc_X6_hasCornerAt_L2_c F σ (fun vx0 x1 x2 x3 => k (vx0, x1, x2, x3)) a.1 a.2.1 a.2.2.1 a.2.2.2) n (vx0, x1, x2, x3)
def fc_X6_hasCornerAt (F : Nat) (σ : CSt) (vx0 : RV) (x1 : Int32) (x2 : Int32) : Option (Int32) :=
  fc_X6_hasCornerAt_L2 F σ F vx0 x1 x2 (0 : Int32)
set_option maxHeartbeats 4000000 in
set_option maxRecDepth 100000 in
theorem kc_X6_hasCornerAt (l : Launch) (D : va_G) (cA : Nat → ClassId) (ad : Nat → Nat) (σ : CSt) (η : HS) (F : Nat) (az0 : Nat) (vz0 : RV) (z1 : Int32) (z2 : Int32) (hvz0 : isRt cA η az0 vz0) (r : Int32) (hf : fc_X6_hasCornerAt F σ vz0 z1 z2 = some r) : KRc l D cA ad σ η yX6_hasCornerAt cX6_hasCornerAt 4 (some .boolean) (rmk 1 20) [.ref az0, .int z1, .int z2] (QcV (.int r)) := by
  refine KRc.of (by decide) (Nat.le_of_ble_eq_true rfl) ?_
  intro p e s m below meth c C hr hlk hK hP hZ ls hl
  have hS : va_S NoA s.heap s.heap [] := va_S.rf
  have hl : lv_has ls 4 [(0, .ref az0), (1, .int z1), (2, .int z2)] := hl
  have hB2 : ∀ (n2 : Nat) (ls : Array Slot) (ax0 : Nat) (vx0 : RV) (x1 : Int32) (x2 : Int32) (x3 : Int32), isRt cA η ax0 vx0 → lv_has ls 4 [(0, .ref ax0), (1, .int x1), (2, .int x2), (3, .int x3)] → fc_X6_hasCornerAt_L2 F σ n2 vx0 x1 x2 x3 = some r → WRc p l e 1 20 s m [.ref az0, .int z1, .int z2] below meth c (QcV (.int r)) (F0 m 2 ls []) := by
    intro n2
    induction n2 with
    | zero =>
      intro ls ax0 vx0 x1 x2 x3 hvx0 hl hf
      cases (show (none : Option _) = _ from hf)
    | succ n2 ih2 =>
      have hB32 : ∀ (ls : Array Slot) (ax0 : Nat) (vx0 : RV) (x1 : Int32) (x2 : Int32) (x3 : Int32), isRt cA η ax0 vx0 → lv_has ls 4 [(0, .ref ax0), (1, .int x1), (2, .int x2), (3, .int x3)] → fc_X6_hasCornerAt_L32 F σ (fc_X6_hasCornerAt_L2 F σ n2) vx0 x1 x2 x3 = some r → WRc p l e 1 20 s m [.ref az0, .int z1, .int z2] below meth c (QcV (.int r)) (F0 m 32 ls []) := by
        intro ls ax0 vx0 x1 x2 x3 hvx0 hl hf
        unfold fc_X6_hasCornerAt_L32 at hf
        obtain ⟨x3_32, ex3_32, hf⟩ := lt_some hf
        refine lv_iinc (v := x3_32) (lv' := [(3, .int x3_32), (0, .ref ax0), (1, .int x1), (2, .int x2)]) C.1 C.2.1 dX6_hasCornerAt_32 hl (k := 3) rfl (by rw [ex3_32]; rfl) (by decide) rfl (fun ls hl => ?_)
        refine lv_goto (tgt := 2) C.1 C.2.1 dX6_hasCornerAt_35 (by decide) ?_
        exact ih2 ls _ _ _ _ _ hvx0 (lv_sub hl [1, 2, 3, 0] rfl) hf
      intro ls ax0 vx0 x1 x2 x3 hvx0 hl hf
      have hf : fc_X6_hasCornerAt_L2_c F σ (fc_X6_hasCornerAt_L2 F σ n2) vx0 x1 x2 x3 = some r := hf
      unfold fc_X6_hasCornerAt_L2_c at hf
      refine lv_iload_n C.1 C.2.1 dX6_hasCornerAt_2 rfl (lv_at hl 3 rfl) ?_
      refine lv_aload_n C.1 C.2.1 dX6_hasCornerAt_3 rfl (lv_at hl 0 rfl) ?_
      obtain ⟨r4, hc4, hf⟩ := bd_some hf
      refine cV_go (runRVc (As := []) C hK hP hZ hS wv_X6_44 hl (kc_X6_corners l D cA ad _ η F _ _ hvx0 r4 hc4) (rcR hK hP hvx0) rfl rfl rfl (Nat.le_of_ble_eq_true rfl) ⟨Nat.le_refl _, Nat.le_refl _⟩ dX6_hasCornerAt_4) ?_
      refine lv_icmp_ge (tgt := 38) C.1 C.2.1 dX6_hasCornerAt_7 (by decide) (fun c7 => ?_) (fun c7 => ?_)
      · have hf := br_p c7 hf
        refine lv_iconst (v := (0 : Int32)) C.1 C.2.1 dX6_hasCornerAt_38 (by decide) ?_
        exact KRc.zret C hr hlk (by decide) (Option.some.inj hf) dX6_hasCornerAt_39
      · have hf := br_n c7 hf
        refine lv_aload_n C.1 C.2.1 dX6_hasCornerAt_10 rfl (lv_at hl 0 rfl) ?_
        refine gp_xs C hK hP hvx0 wf_X6_13 dX6_hasCornerAt_11 (fun q11 hq11 => ?_)
        refine lv_iload_n C.1 C.2.1 dX6_hasCornerAt_14 rfl (lv_at hl 3 rfl) ?_
        obtain ⟨hi15, hf⟩ := gd_some hf
        refine lp_pa C hK hP hq11 hi15 dX6_hasCornerAt_15 ?_
        refine lv_iload_n C.1 C.2.1 dX6_hasCornerAt_16 rfl (lv_at hl 1 rfl) ?_
        refine lv_icmp_ne (tgt := 32) C.1 C.2.1 dX6_hasCornerAt_17 (by decide) (fun c17 => ?_) (fun c17 => ?_)
        · have hf := br_n c17 hf
          exact hB32 ls _ _ _ _ _ hvx0 (lv_sub hl [0, 1, 2, 3] rfl) hf
        · have hf := br_p c17 hf
          refine lv_aload_n C.1 C.2.1 dX6_hasCornerAt_20 rfl (lv_at hl 0 rfl) ?_
          refine gp_ys C hK hP hvx0 wf_X6_17 dX6_hasCornerAt_21 (fun q21 hq21 => ?_)
          refine lv_iload_n C.1 C.2.1 dX6_hasCornerAt_24 rfl (lv_at hl 3 rfl) ?_
          obtain ⟨hi25, hf⟩ := gd_some hf
          refine lp_pa C hK hP hq21 hi25 dX6_hasCornerAt_25 ?_
          refine lv_iload_n C.1 C.2.1 dX6_hasCornerAt_26 rfl (lv_at hl 2 rfl) ?_
          refine lv_icmp_ne (tgt := 32) C.1 C.2.1 dX6_hasCornerAt_27 (by decide) (fun c27 => ?_) (fun c27 => ?_)
          · have hf := br_n c27 hf
            exact hB32 ls _ _ _ _ _ hvx0 (lv_sub hl [0, 1, 2, 3] rfl) hf
          · have hf := br_p c27 hf
            refine lv_iconst (v := (1 : Int32)) C.1 C.2.1 dX6_hasCornerAt_30 (by decide) ?_
            exact KRc.zret C hr hlk (by decide) (Option.some.inj hf) dX6_hasCornerAt_31
  unfold fc_X6_hasCornerAt at hf
  refine lv_iconst (v := (0 : Int32)) C.1 C.2.1 dX6_hasCornerAt_0 (by decide) ?_
  refine lv_istore_n (lv' := [(3, .int (0 : Int32)), (0, .ref az0), (1, .int z1), (2, .int z2)]) C.1 C.2.1 dX6_hasCornerAt_1 rfl hl (by decide) rfl (fun ls hl => ?_)
  exact hB2 F ls _ _ _ _ _ hvz0 (lv_sub hl [1, 2, 3, 0] rfl) hf
def fc_X6_passes_L72 (F : Nat) (σ : CSt) (k2 : RV → Int32 → Int32 → Int32 → Option (Int32)) (vx0 : RV) (x1 : Int32) (x2 : Int32) (x3 : Int32) : Option (Int32) :=
  lt (x3 + (1 : Int32)) (fun x3_72 => k2 vx0 x1 x2 x3_72)
def fc_X6_passes_L38 (F : Nat) (σ : CSt) (k2 : RV → Int32 → Int32 → Int32 → Option (Int32)) (vx0 : RV) (x1 : Int32) (x2 : Int32) (x3 : Int32) (x4 : Int32) (s0 : Int32) : Option (Int32) :=
  bd (fc_X6_lineOf F σ vx0 x3) (fun r44 => if s0 = r44 then (bd (fc_X6_startOf F σ vx0 x3) (fun r54 => if x4 < r54 then (fc_X6_passes_L72 F σ k2 vx0 x1 x2 x3) else (bd (fc_X6_endOf F σ vx0 x3) (fun r64 => if r64 < x4 then (fc_X6_passes_L72 F σ k2 vx0 x1 x2 x3) else (some (1 : Int32)))))) else (fc_X6_passes_L72 F σ k2 vx0 x1 x2 x3))
def fc_X6_passes_L23 (F : Nat) (σ : CSt) (k2 : RV → Int32 → Int32 → Int32 → Option (Int32)) (vx0 : RV) (x1 : Int32) (x2 : Int32) (x3 : Int32) (s0 : Int32) : Option (Int32) :=
  bd (fc_X6_isLevel F σ vx0 x3) (fun r27 => if r27 = 0 then (fc_X6_passes_L38 F σ k2 vx0 x1 x2 x3 s0 x1) else (fc_X6_passes_L38 F σ k2 vx0 x1 x2 x3 s0 x2))
def fc_X6_passes_L2_c (F : Nat) (σ : CSt) (k2 : RV → Int32 → Int32 → Int32 → Option (Int32)) (vx0 : RV) (x1 : Int32) (x2 : Int32) (x3 : Int32) : Option (Int32) :=
  bd (fc_X6_segments F σ vx0) (fun r4 => if r4 ≤ x3 then (some (0 : Int32)) else (bd (fc_X6_isLevel F σ vx0 x3) (fun r12 => if r12 = 0 then (fc_X6_passes_L23 F σ k2 vx0 x1 x2 x3 x2) else (fc_X6_passes_L23 F σ k2 vx0 x1 x2 x3 x1))))
def fc_X6_passes_L2 (F : Nat) (σ : CSt) (n : Nat) (vx0 : RV) (x1 : Int32) (x2 : Int32) (x3 : Int32) : Option (Int32) := lpN (fun (k : RV × Int32 × Int32 × Int32 → Option (Int32)) a => fc_X6_passes_L2_c F σ (fun vx0 x1 x2 x3 => k (vx0, x1, x2, x3)) a.1 a.2.1 a.2.2.1 a.2.2.2) n (vx0, x1, x2, x3)
def fc_X6_passes (F : Nat) (σ : CSt) (vx0 : RV) (x1 : Int32) (x2 : Int32) : Option (Int32) :=
  fc_X6_passes_L2 F σ F vx0 x1 x2 (0 : Int32)
set_option maxHeartbeats 4000000 in
set_option maxRecDepth 100000 in
theorem kc_X6_passes (l : Launch) (D : va_G) (cA : Nat → ClassId) (ad : Nat → Nat) (σ : CSt) (η : HS) (F : Nat) (az0 : Nat) (vz0 : RV) (z1 : Int32) (z2 : Int32) (hvz0 : isRt cA η az0 vz0) (r : Int32) (hf : fc_X6_passes F σ vz0 z1 z2 = some r) : KRc l D cA ad σ η yX6_passes cX6_passes 6 (some .boolean) (rmk 2 42) [.ref az0, .int z1, .int z2] (QcV (.int r)) := by
  refine KRc.of (by decide) (Nat.le_of_ble_eq_true rfl) ?_
  intro p e s m below meth c C hr hlk hK hP hZ ls hl
  have hS : va_S NoA s.heap s.heap [] := va_S.rf
  have hl : lv_has ls 6 [(0, .ref az0), (1, .int z1), (2, .int z2)] := hl
  have hB2 : ∀ (n2 : Nat) (ls : Array Slot) (ax0 : Nat) (vx0 : RV) (x1 : Int32) (x2 : Int32) (x3 : Int32), isRt cA η ax0 vx0 → lv_has ls 6 [(0, .ref ax0), (1, .int x1), (2, .int x2), (3, .int x3)] → fc_X6_passes_L2 F σ n2 vx0 x1 x2 x3 = some r → WRc p l e 2 42 s m [.ref az0, .int z1, .int z2] below meth c (QcV (.int r)) (F0 m 2 ls []) := by
    intro n2
    induction n2 with
    | zero =>
      intro ls ax0 vx0 x1 x2 x3 hvx0 hl hf
      cases (show (none : Option _) = _ from hf)
    | succ n2 ih2 =>
      have hB72 : ∀ (ls : Array Slot) (ax0 : Nat) (vx0 : RV) (x1 : Int32) (x2 : Int32) (x3 : Int32), isRt cA η ax0 vx0 → lv_has ls 6 [(0, .ref ax0), (1, .int x1), (2, .int x2), (3, .int x3)] → fc_X6_passes_L72 F σ (fc_X6_passes_L2 F σ n2) vx0 x1 x2 x3 = some r → WRc p l e 2 42 s m [.ref az0, .int z1, .int z2] below meth c (QcV (.int r)) (F0 m 72 ls []) := by
        intro ls ax0 vx0 x1 x2 x3 hvx0 hl hf
        unfold fc_X6_passes_L72 at hf
        obtain ⟨x3_72, ex3_72, hf⟩ := lt_some hf
        refine lv_iinc (v := x3_72) (lv' := [(3, .int x3_72), (0, .ref ax0), (1, .int x1), (2, .int x2)]) C.1 C.2.1 dX6_passes_72 hl (k := 3) rfl (by rw [ex3_72]; rfl) (by decide) rfl (fun ls hl => ?_)
        refine lv_goto (tgt := 2) C.1 C.2.1 dX6_passes_75 (by decide) ?_
        exact ih2 ls _ _ _ _ _ hvx0 (lv_sub hl [1, 2, 3, 0] rfl) hf
      have hB38 : ∀ (ls : Array Slot) (ax0 : Nat) (vx0 : RV) (x1 : Int32) (x2 : Int32) (x3 : Int32) (x4 : Int32) (s0 : Int32), isRt cA η ax0 vx0 → lv_has ls 6 [(0, .ref ax0), (1, .int x1), (2, .int x2), (3, .int x3), (4, .int x4)] → fc_X6_passes_L38 F σ (fc_X6_passes_L2 F σ n2) vx0 x1 x2 x3 x4 s0 = some r → WRc p l e 2 42 s m [.ref az0, .int z1, .int z2] below meth c (QcV (.int r)) (F0 m 38 ls [.int s0]) := by
        intro ls ax0 vx0 x1 x2 x3 x4 s0 hvx0 hl hf
        unfold fc_X6_passes_L38 at hf
        refine lv_istore (lv' := [(5, .int s0), (0, .ref ax0), (1, .int x1), (2, .int x2), (3, .int x3), (4, .int x4)]) C.1 C.2.1 dX6_passes_38 hl (by decide) rfl (fun ls hl => ?_)
        refine lv_iload C.1 C.2.1 dX6_passes_40 (lv_at hl 0 rfl) ?_
        refine lv_aload_n C.1 C.2.1 dX6_passes_42 rfl (lv_at hl 1 rfl) ?_
        refine lv_iload_n C.1 C.2.1 dX6_passes_43 rfl (lv_at hl 4 rfl) ?_
        obtain ⟨r44, hc44, hf⟩ := bd_some hf
        refine cV_go (runRVc (As := [_]) C hK hP hZ hS wv_X6_47 hl (kc_X6_lineOf l D cA ad _ η F _ _ _ hvx0 r44 hc44) (rcR hK hP hvx0) rfl rfl rfl (Nat.le_of_ble_eq_true rfl) ⟨Nat.le_refl _, Nat.le_refl _⟩ dX6_passes_44) ?_
        refine lv_icmp_ne (tgt := 72) C.1 C.2.1 dX6_passes_47 (by decide) (fun c47 => ?_) (fun c47 => ?_)
        · have hf := br_n c47 hf
          exact hB72 ls _ _ _ _ _ hvx0 (lv_sub hl [1, 2, 3, 4] rfl) hf
        · have hf := br_p c47 hf
          refine lv_iload C.1 C.2.1 dX6_passes_50 (lv_at hl 5 rfl) ?_
          refine lv_aload_n C.1 C.2.1 dX6_passes_52 rfl (lv_at hl 1 rfl) ?_
          refine lv_iload_n C.1 C.2.1 dX6_passes_53 rfl (lv_at hl 4 rfl) ?_
          obtain ⟨r54, hc54, hf⟩ := bd_some hf
          refine cV_go (runRVc (As := [_]) C hK hP hZ hS wv_X6_41 hl (kc_X6_startOf l D cA ad _ η F _ _ _ hvx0 r54 hc54) (rcR hK hP hvx0) rfl rfl rfl (Nat.le_of_ble_eq_true rfl) ⟨Nat.le_refl _, Nat.le_refl _⟩ dX6_passes_54) ?_
          refine lv_icmp_lt (tgt := 72) C.1 C.2.1 dX6_passes_57 (by decide) (fun c57 => ?_) (fun c57 => ?_)
          · have hf := br_p c57 hf
            exact hB72 ls _ _ _ _ _ hvx0 (lv_sub hl [1, 2, 3, 4] rfl) hf
          · have hf := br_n c57 hf
            refine lv_iload C.1 C.2.1 dX6_passes_60 (lv_at hl 5 rfl) ?_
            refine lv_aload_n C.1 C.2.1 dX6_passes_62 rfl (lv_at hl 1 rfl) ?_
            refine lv_iload_n C.1 C.2.1 dX6_passes_63 rfl (lv_at hl 4 rfl) ?_
            obtain ⟨r64, hc64, hf⟩ := bd_some hf
            refine cV_go (runRVc (As := [_]) C hK hP hZ hS wv_X6_37 hl (kc_X6_endOf l D cA ad _ η F _ _ _ hvx0 r64 hc64) (rcR hK hP hvx0) rfl rfl rfl (Nat.le_of_ble_eq_true rfl) ⟨Nat.le_refl _, Nat.le_refl _⟩ dX6_passes_64) ?_
            refine lv_icmp_gt (tgt := 72) C.1 C.2.1 dX6_passes_67 (by decide) (fun c67 => ?_) (fun c67 => ?_)
            · have hf := br_p c67 hf
              exact hB72 ls _ _ _ _ _ hvx0 (lv_sub hl [1, 2, 3, 4] rfl) hf
            · have hf := br_n c67 hf
              refine lv_iconst (v := (1 : Int32)) C.1 C.2.1 dX6_passes_70 (by decide) ?_
              exact KRc.zret C hr hlk (by decide) (Option.some.inj hf) dX6_passes_71
      have hB23 : ∀ (ls : Array Slot) (ax0 : Nat) (vx0 : RV) (x1 : Int32) (x2 : Int32) (x3 : Int32) (s0 : Int32), isRt cA η ax0 vx0 → lv_has ls 6 [(0, .ref ax0), (1, .int x1), (2, .int x2), (3, .int x3)] → fc_X6_passes_L23 F σ (fc_X6_passes_L2 F σ n2) vx0 x1 x2 x3 s0 = some r → WRc p l e 2 42 s m [.ref az0, .int z1, .int z2] below meth c (QcV (.int r)) (F0 m 23 ls [.int s0]) := by
        intro ls ax0 vx0 x1 x2 x3 s0 hvx0 hl hf
        unfold fc_X6_passes_L23 at hf
        refine lv_istore (lv' := [(4, .int s0), (0, .ref ax0), (1, .int x1), (2, .int x2), (3, .int x3)]) C.1 C.2.1 dX6_passes_23 hl (by decide) rfl (fun ls hl => ?_)
        refine lv_aload_n C.1 C.2.1 dX6_passes_25 rfl (lv_at hl 1 rfl) ?_
        refine lv_iload_n C.1 C.2.1 dX6_passes_26 rfl (lv_at hl 4 rfl) ?_
        obtain ⟨r27, hc27, hf⟩ := bd_some hf
        refine cV_go (runRVc (As := [_]) C hK hP hZ hS wv_X6_24 hl (kc_X6_isLevel l D cA ad _ η F _ _ _ hvx0 r27 hc27) (rcR hK hP hvx0) rfl rfl rfl (Nat.le_of_ble_eq_true rfl) ⟨Nat.le_refl _, Nat.le_refl _⟩ dX6_passes_27) ?_
        refine lv_if_eq (tgt := 37) C.1 C.2.1 dX6_passes_30 (by decide) (fun c30 => ?_) (fun c30 => ?_)
        · have hf := br_p c30 hf
          refine lv_iload_n C.1 C.2.1 dX6_passes_37 rfl (lv_at hl 2 rfl) ?_
          exact hB38 ls _ _ _ _ _ _ _ hvx0 (lv_sub hl [1, 2, 3, 4, 0] rfl) hf
        · have hf := br_n c30 hf
          refine lv_iload_n C.1 C.2.1 dX6_passes_33 rfl (lv_at hl 3 rfl) ?_
          refine lv_goto (tgt := 38) C.1 C.2.1 dX6_passes_34 (by decide) ?_
          exact hB38 ls _ _ _ _ _ _ _ hvx0 (lv_sub hl [1, 2, 3, 4, 0] rfl) hf
      intro ls ax0 vx0 x1 x2 x3 hvx0 hl hf
      have hf : fc_X6_passes_L2_c F σ (fc_X6_passes_L2 F σ n2) vx0 x1 x2 x3 = some r := hf
      unfold fc_X6_passes_L2_c at hf
      refine lv_iload_n C.1 C.2.1 dX6_passes_2 rfl (lv_at hl 3 rfl) ?_
      refine lv_aload_n C.1 C.2.1 dX6_passes_3 rfl (lv_at hl 0 rfl) ?_
      obtain ⟨r4, hc4, hf⟩ := bd_some hf
      refine cV_go (runRVc (As := []) C hK hP hZ hS wv_X6_20 hl (kc_X6_segments l D cA ad _ η F _ _ hvx0 r4 hc4) (rcR hK hP hvx0) rfl rfl rfl (Nat.le_of_ble_eq_true rfl) ⟨Nat.le_refl _, Nat.le_refl _⟩ dX6_passes_4) ?_
      refine lv_icmp_ge (tgt := 78) C.1 C.2.1 dX6_passes_7 (by decide) (fun c7 => ?_) (fun c7 => ?_)
      · have hf := br_p c7 hf
        refine lv_iconst (v := (0 : Int32)) C.1 C.2.1 dX6_passes_78 (by decide) ?_
        exact KRc.zret C hr hlk (by decide) (Option.some.inj hf) dX6_passes_79
      · have hf := br_n c7 hf
        refine lv_aload_n C.1 C.2.1 dX6_passes_10 rfl (lv_at hl 0 rfl) ?_
        refine lv_iload_n C.1 C.2.1 dX6_passes_11 rfl (lv_at hl 3 rfl) ?_
        obtain ⟨r12, hc12, hf⟩ := bd_some hf
        refine cV_go (runRVc (As := [_]) C hK hP hZ hS wv_X6_24 hl (kc_X6_isLevel l D cA ad _ η F _ _ _ hvx0 r12 hc12) (rcR hK hP hvx0) rfl rfl rfl (Nat.le_of_ble_eq_true rfl) ⟨Nat.le_refl _, Nat.le_refl _⟩ dX6_passes_12) ?_
        refine lv_if_eq (tgt := 22) C.1 C.2.1 dX6_passes_15 (by decide) (fun c15 => ?_) (fun c15 => ?_)
        · have hf := br_p c15 hf
          refine lv_iload_n C.1 C.2.1 dX6_passes_22 rfl (lv_at hl 2 rfl) ?_
          exact hB23 ls _ _ _ _ _ _ hvx0 (lv_sub hl [0, 1, 2, 3] rfl) hf
        · have hf := br_n c15 hf
          refine lv_iload_n C.1 C.2.1 dX6_passes_18 rfl (lv_at hl 1 rfl) ?_
          refine lv_goto (tgt := 23) C.1 C.2.1 dX6_passes_19 (by decide) ?_
          exact hB23 ls _ _ _ _ _ _ hvx0 (lv_sub hl [0, 1, 2, 3] rfl) hf
  unfold fc_X6_passes at hf
  refine lv_iconst (v := (0 : Int32)) C.1 C.2.1 dX6_passes_0 (by decide) ?_
  refine lv_istore_n (lv' := [(3, .int (0 : Int32)), (0, .ref az0), (1, .int z1), (2, .int z2)]) C.1 C.2.1 dX6_passes_1 rfl hl (by decide) rfl (fun ls hl => ?_)
  exact hB2 F ls _ _ _ _ _ hvz0 (lv_sub hl [1, 2, 3, 0] rfl) hf
def fc_X9_isOn_L60 (F : Nat) (σ : CSt) (s0 : Int32) : Option (Int32) :=
  some s0
def fc_X9_isOn (F : Nat) (σ : CSt) (x1 : Int32) (x2 : Int32) (x3 : Int32) : Option (Int32) :=
  bd (fc_X1_hasConnector F σ x1) (fun r5 => if r5 = 0 then (some (-1001 : Int32)) else (gd (ix x1 10 = true) (mo (cs_cr σ x1.toNatClampNeg) (some (0 : Int32)) (fun v23 => bd (fc_X6_hasCornerAt F σ v23 x2 x3) (fun r37 => if r37 = 0 then (bd (fc_X6_passes F σ v23 x2 x3) (fun r49 => if r49 = 0 then (fc_X9_isOn_L60 F σ (0 : Int32)) else (fc_X9_isOn_L60 F σ (1 : Int32)))) else (some (2 : Int32)))))))
set_option maxHeartbeats 4000000 in
set_option maxRecDepth 100000 in
theorem kc_X9_isOn (l : Launch) (D : va_G) (cA : Nat → ClassId) (ad : Nat → Nat) (σ : CSt) (η : HS) (F : Nat) (z1 : Int32) (z2 : Int32) (z3 : Int32) (r : Int32) (hf : fc_X9_isOn F σ z1 z2 z3 = some r) : KRc l D cA ad σ η yX9_isOn cX9_isOn 5 (some .int) (rmk 3 67) [.ref (ad 0), .int z1, .int z2, .int z3] (QcV (.int r)) := by
  refine KRc.of (by decide) (Nat.le_of_ble_eq_true rfl) ?_
  intro p e s m below meth c C hr hlk hK hP hZ ls hl
  have hS : va_S NoA s.heap s.heap [] := va_S.rf
  have hl : lv_has ls 5 [(0, .ref (ad 0)), (1, .int z1), (2, .int z2), (3, .int z3)] := hl
  have hB60 : ∀ (ls : Array Slot) (s0 : Int32), lv_has ls 5 [] → fc_X9_isOn_L60 F σ s0 = some r → WRc p l e 3 67 s m [.ref (ad 0), .int z1, .int z2, .int z3] below meth c (QcV (.int r)) (F0 m 60 ls [.int s0]) := by
    intro ls s0 hl hf
    unfold fc_X9_isOn_L60 at hf
    exact KRc.iret C hr hlk (Option.some.inj hf) dX9_isOn_60
  unfold fc_X9_isOn at hf
  refine lv_aload_n C.1 C.2.1 dX9_isOn_0 rfl (lv_at hl 0 rfl) ?_
  refine gc_R_canvas C hK hP wf_X9_10 dX9_isOn_1 ?_
  refine lv_iload_n C.1 C.2.1 dX9_isOn_4 rfl (lv_at hl 1 rfl) ?_
  obtain ⟨r5, hc5, hf⟩ := bd_some hf
  refine cV_go (runRVc (As := [_]) C hK hP hZ hS wv_X9_110 hl (kc_X1_hasConnector l D cA ad _ η F _  r5 hc5) (rcC 1 2 hK hP rfl rfl) rfl rfl rfl (Nat.le_of_ble_eq_true rfl) ⟨Nat.le_refl _, Nat.le_refl _⟩ dX9_isOn_5) ?_
  refine lv_if_ne (tgt := 15) C.1 C.2.1 dX9_isOn_8 (by decide) (fun c8 => ?_) (fun c8 => ?_)
  · have hf := br_n c8 hf
    refine lv_aload_n C.1 C.2.1 dX9_isOn_15 rfl (lv_at hl 0 rfl) ?_
    refine gc_R_canvas C hK hP wf_X9_10 dX9_isOn_16 ?_
    refine gc_cv_routes C hK hP wf_X9_103 dX9_isOn_19 ?_
    refine lv_iload_n C.1 C.2.1 dX9_isOn_22 rfl (lv_at hl 1 rfl) ?_
    obtain ⟨hi23, hf⟩ := gd_some hf
    refine lr_cr C hK hP hi23 dX9_isOn_23 (fun hn23 => ?_) (fun a23 v23 he23 hv23 => ?_)
    · have hf := mo_n hn23 hf
      refine lv_astoreN (lv' := [(4, .null), (0, .ref (ad 0)), (1, .int z1), (2, .int z2), (3, .int z3)]) C.1 C.2.1 dX9_isOn_24 hl (by decide) rfl (fun ls hl => ?_)
      refine lv_aloadN C.1 C.2.1 dX9_isOn_26 (lv_at hl 0 rfl) ?_
      refine lv_ifnonnullN C.1 C.2.1 dX9_isOn_28 ?_
      refine lv_iconst (v := (0 : Int32)) C.1 C.2.1 dX9_isOn_31 (by decide) ?_
      exact KRc.iret C hr hlk (Option.some.inj hf) dX9_isOn_32
    · have hf := mo_s he23 hf
      refine lv_astore (lv' := [(4, .ref a23), (0, .ref (ad 0)), (1, .int z1), (2, .int z2), (3, .int z3)]) C.1 C.2.1 dX9_isOn_24 hl (by decide) rfl (fun ls hl => ?_)
      refine lv_aload C.1 C.2.1 dX9_isOn_26 (lv_at hl 0 rfl) ?_
      refine lv_ifnonnull (tgt := 33) C.1 C.2.1 dX9_isOn_28 (by decide) ?_
      refine lv_aload C.1 C.2.1 dX9_isOn_33 (lv_at hl 0 rfl) ?_
      refine lv_iload_n C.1 C.2.1 dX9_isOn_35 rfl (lv_at hl 3 rfl) ?_
      refine lv_iload_n C.1 C.2.1 dX9_isOn_36 rfl (lv_at hl 4 rfl) ?_
      obtain ⟨r37, hc37, hf⟩ := bd_some hf
      refine cV_go (runRVc (As := [_, _]) C hK hP hZ hS wv_X9_171 hl (kc_X6_hasCornerAt l D cA ad _ η F _ _ _ _ hv23 r37 hc37) (rcR hK hP hv23) rfl rfl rfl (Nat.le_of_ble_eq_true rfl) ⟨Nat.le_refl _, Nat.le_refl _⟩ dX9_isOn_37) ?_
      refine lv_if_eq (tgt := 45) C.1 C.2.1 dX9_isOn_40 (by decide) (fun c40 => ?_) (fun c40 => ?_)
      · have hf := br_p c40 hf
        refine lv_aload C.1 C.2.1 dX9_isOn_45 (lv_at hl 0 rfl) ?_
        refine lv_iload_n C.1 C.2.1 dX9_isOn_47 rfl (lv_at hl 3 rfl) ?_
        refine lv_iload_n C.1 C.2.1 dX9_isOn_48 rfl (lv_at hl 4 rfl) ?_
        obtain ⟨r49, hc49, hf⟩ := bd_some hf
        refine cV_go (runRVc (As := [_, _]) C hK hP hZ hS wv_X9_174 hl (kc_X6_passes l D cA ad _ η F _ _ _ _ hv23 r49 hc49) (rcR hK hP hv23) rfl rfl rfl (Nat.le_of_ble_eq_true rfl) ⟨Nat.le_refl _, Nat.le_refl _⟩ dX9_isOn_49) ?_
        refine lv_if_eq (tgt := 59) C.1 C.2.1 dX9_isOn_52 (by decide) (fun c52 => ?_) (fun c52 => ?_)
        · have hf := br_p c52 hf
          refine lv_iconst (v := (0 : Int32)) C.1 C.2.1 dX9_isOn_59 (by decide) ?_
          exact hB60 ls _ (lv_sub hl [] rfl) hf
        · have hf := br_n c52 hf
          refine lv_iconst (v := (1 : Int32)) C.1 C.2.1 dX9_isOn_55 (by decide) ?_
          refine lv_goto (tgt := 60) C.1 C.2.1 dX9_isOn_56 (by decide) ?_
          exact hB60 ls _ (lv_sub hl [] rfl) hf
      · have hf := br_n c40 hf
        refine lv_iconst (v := (2 : Int32)) C.1 C.2.1 dX9_isOn_43 (by decide) ?_
        exact KRc.iret C hr hlk (Option.some.inj hf) dX9_isOn_44
  · have hf := br_p c8 hf
    refine lv_sipush (v := (-1001 : Int32)) C.1 C.2.1 dX9_isOn_11 (by decide) ?_
    exact KRc.iret C hr hlk (Option.some.inj hf) dX9_isOn_14
def fc_X9_crossings_L44 (F : Nat) (σ : CSt) (s0 : Int32) : Option (Int32) :=
  some s0
def fc_X9_crossings_L22 (F : Nat) (σ : CSt) : Option (Int32) :=
  some (-1001 : Int32)
def fc_X9_crossings (F : Nat) (σ : CSt) (x1 : Int32) (x2 : Int32) : Option (Int32) :=
  bd (fc_X1_hasConnector F σ x1) (fun r5 => if r5 = 0 then (fc_X9_crossings_L22 F σ) else (bd (fc_X1_hasConnector F σ x2) (fun r16 => if r16 = 0 then (fc_X9_crossings_L22 F σ) else (if x1 = x2 then (fc_X9_crossings_L44 F σ (0 : Int32)) else (bd (fc_X1_crossingsOf F σ x1 x2) (fun r41 => fc_X9_crossings_L44 F σ r41))))))
set_option maxHeartbeats 4000000 in
set_option maxRecDepth 100000 in
theorem kc_X9_crossings (l : Launch) (D : va_G) (cA : Nat → ClassId) (ad : Nat → Nat) (σ : CSt) (η : HS) (F : Nat) (z1 : Int32) (z2 : Int32) (r : Int32) (hf : fc_X9_crossings F σ z1 z2 = some r) : KRc l D cA ad σ η yX9_crossings cX9_crossings 3 (some .int) (rmk 5 112) [.ref (ad 0), .int z1, .int z2] (QcV (.int r)) := by
  refine KRc.of (by decide) (Nat.le_of_ble_eq_true rfl) ?_
  intro p e s m below meth c C hr hlk hK hP hZ ls hl
  have hS : va_S NoA s.heap s.heap [] := va_S.rf
  have hl : lv_has ls 3 [(0, .ref (ad 0)), (1, .int z1), (2, .int z2)] := hl
  have hB44 : ∀ (ls : Array Slot) (s0 : Int32), lv_has ls 3 [] → fc_X9_crossings_L44 F σ s0 = some r → WRc p l e 5 112 s m [.ref (ad 0), .int z1, .int z2] below meth c (QcV (.int r)) (F0 m 44 ls [.int s0]) := by
    intro ls s0 hl hf
    unfold fc_X9_crossings_L44 at hf
    exact KRc.iret C hr hlk (Option.some.inj hf) dX9_crossings_44
  have hB22 : ∀ (ls : Array Slot), lv_has ls 3 [] → fc_X9_crossings_L22 F σ = some r → WRc p l e 5 112 s m [.ref (ad 0), .int z1, .int z2] below meth c (QcV (.int r)) (F0 m 22 ls []) := by
    intro ls hl hf
    unfold fc_X9_crossings_L22 at hf
    refine lv_sipush (v := (-1001 : Int32)) C.1 C.2.1 dX9_crossings_22 (by decide) ?_
    exact KRc.iret C hr hlk (Option.some.inj hf) dX9_crossings_25
  unfold fc_X9_crossings at hf
  refine lv_aload_n C.1 C.2.1 dX9_crossings_0 rfl (lv_at hl 0 rfl) ?_
  refine gc_R_canvas C hK hP wf_X9_10 dX9_crossings_1 ?_
  refine lv_iload_n C.1 C.2.1 dX9_crossings_4 rfl (lv_at hl 1 rfl) ?_
  obtain ⟨r5, hc5, hf⟩ := bd_some hf
  refine cV_go (runRVc (As := [_]) C hK hP hZ hS wv_X9_110 hl (kc_X1_hasConnector l D cA ad _ η F _  r5 hc5) (rcC 1 2 hK hP rfl rfl) rfl rfl rfl (Nat.le_of_ble_eq_true rfl) ⟨Nat.le_refl _, Nat.le_refl _⟩ dX9_crossings_5) ?_
  refine lv_if_eq (tgt := 22) C.1 C.2.1 dX9_crossings_8 (by decide) (fun c8 => ?_) (fun c8 => ?_)
  · have hf := br_p c8 hf
    exact hB22 ls (lv_sub hl [] rfl) hf
  · have hf := br_n c8 hf
    refine lv_aload_n C.1 C.2.1 dX9_crossings_11 rfl (lv_at hl 0 rfl) ?_
    refine gc_R_canvas C hK hP wf_X9_10 dX9_crossings_12 ?_
    refine lv_iload_n C.1 C.2.1 dX9_crossings_15 rfl (lv_at hl 2 rfl) ?_
    obtain ⟨r16, hc16, hf⟩ := bd_some hf
    refine cV_go (runRVc (As := [_]) C hK hP hZ hS wv_X9_110 hl (kc_X1_hasConnector l D cA ad _ η F _  r16 hc16) (rcC 1 2 hK hP rfl rfl) rfl rfl rfl (Nat.le_of_ble_eq_true rfl) ⟨Nat.le_refl _, Nat.le_refl _⟩ dX9_crossings_16) ?_
    refine lv_if_ne (tgt := 26) C.1 C.2.1 dX9_crossings_19 (by decide) (fun c19 => ?_) (fun c19 => ?_)
    · have hf := br_n c19 hf
      refine lv_iload_n C.1 C.2.1 dX9_crossings_26 rfl (lv_at hl 1 rfl) ?_
      refine lv_iload_n C.1 C.2.1 dX9_crossings_27 rfl (lv_at hl 2 rfl) ?_
      refine lv_icmp_ne (tgt := 35) C.1 C.2.1 dX9_crossings_28 (by decide) (fun c28 => ?_) (fun c28 => ?_)
      · have hf := br_n c28 hf
        refine lv_aload_n C.1 C.2.1 dX9_crossings_35 rfl (lv_at hl 0 rfl) ?_
        refine gc_R_canvas C hK hP wf_X9_10 dX9_crossings_36 ?_
        refine lv_iload_n C.1 C.2.1 dX9_crossings_39 rfl (lv_at hl 1 rfl) ?_
        refine lv_iload_n C.1 C.2.1 dX9_crossings_40 rfl (lv_at hl 2 rfl) ?_
        obtain ⟨r41, hc41, hf⟩ := bd_some hf
        refine cV_go (runRVc (As := [_, _]) C hK hP hZ hS wv_X9_177 hl (kc_X1_crossingsOf l D cA ad _ η F _ _  r41 hc41) (rcC 1 2 hK hP rfl rfl) rfl rfl rfl (Nat.le_of_ble_eq_true rfl) ⟨Nat.le_refl _, Nat.le_refl _⟩ dX9_crossings_41) ?_
        exact hB44 ls _ (lv_sub hl [] rfl) hf
      · have hf := br_p c28 hf
        refine lv_iconst (v := (0 : Int32)) C.1 C.2.1 dX9_crossings_31 (by decide) ?_
        refine lv_goto (tgt := 44) C.1 C.2.1 dX9_crossings_32 (by decide) ?_
        exact hB44 ls _ (lv_sub hl [] rfl) hf
    · have hf := br_p c19 hf
      exact hB22 ls (lv_sub hl [] rfl) hf
def fc_X6_sharedLengthWith_L92 (F : Nat) (σ : CSt) (k4 : RV → RV → Int32 → Int32 → Option (Int32)) (k15 : RV → RV → Int32 → Int32 → Int32 → Option (Int32)) (vx0 : RV) (vx1 : RV) (x2 : Int32) (x3 : Int32) (x4 : Int32) : Option (Int32) :=
  lt (x4 + (1 : Int32)) (fun x4_92 => k15 vx0 vx1 x2 x3 x4_92)
def fc_X6_sharedLengthWith_L15_c (F : Nat) (σ : CSt) (k4 : RV → RV → Int32 → Int32 → Option (Int32)) (k15 : RV → RV → Int32 → Int32 → Int32 → Option (Int32)) (vx0 : RV) (vx1 : RV) (x2 : Int32) (x3 : Int32) (x4 : Int32) : Option (Int32) :=
  bd (fc_X6_segments F σ vx1) (fun r18 => if r18 ≤ x4 then (lt (x3 + (1 : Int32)) (fun x3_98 => k4 vx0 vx1 x2 x3_98)) else (bd (fc_X6_isLevel F σ vx0 x3) (fun r26 => bd (fc_X6_isLevel F σ vx1 x4) (fun r32 => if r26 = r32 then (bd (fc_X6_lineOf F σ vx0 x3) (fun r40 => bd (fc_X6_lineOf F σ vx1 x4) (fun r46 => if r40 = r46 then (bd (fc_X6_endOf F σ vx0 x3) (fun r54 => bd (fc_X6_endOf F σ vx1 x4) (fun r60 => bd (fc_X6_startOf F σ vx0 x3) (fun r68 => bd (fc_X6_startOf F σ vx1 x4) (fun r74 => lt ((if r60 < r54 then r60 else r54) - (if r68 < r74 then r74 else r68)) (fun x5_81 => lt (x2 + (if x5_81 < (0 : Int32) then (0 : Int32) else x5_81)) (fun x2_91 => fc_X6_sharedLengthWith_L92 F σ k4 k15 vx0 vx1 x2_91 x3 x4))))))) else (fc_X6_sharedLengthWith_L92 F σ k4 k15 vx0 vx1 x2 x3 x4)))) else (fc_X6_sharedLengthWith_L92 F σ k4 k15 vx0 vx1 x2 x3 x4)))))
def fc_X6_sharedLengthWith_L15 (F : Nat) (σ : CSt) (k4 : RV → RV → Int32 → Int32 → Option (Int32)) (n : Nat) (vx0 : RV) (vx1 : RV) (x2 : Int32) (x3 : Int32) (x4 : Int32) : Option (Int32) := lpN (fun (k : RV × RV × Int32 × Int32 × Int32 → Option (Int32)) a => fc_X6_sharedLengthWith_L15_c F σ k4 (fun vx0 vx1 x2 x3 x4 => k (vx0, vx1, x2, x3, x4)) a.1 a.2.1 a.2.2.1 a.2.2.2.1 a.2.2.2.2) n (vx0, vx1, x2, x3, x4)
def fc_X6_sharedLengthWith_L4_c (F : Nat) (σ : CSt) (k4 : RV → RV → Int32 → Int32 → Option (Int32)) (vx0 : RV) (vx1 : RV) (x2 : Int32) (x3 : Int32) : Option (Int32) :=
  bd (fc_X6_segments F σ vx0) (fun r6 => if r6 ≤ x3 then (some x2) else (fc_X6_sharedLengthWith_L15 F σ k4 F vx0 vx1 x2 x3 (0 : Int32)))
def fc_X6_sharedLengthWith_L4 (F : Nat) (σ : CSt) (n : Nat) (vx0 : RV) (vx1 : RV) (x2 : Int32) (x3 : Int32) : Option (Int32) := lpN (fun (k : RV × RV × Int32 × Int32 → Option (Int32)) a => fc_X6_sharedLengthWith_L4_c F σ (fun vx0 vx1 x2 x3 => k (vx0, vx1, x2, x3)) a.1 a.2.1 a.2.2.1 a.2.2.2) n (vx0, vx1, x2, x3)
def fc_X6_sharedLengthWith (F : Nat) (σ : CSt) (vx0 : RV) (vx1 : RV) : Option (Int32) :=
  fc_X6_sharedLengthWith_L4 F σ F vx0 vx1 (0 : Int32) (0 : Int32)
set_option maxHeartbeats 4000000 in
set_option maxRecDepth 100000 in
theorem kc_X6_sharedLengthWith (l : Launch) (D : va_G) (cA : Nat → ClassId) (ad : Nat → Nat) (σ : CSt) (η : HS) (F : Nat) (az0 : Nat) (vz0 : RV) (az1 : Nat) (vz1 : RV) (hvz0 : isRt cA η az0 vz0) (hvz1 : isRt cA η az1 vz1) (r : Int32) (hf : fc_X6_sharedLengthWith F σ vz0 vz1 = some r) : KRc l D cA ad σ η yX6_sharedLengthWith cX6_sharedLengthWith 6 (some .int) (rmk 2 42) [.ref az0, .ref az1] (QcV (.int r)) := by
  refine KRc.of (by decide) (Nat.le_of_ble_eq_true rfl) ?_
  intro p e s m below meth c C hr hlk hK hP hZ ls hl
  have hS : va_S NoA s.heap s.heap [] := va_S.rf
  have hl : lv_has ls 6 [(0, .ref az0), (1, .ref az1)] := hl
  have hB4 : ∀ (n4 : Nat) (ls : Array Slot) (ax0 : Nat) (vx0 : RV) (ax1 : Nat) (vx1 : RV) (x2 : Int32) (x3 : Int32), isRt cA η ax0 vx0 → isRt cA η ax1 vx1 → lv_has ls 6 [(0, .ref ax0), (1, .ref ax1), (2, .int x2), (3, .int x3)] → fc_X6_sharedLengthWith_L4 F σ n4 vx0 vx1 x2 x3 = some r → WRc p l e 2 42 s m [.ref az0, .ref az1] below meth c (QcV (.int r)) (F0 m 4 ls []) := by
    intro n4
    induction n4 with
    | zero =>
      intro ls ax0 vx0 ax1 vx1 x2 x3 hvx0 hvx1 hl hf
      cases (show (none : Option _) = _ from hf)
    | succ n4 ih4 =>
      have hB15 : ∀ (n15 : Nat) (ls : Array Slot) (ax0 : Nat) (vx0 : RV) (ax1 : Nat) (vx1 : RV) (x2 : Int32) (x3 : Int32) (x4 : Int32), isRt cA η ax0 vx0 → isRt cA η ax1 vx1 → lv_has ls 6 [(0, .ref ax0), (1, .ref ax1), (2, .int x2), (3, .int x3), (4, .int x4)] → fc_X6_sharedLengthWith_L15 F σ (fc_X6_sharedLengthWith_L4 F σ n4) n15 vx0 vx1 x2 x3 x4 = some r → WRc p l e 2 42 s m [.ref az0, .ref az1] below meth c (QcV (.int r)) (F0 m 15 ls []) := by
        intro n15
        induction n15 with
        | zero =>
          intro ls ax0 vx0 ax1 vx1 x2 x3 x4 hvx0 hvx1 hl hf
          cases (show (none : Option _) = _ from hf)
        | succ n15 ih15 =>
          have hB92 : ∀ (ls : Array Slot) (ax0 : Nat) (vx0 : RV) (ax1 : Nat) (vx1 : RV) (x2 : Int32) (x3 : Int32) (x4 : Int32), isRt cA η ax0 vx0 → isRt cA η ax1 vx1 → lv_has ls 6 [(0, .ref ax0), (1, .ref ax1), (2, .int x2), (3, .int x3), (4, .int x4)] → fc_X6_sharedLengthWith_L92 F σ (fc_X6_sharedLengthWith_L4 F σ n4) (fc_X6_sharedLengthWith_L15 F σ (fc_X6_sharedLengthWith_L4 F σ n4) n15) vx0 vx1 x2 x3 x4 = some r → WRc p l e 2 42 s m [.ref az0, .ref az1] below meth c (QcV (.int r)) (F0 m 92 ls []) := by
            intro ls ax0 vx0 ax1 vx1 x2 x3 x4 hvx0 hvx1 hl hf
            unfold fc_X6_sharedLengthWith_L92 at hf
            obtain ⟨x4_92, ex4_92, hf⟩ := lt_some hf
            refine lv_iinc (v := x4_92) (lv' := [(4, .int x4_92), (0, .ref ax0), (1, .ref ax1), (2, .int x2), (3, .int x3)]) C.1 C.2.1 dX6_sharedLengthWith_92 hl (k := 4) rfl (by rw [ex4_92]; rfl) (by decide) rfl (fun ls hl => ?_)
            refine lv_goto (tgt := 15) C.1 C.2.1 dX6_sharedLengthWith_95 (by decide) ?_
            exact ih15 ls _ _ _ _ _ _ _ hvx0 hvx1 (lv_sub hl [1, 2, 3, 4, 0] rfl) hf
          intro ls ax0 vx0 ax1 vx1 x2 x3 x4 hvx0 hvx1 hl hf
          have hf : fc_X6_sharedLengthWith_L15_c F σ (fc_X6_sharedLengthWith_L4 F σ n4) (fc_X6_sharedLengthWith_L15 F σ (fc_X6_sharedLengthWith_L4 F σ n4) n15) vx0 vx1 x2 x3 x4 = some r := hf
          unfold fc_X6_sharedLengthWith_L15_c at hf
          refine lv_iload C.1 C.2.1 dX6_sharedLengthWith_15 (lv_at hl 4 rfl) ?_
          refine lv_aload_n C.1 C.2.1 dX6_sharedLengthWith_17 rfl (lv_at hl 1 rfl) ?_
          obtain ⟨r18, hc18, hf⟩ := bd_some hf
          refine cV_go (runRVc (As := []) C hK hP hZ hS wv_X6_20 hl (kc_X6_segments l D cA ad _ η F _ _ hvx1 r18 hc18) (rcR hK hP hvx1) rfl rfl rfl (Nat.le_of_ble_eq_true rfl) ⟨Nat.le_refl _, Nat.le_refl _⟩ dX6_sharedLengthWith_18) ?_
          refine lv_icmp_ge (tgt := 98) C.1 C.2.1 dX6_sharedLengthWith_21 (by decide) (fun c21 => ?_) (fun c21 => ?_)
          · have hf := br_p c21 hf
            obtain ⟨x3_98, ex3_98, hf⟩ := lt_some hf
            refine lv_iinc (v := x3_98) (lv' := [(3, .int x3_98), (0, .ref ax0), (1, .ref ax1), (2, .int x2), (4, .int x4)]) C.1 C.2.1 dX6_sharedLengthWith_98 hl (k := 3) rfl (by rw [ex3_98]; rfl) (by decide) rfl (fun ls hl => ?_)
            refine lv_goto (tgt := 4) C.1 C.2.1 dX6_sharedLengthWith_101 (by decide) ?_
            exact ih4 ls _ _ _ _ _ _ hvx0 hvx1 (lv_sub hl [1, 2, 3, 0] rfl) hf
          · have hf := br_n c21 hf
            refine lv_aload_n C.1 C.2.1 dX6_sharedLengthWith_24 rfl (lv_at hl 0 rfl) ?_
            refine lv_iload_n C.1 C.2.1 dX6_sharedLengthWith_25 rfl (lv_at hl 3 rfl) ?_
            obtain ⟨r26, hc26, hf⟩ := bd_some hf
            refine cV_go (runRVc (As := [_]) C hK hP hZ hS wv_X6_24 hl (kc_X6_isLevel l D cA ad _ η F _ _ _ hvx0 r26 hc26) (rcR hK hP hvx0) rfl rfl rfl (Nat.le_of_ble_eq_true rfl) ⟨Nat.le_refl _, Nat.le_refl _⟩ dX6_sharedLengthWith_26) ?_
            refine lv_aload_n C.1 C.2.1 dX6_sharedLengthWith_29 rfl (lv_at hl 1 rfl) ?_
            refine lv_iload C.1 C.2.1 dX6_sharedLengthWith_30 (lv_at hl 4 rfl) ?_
            obtain ⟨r32, hc32, hf⟩ := bd_some hf
            refine cV_go (runRVc (As := [_]) C hK hP hZ hS wv_X6_24 hl (kc_X6_isLevel l D cA ad _ η F _ _ _ hvx1 r32 hc32) (rcR hK hP hvx1) rfl rfl rfl (Nat.le_of_ble_eq_true rfl) ⟨Nat.le_refl _, Nat.le_refl _⟩ dX6_sharedLengthWith_32) ?_
            refine lv_icmp_ne (tgt := 92) C.1 C.2.1 dX6_sharedLengthWith_35 (by decide) (fun c35 => ?_) (fun c35 => ?_)
            · have hf := br_n c35 hf
              exact hB92 ls _ _ _ _ _ _ _ hvx0 hvx1 (lv_sub hl [0, 1, 2, 3, 4] rfl) hf
            · have hf := br_p c35 hf
              refine lv_aload_n C.1 C.2.1 dX6_sharedLengthWith_38 rfl (lv_at hl 0 rfl) ?_
              refine lv_iload_n C.1 C.2.1 dX6_sharedLengthWith_39 rfl (lv_at hl 3 rfl) ?_
              obtain ⟨r40, hc40, hf⟩ := bd_some hf
              refine cV_go (runRVc (As := [_]) C hK hP hZ hS wv_X6_47 hl (kc_X6_lineOf l D cA ad _ η F _ _ _ hvx0 r40 hc40) (rcR hK hP hvx0) rfl rfl rfl (Nat.le_of_ble_eq_true rfl) ⟨Nat.le_refl _, Nat.le_refl _⟩ dX6_sharedLengthWith_40) ?_
              refine lv_aload_n C.1 C.2.1 dX6_sharedLengthWith_43 rfl (lv_at hl 1 rfl) ?_
              refine lv_iload C.1 C.2.1 dX6_sharedLengthWith_44 (lv_at hl 4 rfl) ?_
              obtain ⟨r46, hc46, hf⟩ := bd_some hf
              refine cV_go (runRVc (As := [_]) C hK hP hZ hS wv_X6_47 hl (kc_X6_lineOf l D cA ad _ η F _ _ _ hvx1 r46 hc46) (rcR hK hP hvx1) rfl rfl rfl (Nat.le_of_ble_eq_true rfl) ⟨Nat.le_refl _, Nat.le_refl _⟩ dX6_sharedLengthWith_46) ?_
              refine lv_icmp_ne (tgt := 92) C.1 C.2.1 dX6_sharedLengthWith_49 (by decide) (fun c49 => ?_) (fun c49 => ?_)
              · have hf := br_n c49 hf
                exact hB92 ls _ _ _ _ _ _ _ hvx0 hvx1 (lv_sub hl [0, 1, 2, 3, 4] rfl) hf
              · have hf := br_p c49 hf
                refine lv_aload_n C.1 C.2.1 dX6_sharedLengthWith_52 rfl (lv_at hl 0 rfl) ?_
                refine lv_iload_n C.1 C.2.1 dX6_sharedLengthWith_53 rfl (lv_at hl 3 rfl) ?_
                obtain ⟨r54, hc54, hf⟩ := bd_some hf
                refine cV_go (runRVc (As := [_]) C hK hP hZ hS wv_X6_37 hl (kc_X6_endOf l D cA ad _ η F _ _ _ hvx0 r54 hc54) (rcR hK hP hvx0) rfl rfl rfl (Nat.le_of_ble_eq_true rfl) ⟨Nat.le_refl _, Nat.le_refl _⟩ dX6_sharedLengthWith_54) ?_
                refine lv_aload_n C.1 C.2.1 dX6_sharedLengthWith_57 rfl (lv_at hl 1 rfl) ?_
                refine lv_iload C.1 C.2.1 dX6_sharedLengthWith_58 (lv_at hl 4 rfl) ?_
                obtain ⟨r60, hc60, hf⟩ := bd_some hf
                refine cV_go (runRVc (As := [_]) C hK hP hZ hS wv_X6_37 hl (kc_X6_endOf l D cA ad _ η F _ _ _ hvx1 r60 hc60) (rcR hK hP hvx1) rfl rfl rfl (Nat.le_of_ble_eq_true rfl) ⟨Nat.le_refl _, Nat.le_refl _⟩ dX6_sharedLengthWith_60) ?_
                refine va_mmin C.1 C.2.1 (by rw [C.2.2.1]; exact hl.1.symm) C.2.2.2.1 (C.2.2.2.2 _ wm_X6_28.1) (C.2.2.2.2 _ wm_X6_28.2.1) (C.2.2.2.2 _ wm_X6_28.2.2.1) (C.2.2.2.2 _ wm_X6_28.2.2.2) (Nat.le_of_ble_eq_true rfl) (Nat.le_of_ble_eq_true rfl) (Nat.le_refl _) (Nat.le_refl _) dX6_sharedLengthWith_63 ?_
                refine lv_aload_n C.1 C.2.1 dX6_sharedLengthWith_66 rfl (lv_at hl 0 rfl) ?_
                refine lv_iload_n C.1 C.2.1 dX6_sharedLengthWith_67 rfl (lv_at hl 3 rfl) ?_
                obtain ⟨r68, hc68, hf⟩ := bd_some hf
                refine cV_go (runRVc (As := [_]) C hK hP hZ hS wv_X6_41 hl (kc_X6_startOf l D cA ad _ η F _ _ _ hvx0 r68 hc68) (rcR hK hP hvx0) rfl rfl rfl (Nat.le_of_ble_eq_true rfl) ⟨Nat.le_refl _, Nat.le_refl _⟩ dX6_sharedLengthWith_68) ?_
                refine lv_aload_n C.1 C.2.1 dX6_sharedLengthWith_71 rfl (lv_at hl 1 rfl) ?_
                refine lv_iload C.1 C.2.1 dX6_sharedLengthWith_72 (lv_at hl 4 rfl) ?_
                obtain ⟨r74, hc74, hf⟩ := bd_some hf
                refine cV_go (runRVc (As := [_]) C hK hP hZ hS wv_X6_41 hl (kc_X6_startOf l D cA ad _ η F _ _ _ hvx1 r74 hc74) (rcR hK hP hvx1) rfl rfl rfl (Nat.le_of_ble_eq_true rfl) ⟨Nat.le_refl _, Nat.le_refl _⟩ dX6_sharedLengthWith_74) ?_
                refine va_mmax C.1 C.2.1 (by rw [C.2.2.1]; exact hl.1.symm) C.2.2.2.1 (C.2.2.2.2 _ wm_X6_34.1) (C.2.2.2.2 _ wm_X6_34.2.1) (C.2.2.2.2 _ wm_X6_34.2.2.1) (C.2.2.2.2 _ wm_X6_34.2.2.2) (Nat.le_of_ble_eq_true rfl) (Nat.le_of_ble_eq_true rfl) (Nat.le_refl _) (Nat.le_refl _) dX6_sharedLengthWith_77 ?_
                refine lv_isub C.1 C.2.1 dX6_sharedLengthWith_80 ?_
                obtain ⟨x5_81, ex5_81, hf⟩ := lt_some hf
                refine lv_tope ex5_81 ?_
                refine lv_istore (lv' := [(5, .int x5_81), (0, .ref ax0), (1, .ref ax1), (2, .int x2), (3, .int x3), (4, .int x4)]) C.1 C.2.1 dX6_sharedLengthWith_81 hl (by decide) rfl (fun ls hl => ?_)
                refine lv_iload_n C.1 C.2.1 dX6_sharedLengthWith_83 rfl (lv_at hl 3 rfl) ?_
                refine lv_iload C.1 C.2.1 dX6_sharedLengthWith_84 (lv_at hl 0 rfl) ?_
                refine lv_iconst (v := (0 : Int32)) C.1 C.2.1 dX6_sharedLengthWith_86 (by decide) ?_
                refine va_mmax C.1 C.2.1 (by rw [C.2.2.1]; exact hl.1.symm) C.2.2.2.1 (C.2.2.2.2 _ wm_X6_34.1) (C.2.2.2.2 _ wm_X6_34.2.1) (C.2.2.2.2 _ wm_X6_34.2.2.1) (C.2.2.2.2 _ wm_X6_34.2.2.2) (Nat.le_of_ble_eq_true rfl) (Nat.le_of_ble_eq_true rfl) (Nat.le_refl _) (Nat.le_refl _) dX6_sharedLengthWith_87 ?_
                refine lv_iadd C.1 C.2.1 dX6_sharedLengthWith_90 ?_
                obtain ⟨x2_91, ex2_91, hf⟩ := lt_some hf
                refine lv_tope ex2_91 ?_
                refine lv_istore_n (lv' := [(2, .int x2_91), (5, .int x5_81), (0, .ref ax0), (1, .ref ax1), (3, .int x3), (4, .int x4)]) C.1 C.2.1 dX6_sharedLengthWith_91 rfl hl (by decide) rfl (fun ls hl => ?_)
                exact hB92 ls _ _ _ _ _ _ _ hvx0 hvx1 (lv_sub hl [2, 3, 0, 4, 5] rfl) hf
      intro ls ax0 vx0 ax1 vx1 x2 x3 hvx0 hvx1 hl hf
      have hf : fc_X6_sharedLengthWith_L4_c F σ (fc_X6_sharedLengthWith_L4 F σ n4) vx0 vx1 x2 x3 = some r := hf
      unfold fc_X6_sharedLengthWith_L4_c at hf
      refine lv_iload_n C.1 C.2.1 dX6_sharedLengthWith_4 rfl (lv_at hl 3 rfl) ?_
      refine lv_aload_n C.1 C.2.1 dX6_sharedLengthWith_5 rfl (lv_at hl 0 rfl) ?_
      obtain ⟨r6, hc6, hf⟩ := bd_some hf
      refine cV_go (runRVc (As := []) C hK hP hZ hS wv_X6_20 hl (kc_X6_segments l D cA ad _ η F _ _ hvx0 r6 hc6) (rcR hK hP hvx0) rfl rfl rfl (Nat.le_of_ble_eq_true rfl) ⟨Nat.le_refl _, Nat.le_refl _⟩ dX6_sharedLengthWith_6) ?_
      refine lv_icmp_ge (tgt := 104) C.1 C.2.1 dX6_sharedLengthWith_9 (by decide) (fun c9 => ?_) (fun c9 => ?_)
      · have hf := br_p c9 hf
        refine lv_iload_n C.1 C.2.1 dX6_sharedLengthWith_104 rfl (lv_at hl 2 rfl) ?_
        exact KRc.iret C hr hlk (Option.some.inj hf) dX6_sharedLengthWith_105
      · have hf := br_n c9 hf
        refine lv_iconst (v := (0 : Int32)) C.1 C.2.1 dX6_sharedLengthWith_12 (by decide) ?_
        refine lv_istore (lv' := [(4, .int (0 : Int32)), (0, .ref ax0), (1, .ref ax1), (2, .int x2), (3, .int x3)]) C.1 C.2.1 dX6_sharedLengthWith_13 hl (by decide) rfl (fun ls hl => ?_)
        exact hB15 F ls _ _ _ _ _ _ _ hvx0 hvx1 (lv_sub hl [1, 2, 3, 4, 0] rfl) hf
  unfold fc_X6_sharedLengthWith at hf
  refine lv_iconst (v := (0 : Int32)) C.1 C.2.1 dX6_sharedLengthWith_0 (by decide) ?_
  refine lv_istore_n (lv' := [(2, .int (0 : Int32)), (0, .ref az0), (1, .ref az1)]) C.1 C.2.1 dX6_sharedLengthWith_1 rfl hl (by decide) rfl (fun ls hl => ?_)
  refine lv_iconst (v := (0 : Int32)) C.1 C.2.1 dX6_sharedLengthWith_2 (by decide) ?_
  refine lv_istore_n (lv' := [(3, .int (0 : Int32)), (2, .int (0 : Int32)), (0, .ref az0), (1, .ref az1)]) C.1 C.2.1 dX6_sharedLengthWith_3 rfl hl (by decide) rfl (fun ls hl => ?_)
  exact hB4 F ls _ _ _ _ _ _ hvz0 hvz1 (lv_sub hl [2, 3, 1, 0] rfl) hf
def fc_X9_shared_L76 (F : Nat) (σ : CSt) (s0 : Int32) : Option (Int32) :=
  some s0
def fc_X9_shared_L56 (F : Nat) (σ : CSt) : Option (Int32) :=
  some (0 : Int32)
def fc_X9_shared_L22 (F : Nat) (σ : CSt) : Option (Int32) :=
  some (-1001 : Int32)
def fc_X9_shared (F : Nat) (σ : CSt) (x1 : Int32) (x2 : Int32) : Option (Int32) :=
  bd (fc_X1_hasConnector F σ x1) (fun r5 => if r5 = 0 then (fc_X9_shared_L22 F σ) else (bd (fc_X1_hasConnector F σ x2) (fun r16 => if r16 = 0 then (fc_X9_shared_L22 F σ) else (gd (ix x1 10 = true) (mo (cs_cr σ x1.toNatClampNeg) (gd (ix x2 10 = true) (mo (cs_cr σ x2.toNatClampNeg) (fc_X9_shared_L56 F σ) (fun v44 => fc_X9_shared_L56 F σ))) (fun v34 => gd (ix x2 10 = true) (mo (cs_cr σ x2.toNatClampNeg) (fc_X9_shared_L56 F σ) (fun v44 => if x1 = x2 then (bd (fc_X6_length F σ v34) (fun r64 => fc_X9_shared_L76 F σ r64)) else (bd (fc_X6_sharedLengthWith F σ v34 v44) (fun r73 => fc_X9_shared_L76 F σ r73))))))))))
set_option maxHeartbeats 4000000 in
set_option maxRecDepth 100000 in
theorem kc_X9_shared (l : Launch) (D : va_G) (cA : Nat → ClassId) (ad : Nat → Nat) (σ : CSt) (η : HS) (F : Nat) (z1 : Int32) (z2 : Int32) (r : Int32) (hf : fc_X9_shared F σ z1 z2 = some r) : KRc l D cA ad σ η yX9_shared cX9_shared 5 (some .int) (rmk 3 67) [.ref (ad 0), .int z1, .int z2] (QcV (.int r)) := by
  refine KRc.of (by decide) (Nat.le_of_ble_eq_true rfl) ?_
  intro p e s m below meth c C hr hlk hK hP hZ ls hl
  have hS : va_S NoA s.heap s.heap [] := va_S.rf
  have hl : lv_has ls 5 [(0, .ref (ad 0)), (1, .int z1), (2, .int z2)] := hl
  have hB76 : ∀ (ls : Array Slot) (s0 : Int32), lv_has ls 5 [] → fc_X9_shared_L76 F σ s0 = some r → WRc p l e 3 67 s m [.ref (ad 0), .int z1, .int z2] below meth c (QcV (.int r)) (F0 m 76 ls [.int s0]) := by
    intro ls s0 hl hf
    unfold fc_X9_shared_L76 at hf
    exact KRc.iret C hr hlk (Option.some.inj hf) dX9_shared_76
  have hB56 : ∀ (ls : Array Slot), lv_has ls 5 [] → fc_X9_shared_L56 F σ = some r → WRc p l e 3 67 s m [.ref (ad 0), .int z1, .int z2] below meth c (QcV (.int r)) (F0 m 56 ls []) := by
    intro ls hl hf
    unfold fc_X9_shared_L56 at hf
    refine lv_iconst (v := (0 : Int32)) C.1 C.2.1 dX9_shared_56 (by decide) ?_
    exact KRc.iret C hr hlk (Option.some.inj hf) dX9_shared_57
  have hB22 : ∀ (ls : Array Slot), lv_has ls 5 [] → fc_X9_shared_L22 F σ = some r → WRc p l e 3 67 s m [.ref (ad 0), .int z1, .int z2] below meth c (QcV (.int r)) (F0 m 22 ls []) := by
    intro ls hl hf
    unfold fc_X9_shared_L22 at hf
    refine lv_sipush (v := (-1001 : Int32)) C.1 C.2.1 dX9_shared_22 (by decide) ?_
    exact KRc.iret C hr hlk (Option.some.inj hf) dX9_shared_25
  unfold fc_X9_shared at hf
  refine lv_aload_n C.1 C.2.1 dX9_shared_0 rfl (lv_at hl 0 rfl) ?_
  refine gc_R_canvas C hK hP wf_X9_10 dX9_shared_1 ?_
  refine lv_iload_n C.1 C.2.1 dX9_shared_4 rfl (lv_at hl 1 rfl) ?_
  obtain ⟨r5, hc5, hf⟩ := bd_some hf
  refine cV_go (runRVc (As := [_]) C hK hP hZ hS wv_X9_110 hl (kc_X1_hasConnector l D cA ad _ η F _  r5 hc5) (rcC 1 2 hK hP rfl rfl) rfl rfl rfl (Nat.le_of_ble_eq_true rfl) ⟨Nat.le_refl _, Nat.le_refl _⟩ dX9_shared_5) ?_
  refine lv_if_eq (tgt := 22) C.1 C.2.1 dX9_shared_8 (by decide) (fun c8 => ?_) (fun c8 => ?_)
  · have hf := br_p c8 hf
    exact hB22 ls (lv_sub hl [] rfl) hf
  · have hf := br_n c8 hf
    refine lv_aload_n C.1 C.2.1 dX9_shared_11 rfl (lv_at hl 0 rfl) ?_
    refine gc_R_canvas C hK hP wf_X9_10 dX9_shared_12 ?_
    refine lv_iload_n C.1 C.2.1 dX9_shared_15 rfl (lv_at hl 2 rfl) ?_
    obtain ⟨r16, hc16, hf⟩ := bd_some hf
    refine cV_go (runRVc (As := [_]) C hK hP hZ hS wv_X9_110 hl (kc_X1_hasConnector l D cA ad _ η F _  r16 hc16) (rcC 1 2 hK hP rfl rfl) rfl rfl rfl (Nat.le_of_ble_eq_true rfl) ⟨Nat.le_refl _, Nat.le_refl _⟩ dX9_shared_16) ?_
    refine lv_if_ne (tgt := 26) C.1 C.2.1 dX9_shared_19 (by decide) (fun c19 => ?_) (fun c19 => ?_)
    · have hf := br_n c19 hf
      refine lv_aload_n C.1 C.2.1 dX9_shared_26 rfl (lv_at hl 0 rfl) ?_
      refine gc_R_canvas C hK hP wf_X9_10 dX9_shared_27 ?_
      refine gc_cv_routes C hK hP wf_X9_103 dX9_shared_30 ?_
      refine lv_iload_n C.1 C.2.1 dX9_shared_33 rfl (lv_at hl 1 rfl) ?_
      obtain ⟨hi34, hf⟩ := gd_some hf
      refine lr_cr C hK hP hi34 dX9_shared_34 (fun hn34 => ?_) (fun a34 v34 he34 hv34 => ?_)
      · have hf := mo_n hn34 hf
        refine lv_astore_nN (lv' := [(3, .null), (0, .ref (ad 0)), (1, .int z1), (2, .int z2)]) C.1 C.2.1 dX9_shared_35 rfl hl (by decide) rfl (fun ls hl => ?_)
        refine lv_aload_n C.1 C.2.1 dX9_shared_36 rfl (lv_at hl 1 rfl) ?_
        refine gc_R_canvas C hK hP wf_X9_10 dX9_shared_37 ?_
        refine gc_cv_routes C hK hP wf_X9_103 dX9_shared_40 ?_
        refine lv_iload_n C.1 C.2.1 dX9_shared_43 rfl (lv_at hl 3 rfl) ?_
        obtain ⟨hi44, hf⟩ := gd_some hf
        refine lr_cr C hK hP hi44 dX9_shared_44 (fun hn44 => ?_) (fun a44 v44 he44 hv44 => ?_)
        · have hf := mo_n hn44 hf
          refine lv_astoreN (lv' := [(4, .null), (3, .null), (0, .ref (ad 0)), (1, .int z1), (2, .int z2)]) C.1 C.2.1 dX9_shared_45 hl (by decide) rfl (fun ls hl => ?_)
          refine lv_aload_nN C.1 C.2.1 dX9_shared_47 rfl (lv_at hl 1 rfl) ?_
          refine lv_ifnullN (tgt := 56) C.1 C.2.1 dX9_shared_48 (by decide) ?_
          exact hB56 ls (lv_sub hl [] rfl) hf
        · have hf := mo_s he44 hf
          refine lv_astore (lv' := [(4, .ref a44), (3, .null), (0, .ref (ad 0)), (1, .int z1), (2, .int z2)]) C.1 C.2.1 dX9_shared_45 hl (by decide) rfl (fun ls hl => ?_)
          refine lv_aload_nN C.1 C.2.1 dX9_shared_47 rfl (lv_at hl 1 rfl) ?_
          refine lv_ifnullN (tgt := 56) C.1 C.2.1 dX9_shared_48 (by decide) ?_
          exact hB56 ls (lv_sub hl [] rfl) hf
      · have hf := mo_s he34 hf
        refine lv_astore_n (lv' := [(3, .ref a34), (0, .ref (ad 0)), (1, .int z1), (2, .int z2)]) C.1 C.2.1 dX9_shared_35 rfl hl (by decide) rfl (fun ls hl => ?_)
        refine lv_aload_n C.1 C.2.1 dX9_shared_36 rfl (lv_at hl 1 rfl) ?_
        refine gc_R_canvas C hK hP wf_X9_10 dX9_shared_37 ?_
        refine gc_cv_routes C hK hP wf_X9_103 dX9_shared_40 ?_
        refine lv_iload_n C.1 C.2.1 dX9_shared_43 rfl (lv_at hl 3 rfl) ?_
        obtain ⟨hi44, hf⟩ := gd_some hf
        refine lr_cr C hK hP hi44 dX9_shared_44 (fun hn44 => ?_) (fun a44 v44 he44 hv44 => ?_)
        · have hf := mo_n hn44 hf
          refine lv_astoreN (lv' := [(4, .null), (3, .ref a34), (0, .ref (ad 0)), (1, .int z1), (2, .int z2)]) C.1 C.2.1 dX9_shared_45 hl (by decide) rfl (fun ls hl => ?_)
          refine lv_aload_n C.1 C.2.1 dX9_shared_47 rfl (lv_at hl 1 rfl) ?_
          refine lv_ifnull C.1 C.2.1 dX9_shared_48 ?_
          refine lv_aloadN C.1 C.2.1 dX9_shared_51 (lv_at hl 0 rfl) ?_
          refine lv_ifnonnullN C.1 C.2.1 dX9_shared_53 ?_
          exact hB56 ls (lv_sub hl [] rfl) hf
        · have hf := mo_s he44 hf
          refine lv_astore (lv' := [(4, .ref a44), (3, .ref a34), (0, .ref (ad 0)), (1, .int z1), (2, .int z2)]) C.1 C.2.1 dX9_shared_45 hl (by decide) rfl (fun ls hl => ?_)
          refine lv_aload_n C.1 C.2.1 dX9_shared_47 rfl (lv_at hl 1 rfl) ?_
          refine lv_ifnull C.1 C.2.1 dX9_shared_48 ?_
          refine lv_aload C.1 C.2.1 dX9_shared_51 (lv_at hl 0 rfl) ?_
          refine lv_ifnonnull (tgt := 58) C.1 C.2.1 dX9_shared_53 (by decide) ?_
          refine lv_iload_n C.1 C.2.1 dX9_shared_58 rfl (lv_at hl 3 rfl) ?_
          refine lv_iload_n C.1 C.2.1 dX9_shared_59 rfl (lv_at hl 4 rfl) ?_
          refine lv_icmp_ne (tgt := 70) C.1 C.2.1 dX9_shared_60 (by decide) (fun c60 => ?_) (fun c60 => ?_)
          · have hf := br_n c60 hf
            refine lv_aload_n C.1 C.2.1 dX9_shared_70 rfl (lv_at hl 1 rfl) ?_
            refine lv_aload C.1 C.2.1 dX9_shared_71 (lv_at hl 0 rfl) ?_
            obtain ⟨r73, hc73, hf⟩ := bd_some hf
            refine cV_go (runRVc (As := [_]) C hK hP hZ hS wv_X9_180 hl (kc_X6_sharedLengthWith l D cA ad _ η F _ _ _ _ hv34 hv44 r73 hc73) (rcR hK hP hv34) rfl rfl rfl (Nat.le_of_ble_eq_true rfl) ⟨Nat.le_refl _, Nat.le_refl _⟩ dX9_shared_73) ?_
            exact hB76 ls _ (lv_sub hl [] rfl) hf
          · have hf := br_p c60 hf
            refine lv_aload_n C.1 C.2.1 dX9_shared_63 rfl (lv_at hl 1 rfl) ?_
            obtain ⟨r64, hc64, hf⟩ := bd_some hf
            refine cV_go (runRVc (As := []) C hK hP hZ hS wv_X9_151 hl (kc_X6_length l D cA ad _ η F _ _ hv34 r64 hc64) (rcR hK hP hv34) rfl rfl rfl (Nat.le_of_ble_eq_true rfl) ⟨Nat.le_refl _, Nat.le_refl _⟩ dX9_shared_64) ?_
            refine lv_goto (tgt := 76) C.1 C.2.1 dX9_shared_67 (by decide) ?_
            exact hB76 ls _ (lv_sub hl [] rfl) hf
    · have hf := br_p c19 hf
      exact hB22 ls (lv_sub hl [] rfl) hf
def fc_X6_isInner_L20 (F : Nat) (σ : CSt) (s0 : Int32) : Option (Int32) :=
  gd (s0 = 0 ∨ s0 = 1) (some s0)
def fc_X6_isInner_L19 (F : Nat) (σ : CSt) : Option (Int32) :=
  fc_X6_isInner_L20 F σ (0 : Int32)
def fc_X6_isInner (F : Nat) (σ : CSt) (vx0 : RV) (x1 : Int32) : Option (Int32) :=
  if x1 < (1 : Int32) then (fc_X6_isInner_L19 F σ) else (bd (fc_X6_segments F σ vx0) (fun r7 => if (r7 - (1 : Int32)) ≤ x1 then (fc_X6_isInner_L19 F σ) else (fc_X6_isInner_L20 F σ (1 : Int32))))
set_option maxHeartbeats 4000000 in
set_option maxRecDepth 100000 in
theorem kc_X6_isInner (l : Launch) (D : va_G) (cA : Nat → ClassId) (ad : Nat → Nat) (σ : CSt) (η : HS) (F : Nat) (az0 : Nat) (vz0 : RV) (z1 : Int32) (hvz0 : isRt cA η az0 vz0) (r : Int32) (hf : fc_X6_isInner F σ vz0 z1 = some r) : KRc l D cA ad σ η yX6_isInner cX6_isInner 2 (some .boolean) (rmk 1 20) [.ref az0, .int z1] (QcV (.int r)) := by
  refine KRc.of (by decide) (Nat.le_of_ble_eq_true rfl) ?_
  intro p e s m below meth c C hr hlk hK hP hZ ls hl
  have hS : va_S NoA s.heap s.heap [] := va_S.rf
  have hl : lv_has ls 2 [(0, .ref az0), (1, .int z1)] := hl
  have hB20 : ∀ (ls : Array Slot) (s0 : Int32), lv_has ls 2 [] → fc_X6_isInner_L20 F σ s0 = some r → WRc p l e 1 20 s m [.ref az0, .int z1] below meth c (QcV (.int r)) (F0 m 20 ls [.int s0]) := by
    intro ls s0 hl hf
    unfold fc_X6_isInner_L20 at hf
    obtain ⟨hz20, hf⟩ := gd_some hf
    exact KRc.zret C hr hlk hz20 (Option.some.inj hf) dX6_isInner_20
  have hB19 : ∀ (ls : Array Slot), lv_has ls 2 [] → fc_X6_isInner_L19 F σ = some r → WRc p l e 1 20 s m [.ref az0, .int z1] below meth c (QcV (.int r)) (F0 m 19 ls []) := by
    intro ls hl hf
    unfold fc_X6_isInner_L19 at hf
    refine lv_iconst (v := (0 : Int32)) C.1 C.2.1 dX6_isInner_19 (by decide) ?_
    exact hB20 ls _ (lv_sub hl [] rfl) hf
  unfold fc_X6_isInner at hf
  refine lv_iload_n C.1 C.2.1 dX6_isInner_0 rfl (lv_at hl 1 rfl) ?_
  refine lv_iconst (v := (1 : Int32)) C.1 C.2.1 dX6_isInner_1 (by decide) ?_
  refine lv_icmp_lt (tgt := 19) C.1 C.2.1 dX6_isInner_2 (by decide) (fun c2 => ?_) (fun c2 => ?_)
  · have hf := br_p c2 hf
    exact hB19 ls (lv_sub hl [] rfl) hf
  · have hf := br_n c2 hf
    refine lv_iload_n C.1 C.2.1 dX6_isInner_5 rfl (lv_at hl 1 rfl) ?_
    refine lv_aload_n C.1 C.2.1 dX6_isInner_6 rfl (lv_at hl 0 rfl) ?_
    obtain ⟨r7, hc7, hf⟩ := bd_some hf
    refine cV_go (runRVc (As := []) C hK hP hZ hS wv_X6_20 hl (kc_X6_segments l D cA ad _ η F _ _ hvz0 r7 hc7) (rcR hK hP hvz0) rfl rfl rfl (Nat.le_of_ble_eq_true rfl) ⟨Nat.le_refl _, Nat.le_refl _⟩ dX6_isInner_7) ?_
    refine lv_iconst (v := (1 : Int32)) C.1 C.2.1 dX6_isInner_10 (by decide) ?_
    refine lv_isub C.1 C.2.1 dX6_isInner_11 ?_
    refine lv_icmp_ge (tgt := 19) C.1 C.2.1 dX6_isInner_12 (by decide) (fun c12 => ?_) (fun c12 => ?_)
    · have hf := br_p c12 hf
      exact hB19 ls (lv_sub hl [] rfl) hf
    · have hf := br_n c12 hf
      refine lv_iconst (v := (1 : Int32)) C.1 C.2.1 dX6_isInner_15 (by decide) ?_
      refine lv_goto (tgt := 20) C.1 C.2.1 dX6_isInner_16 (by decide) ?_
      exact hB20 ls _ (lv_sub hl [] rfl) hf
def fc_X6_pullOf_L19 (F : Nat) (σ : CSt) (x1 : Int32) (ns0 : Nat) (fs0 : (Nat → Int32)) : Option (Int32) :=
  gd (ix (x1 - (1 : Int32)) ns0 = true) (gd (ix (x1 + (2 : Int32)) ns0 = true) (gd (ix x1 ns0 = true) (some (((fs0 (x1 - (1 : Int32)).toNatClampNeg) + (fs0 (x1 + (2 : Int32)).toNatClampNeg)) - ((2 : Int32) * (fs0 x1.toNatClampNeg))))))
def fc_X6_pullOf (F : Nat) (σ : CSt) (vx0 : RV) (x1 : Int32) : Option (Int32) :=
  bd (fc_X6_isLevel F σ vx0 x1) (fun r2 => if r2 = 0 then (fc_X6_pullOf_L19 F σ x1 (vx0.2.1) (vx0.2.2.1)) else (fc_X6_pullOf_L19 F σ x1 (vx0.2.1) (vx0.2.2.2)))
set_option maxHeartbeats 4000000 in
set_option maxRecDepth 100000 in
theorem kc_X6_pullOf (l : Launch) (D : va_G) (cA : Nat → ClassId) (ad : Nat → Nat) (σ : CSt) (η : HS) (F : Nat) (az0 : Nat) (vz0 : RV) (z1 : Int32) (hvz0 : isRt cA η az0 vz0) (r : Int32) (hf : fc_X6_pullOf F σ vz0 z1 = some r) : KRc l D cA ad σ η yX6_pullOf cX6_pullOf 3 (some .int) (rmk 1 21) [.ref az0, .int z1] (QcV (.int r)) := by
  refine KRc.of (by decide) (Nat.le_of_ble_eq_true rfl) ?_
  intro p e s m below meth c C hr hlk hK hP hZ ls hl
  have hS : va_S NoA s.heap s.heap [] := va_S.rf
  have hl : lv_has ls 3 [(0, .ref az0), (1, .int z1)] := hl
  have hB19 : ∀ (ls : Array Slot) (x1 : Int32) (as0 ns0 : Nat) (fs0 : Nat → Int32), isPa cA η as0 ns0 fs0 → lv_has ls 3 [(1, .int x1)] → fc_X6_pullOf_L19 F σ x1 ns0 fs0 = some r → WRc p l e 1 21 s m [.ref az0, .int z1] below meth c (QcV (.int r)) (F0 m 19 ls [.ref as0]) := by
    intro ls x1 as0 ns0 fs0 hps0 hl hf
    unfold fc_X6_pullOf_L19 at hf
    refine lv_astore_n (lv' := [(2, .ref as0), (1, .int x1)]) C.1 C.2.1 dX6_pullOf_19 rfl hl (by decide) rfl (fun ls hl => ?_)
    refine lv_aload_n C.1 C.2.1 dX6_pullOf_20 rfl (lv_at hl 0 rfl) ?_
    refine lv_iload_n C.1 C.2.1 dX6_pullOf_21 rfl (lv_at hl 1 rfl) ?_
    refine lv_iconst (v := (1 : Int32)) C.1 C.2.1 dX6_pullOf_22 (by decide) ?_
    refine lv_isub C.1 C.2.1 dX6_pullOf_23 ?_
    obtain ⟨hi24, hf⟩ := gd_some hf
    refine lp_pa C hK hP hps0 hi24 dX6_pullOf_24 ?_
    refine lv_aload_n C.1 C.2.1 dX6_pullOf_25 rfl (lv_at hl 0 rfl) ?_
    refine lv_iload_n C.1 C.2.1 dX6_pullOf_26 rfl (lv_at hl 1 rfl) ?_
    refine lv_iconst (v := (2 : Int32)) C.1 C.2.1 dX6_pullOf_27 (by decide) ?_
    refine lv_iadd C.1 C.2.1 dX6_pullOf_28 ?_
    obtain ⟨hi29, hf⟩ := gd_some hf
    refine lp_pa C hK hP hps0 hi29 dX6_pullOf_29 ?_
    refine lv_iadd C.1 C.2.1 dX6_pullOf_30 ?_
    refine lv_iconst (v := (2 : Int32)) C.1 C.2.1 dX6_pullOf_31 (by decide) ?_
    refine lv_aload_n C.1 C.2.1 dX6_pullOf_32 rfl (lv_at hl 0 rfl) ?_
    refine lv_iload_n C.1 C.2.1 dX6_pullOf_33 rfl (lv_at hl 1 rfl) ?_
    obtain ⟨hi34, hf⟩ := gd_some hf
    refine lp_pa C hK hP hps0 hi34 dX6_pullOf_34 ?_
    refine lv_imul C.1 C.2.1 dX6_pullOf_35 ?_
    refine lv_isub C.1 C.2.1 dX6_pullOf_36 ?_
    exact KRc.iret C hr hlk (Option.some.inj hf) dX6_pullOf_37
  unfold fc_X6_pullOf at hf
  refine lv_aload_n C.1 C.2.1 dX6_pullOf_0 rfl (lv_at hl 0 rfl) ?_
  refine lv_iload_n C.1 C.2.1 dX6_pullOf_1 rfl (lv_at hl 1 rfl) ?_
  obtain ⟨r2, hc2, hf⟩ := bd_some hf
  refine cV_go (runRVc (As := [_]) C hK hP hZ hS wv_X6_24 hl (kc_X6_isLevel l D cA ad _ η F _ _ _ hvz0 r2 hc2) (rcR hK hP hvz0) rfl rfl rfl (Nat.le_of_ble_eq_true rfl) ⟨Nat.le_refl _, Nat.le_refl _⟩ dX6_pullOf_2) ?_
  refine lv_if_eq (tgt := 15) C.1 C.2.1 dX6_pullOf_5 (by decide) (fun c5 => ?_) (fun c5 => ?_)
  · have hf := br_p c5 hf
    refine lv_aload_n C.1 C.2.1 dX6_pullOf_15 rfl (lv_at hl 0 rfl) ?_
    refine gp_xs C hK hP hvz0 wf_X6_13 dX6_pullOf_16 (fun q16 hq16 => ?_)
    exact hB19 ls _ _ _ _ hq16 (lv_sub hl [1] rfl) hf
  · have hf := br_n c5 hf
    refine lv_aload_n C.1 C.2.1 dX6_pullOf_8 rfl (lv_at hl 0 rfl) ?_
    refine gp_ys C hK hP hvz0 wf_X6_17 dX6_pullOf_9 (fun q9 hq9 => ?_)
    refine lv_goto (tgt := 19) C.1 C.2.1 dX6_pullOf_12 (by decide) ?_
    exact hB19 ls _ _ _ _ hq9 (lv_sub hl [1] rfl) hf
def fc_X0_add (F : Nat) (σ : CSt) (vx1 : RV) (x2 : Int32) : Option (CSt) :=
  bd (fc_X6_startOf F σ vx1 x2) (fun r10 => gd (ix (cs_bs σ) 180 = true) (lt (sc_bst σ (cs_bs σ) r10) (fun σ13 => bd (fc_X6_endOf F σ13 vx1 x2) (fun r24 => gd (ix (cs_bs σ13) 180 = true) (lt (sc_ben σ13 (cs_bs σ13) r24) (fun σ27 => bd (fc_X6_pullOf F σ27 vx1 x2) (fun r38 => gd (ix (cs_bs σ27) 180 = true) (lt (sc_bpu σ27 (cs_bs σ27) r38) (fun σ41 => gd (ix (cs_bs σ41) 180 = true) (lt (sc_bla σ41 (cs_bs σ41) (-1 : Int32)) (fun σ51 => gd (ix (cs_bs σ51) 180 = true) (lt (sc_bre σ51 (cs_bs σ51) (0 : Int32)) (fun σ61 => lt (cs_bs_s σ61 ((cs_bs σ61) + (1 : Int32))) (fun σ69 => some σ69))))))))))))))
set_option maxHeartbeats 4000000 in
set_option maxRecDepth 100000 in
theorem kc_X0_add (l : Launch) (D : va_G) (cA : Nat → ClassId) (ad : Nat → Nat) (σ0 : CSt) (η : HS) (F : Nat) (az1 : Nat) (vz1 : RV) (z2 : Int32) (hvz1 : isRt cA η az1 vz1) (σr : CSt) (hf : fc_X0_add F σ0 vz1 z2 = some σr) : KC l D cA ad σ0 η yX0_add cX0_add 3 none (rmk 2 43) [.ref (ad 36), .ref az1, .int z2] none σr := by
  refine KC.of (by decide) (Nat.le_of_ble_eq_true rfl) ?_
  intro p e s m below meth c A hAe hA C hr hlk hK hP hD hS hZ ls hl
  have hl : lv_has ls 3 [(0, .ref (ad 36)), (1, .ref az1), (2, .int z2)] := hl
  unfold fc_X0_add at hf
  refine lv_aload_n C.1 C.2.1 dX0_add_0 rfl (lv_at hl 0 rfl) ?_
  refine gc_bu_starts C hK hP wf_X0_13 dX0_add_1 ?_
  refine lv_aload_n C.1 C.2.1 dX0_add_4 rfl (lv_at hl 0 rfl) ?_
  refine gc_bu_size C hK hP wf_X0_30 dX0_add_5 ?_
  refine lv_aload_n C.1 C.2.1 dX0_add_8 rfl (lv_at hl 1 rfl) ?_
  refine lv_iload_n C.1 C.2.1 dX0_add_9 rfl (lv_at hl 2 rfl) ?_
  obtain ⟨r10, hc10, hf⟩ := bd_some hf
  refine cV_go (runRVc (As := [_]) C hK hP hZ hS wv_X0_68 hl (kc_X6_startOf l D cA ad _ η F _ _ _ hvz1 r10 hc10) (rcR hK hP hvz1) rfl rfl rfl (Nat.le_of_ble_eq_true rfl) ⟨Nat.le_refl _, Nat.le_refl _⟩ dX0_add_10) ?_
  obtain ⟨hi13, hf⟩ := gd_some hf
  replace hf := lt_e hf
  refine uc_bst C hK hP hD hS hi13 dX0_add_13 (fun H locs hP hD hS => ?_)
  refine lv_aload_n C.1 C.2.1 dX0_add_14 rfl (lv_at hl 0 rfl) ?_
  refine gc_bu_ends C hK hP wf_X0_17 dX0_add_15 ?_
  refine lv_aload_n C.1 C.2.1 dX0_add_18 rfl (lv_at hl 0 rfl) ?_
  refine gc_bu_size C hK hP wf_X0_30 dX0_add_19 ?_
  refine lv_aload_n C.1 C.2.1 dX0_add_22 rfl (lv_at hl 1 rfl) ?_
  refine lv_iload_n C.1 C.2.1 dX0_add_23 rfl (lv_at hl 2 rfl) ?_
  obtain ⟨r24, hc24, hf⟩ := bd_some hf
  refine cV_go (runRVc (As := [_]) C hK hP hZ hS wv_X0_71 hl (kc_X6_endOf l D cA ad _ η F _ _ _ hvz1 r24 hc24) (rcR hK hP hvz1) rfl rfl rfl (Nat.le_of_ble_eq_true rfl) ⟨Nat.le_refl _, Nat.le_refl _⟩ dX0_add_24) ?_
  obtain ⟨hi27, hf⟩ := gd_some hf
  replace hf := lt_e hf
  refine uc_ben C hK hP hD hS hi27 dX0_add_27 (fun H locs hP hD hS => ?_)
  refine lv_aload_n C.1 C.2.1 dX0_add_28 rfl (lv_at hl 0 rfl) ?_
  refine gc_bu_pulls C hK hP wf_X0_20 dX0_add_29 ?_
  refine lv_aload_n C.1 C.2.1 dX0_add_32 rfl (lv_at hl 0 rfl) ?_
  refine gc_bu_size C hK hP wf_X0_30 dX0_add_33 ?_
  refine lv_aload_n C.1 C.2.1 dX0_add_36 rfl (lv_at hl 1 rfl) ?_
  refine lv_iload_n C.1 C.2.1 dX0_add_37 rfl (lv_at hl 2 rfl) ?_
  obtain ⟨r38, hc38, hf⟩ := bd_some hf
  refine cV_go (runRVc (As := [_]) C hK hP hZ hS wv_X0_74 hl (kc_X6_pullOf l D cA ad _ η F _ _ _ hvz1 r38 hc38) (rcR hK hP hvz1) rfl rfl rfl (Nat.le_of_ble_eq_true rfl) ⟨Nat.le_refl _, Nat.le_refl _⟩ dX0_add_38) ?_
  obtain ⟨hi41, hf⟩ := gd_some hf
  replace hf := lt_e hf
  refine uc_bpu C hK hP hD hS hi41 dX0_add_41 (fun H locs hP hD hS => ?_)
  refine lv_aload_n C.1 C.2.1 dX0_add_42 rfl (lv_at hl 0 rfl) ?_
  refine gc_bu_lanes C hK hP wf_X0_23 dX0_add_43 ?_
  refine lv_aload_n C.1 C.2.1 dX0_add_46 rfl (lv_at hl 0 rfl) ?_
  refine gc_bu_size C hK hP wf_X0_30 dX0_add_47 ?_
  refine lv_iconst (v := (-1 : Int32)) C.1 C.2.1 dX0_add_50 (by decide) ?_
  obtain ⟨hi51, hf⟩ := gd_some hf
  replace hf := lt_e hf
  refine uc_bla C hK hP hD hS hi51 dX0_add_51 (fun H locs hP hD hS => ?_)
  refine lv_aload_n C.1 C.2.1 dX0_add_52 rfl (lv_at hl 0 rfl) ?_
  refine gc_bu_reached C hK hP wf_X0_26 dX0_add_53 ?_
  refine lv_aload_n C.1 C.2.1 dX0_add_56 rfl (lv_at hl 0 rfl) ?_
  refine gc_bu_size C hK hP wf_X0_30 dX0_add_57 ?_
  refine lv_iconst (v := (0 : Int32)) C.1 C.2.1 dX0_add_60 (by decide) ?_
  obtain ⟨hi61, hf⟩ := gd_some hf
  replace hf := lt_e hf
  refine uc_bre C hK hP hD hS hi61 (by decide) dX0_add_61 (fun H locs hP hD hS => ?_)
  refine lv_aload_n C.1 C.2.1 dX0_add_62 rfl (lv_at hl 0 rfl) ?_
  refine lv_dup C.1 C.2.1 dX0_add_63 rfl ?_
  refine gc_bu_size C hK hP wf_X0_30 dX0_add_64 ?_
  refine lv_iconst (v := (1 : Int32)) C.1 C.2.1 dX0_add_67 (by decide) ?_
  refine lv_iadd C.1 C.2.1 dX0_add_68 ?_
  replace hf := lt_e hf
  refine pc_bu_size C hK hP hD hS wf_X0_30 dX0_add_69 (fun H locs hP hD hS => ?_)
  obtain rfl := Option.some.inj hf
  exact KC.vret C hr hlk hK hAe hP hD hS rfl dX0_add_72
def fc_X0_gather_L158 (F : Nat) (k42 : CSt → Int32 → Int32 → Int32 → Int32 → Int32 → Option (CSt)) (σ : CSt) (x2 : Int32) (x3 : Int32) (x5 : Int32) (x6 : Int32) (x7 : Int32) : Option (CSt) :=
  lt (x7 + (1 : Int32)) (fun x7_158 => k42 σ x2 x3 x5 x6 x7_158)
def fc_X0_gather_L152 (F : Nat) (k42 : CSt → Int32 → Int32 → Int32 → Int32 → Int32 → Option (CSt)) (k71 : CSt → Int32 → Int32 → Int32 → Int32 → Int32 → RV → Int32 → Option (CSt)) (σ : CSt) (x2 : Int32) (x3 : Int32) (x5 : Int32) (x6 : Int32) (x7 : Int32) (vx8 : RV) (x9 : Int32) : Option (CSt) :=
  lt (x9 + (1 : Int32)) (fun x9_152 => k71 σ x2 x3 x5 x6 x7 vx8 x9_152)
def fc_X0_gather_L141 (F : Nat) (k42 : CSt → Int32 → Int32 → Int32 → Int32 → Int32 → Option (CSt)) (k71 : CSt → Int32 → Int32 → Int32 → Int32 → Int32 → RV → Int32 → Option (CSt)) (σ : CSt) (x2 : Int32) (x3 : Int32) (x5 : Int32) (x6 : Int32) (x7 : Int32) (vx8 : RV) (x9 : Int32) (s0 : Int32) : Option (CSt) :=
  lt (cs_bo_s σ s0) (fun σ141 => bd (fc_X0_add F σ141 vx8 x9) (fun σ149 => fc_X0_gather_L152 F k42 k71 σ149 x2 x3 x5 x6 x7 vx8 x9))
def fc_X0_gather_L137 (F : Nat) (k42 : CSt → Int32 → Int32 → Int32 → Int32 → Int32 → Option (CSt)) (k71 : CSt → Int32 → Int32 → Int32 → Int32 → Int32 → RV → Int32 → Option (CSt)) (σ : CSt) (x2 : Int32) (x3 : Int32) (x5 : Int32) (x6 : Int32) (x7 : Int32) (vx8 : RV) (x9 : Int32) : Option (CSt) :=
  fc_X0_gather_L141 F k42 k71 σ x2 x3 x5 x6 x7 vx8 x9 (cs_bo σ)
def fc_X0_gather_L71_c (F : Nat) (k42 : CSt → Int32 → Int32 → Int32 → Int32 → Int32 → Option (CSt)) (k71 : CSt → Int32 → Int32 → Int32 → Int32 → Int32 → RV → Int32 → Option (CSt)) (σ : CSt) (x2 : Int32) (x3 : Int32) (x5 : Int32) (x6 : Int32) (x7 : Int32) (vx8 : RV) (x9 : Int32) : Option (CSt) :=
  bd (fc_X6_segments F σ vx8) (fun r75 => if (r75 - (1 : Int32)) ≤ x9 then (fc_X0_gather_L158 F k42 σ x2 x3 x5 x6 x7) else (if (180 : Int32) ≤ (cs_bs σ) then (fc_X0_gather_L158 F k42 σ x2 x3 x5 x6 x7) else (bd (fc_X6_isLevel F σ vx8 x9) (fun r97 => if r97 = x5 then (bd (fc_X6_lineOf F σ vx8 x9) (fun r109 => if r109 = x6 then (if x7 = x2 then (if x9 = x3 then (fc_X0_gather_L141 F k42 k71 σ x2 x3 x5 x6 x7 vx8 x9 (cs_bs σ)) else (fc_X0_gather_L137 F k42 k71 σ x2 x3 x5 x6 x7 vx8 x9)) else (fc_X0_gather_L137 F k42 k71 σ x2 x3 x5 x6 x7 vx8 x9)) else (fc_X0_gather_L152 F k42 k71 σ x2 x3 x5 x6 x7 vx8 x9))) else (fc_X0_gather_L152 F k42 k71 σ x2 x3 x5 x6 x7 vx8 x9)))))
def fc_X0_gather_L71 (F : Nat) (k42 : CSt → Int32 → Int32 → Int32 → Int32 → Int32 → Option (CSt)) (n : Nat) (σ : CSt) (x2 : Int32) (x3 : Int32) (x5 : Int32) (x6 : Int32) (x7 : Int32) (vx8 : RV) (x9 : Int32) : Option (CSt) := lpN (fun (k : CSt × Int32 × Int32 × Int32 × Int32 × Int32 × RV × Int32 → Option (CSt)) a => fc_X0_gather_L71_c F k42 (fun σ x2 x3 x5 x6 x7 vx8 x9 => k (σ, x2, x3, x5, x6, x7, vx8, x9)) a.1 a.2.1 a.2.2.1 a.2.2.2.1 a.2.2.2.2.1 a.2.2.2.2.2.1 a.2.2.2.2.2.2.1 a.2.2.2.2.2.2.2) n (σ, x2, x3, x5, x6, x7, vx8, x9)
def fc_X0_gather_L42_c (F : Nat) (k42 : CSt → Int32 → Int32 → Int32 → Int32 → Int32 → Option (CSt)) (σ : CSt) (x2 : Int32) (x3 : Int32) (x5 : Int32) (x6 : Int32) (x7 : Int32) : Option (CSt) :=
  if (cs_cc σ) ≤ x7 then (some σ) else (gd (ix x7 10 = true) (mo (cs_cr σ x7.toNatClampNeg) (fc_X0_gather_L158 F k42 σ x2 x3 x5 x6 x7) (fun v57 => fc_X0_gather_L71 F k42 F σ x2 x3 x5 x6 x7 v57 (1 : Int32))))
def fc_X0_gather_L42 (F : Nat) (n : Nat) (σ : CSt) (x2 : Int32) (x3 : Int32) (x5 : Int32) (x6 : Int32) (x7 : Int32) : Option (CSt) := lpN (fun (k : CSt × Int32 × Int32 × Int32 × Int32 × Int32 → Option (CSt)) a => fc_X0_gather_L42_c F (fun σ x2 x3 x5 x6 x7 => k (σ, x2, x3, x5, x6, x7)) a.1 a.2.1 a.2.2.1 a.2.2.2.1 a.2.2.2.2.1 a.2.2.2.2.2) n (σ, x2, x3, x5, x6, x7)
def fc_X0_gather (F : Nat) (σ : CSt) (x2 : Int32) (x3 : Int32) : Option (CSt) :=
  lt (cs_bs_s σ (0 : Int32)) (fun σ2 => lt (cs_bo_s σ2 (0 : Int32)) (fun σ7 => bd (fc_X1_routeOf F σ7 x2) (fun r12 => mo r12 (some σ7) (fun v12 => bd (fc_X6_isLevel F σ7 v12 x3) (fun r26 => bd (fc_X6_lineOf F σ7 v12 x3) (fun r34 => fc_X0_gather_L42 F F σ7 x2 x3 r26 r34 (0 : Int32)))))))
set_option maxHeartbeats 4000000 in
set_option maxRecDepth 100000 in
theorem kc_X0_gather (l : Launch) (D : va_G) (cA : Nat → ClassId) (ad : Nat → Nat) (σ0 : CSt) (η : HS) (F : Nat) (z2 : Int32) (z3 : Int32) (σr : CSt) (hf : fc_X0_gather F σ0 z2 z3 = some σr) : KC l D cA ad σ0 η yX0_gather cX0_gather 10 none (rmk 3 65) [.ref (ad 36), .ref (ad 1), .int z2, .int z3] none σr := by
  refine KC.of (by decide) (Nat.le_of_ble_eq_true rfl) ?_
  intro p e s m below meth c A hAe hA C hr hlk hK hP hD hS hZ ls hl
  have hl : lv_has ls 10 [(0, .ref (ad 36)), (1, .ref (ad 1)), (2, .int z2), (3, .int z3)] := hl
  have hB42 : ∀ (n42 : Nat) (H : Heap) (locs : List Loc) (σ : CSt) (ls : Array Slot) (x2 : Int32) (x3 : Int32) (x5 : Int32) (x6 : Int32) (x7 : Int32), HC D cA ad σ η H → va_D A (wC cA ad σ η) → va_S A s.heap H locs → lv_has ls 10 [(0, .ref (ad 36)), (1, .ref (ad 1)), (2, .int x2), (3, .int x3), (5, .int x5), (6, .int x6), (7, .int x7)] → fc_X0_gather_L42 F n42 σ x2 x3 x5 x6 x7 = some σr → WC p l e 3 65 s m [.ref (ad 36), .ref (ad 1), .int z2, .int z3] below meth c none D cA ad σ0 η σr A H locs (F0 m 42 ls []) := by
    intro n42
    induction n42 with
    | zero =>
      intro H locs σ ls x2 x3 x5 x6 x7 hP hD hS hl hf
      cases (show (none : Option _) = _ from hf)
    | succ n42 ih42 =>
      have hB158 : ∀ (H : Heap) (locs : List Loc) (σ : CSt) (ls : Array Slot) (x2 : Int32) (x3 : Int32) (x5 : Int32) (x6 : Int32) (x7 : Int32), HC D cA ad σ η H → va_D A (wC cA ad σ η) → va_S A s.heap H locs → lv_has ls 10 [(0, .ref (ad 36)), (1, .ref (ad 1)), (2, .int x2), (3, .int x3), (5, .int x5), (6, .int x6), (7, .int x7)] → fc_X0_gather_L158 F (fc_X0_gather_L42 F n42) σ x2 x3 x5 x6 x7 = some σr → WC p l e 3 65 s m [.ref (ad 36), .ref (ad 1), .int z2, .int z3] below meth c none D cA ad σ0 η σr A H locs (F0 m 158 ls []) := by
        intro H locs σ ls x2 x3 x5 x6 x7 hP hD hS hl hf
        unfold fc_X0_gather_L158 at hf
        obtain ⟨x7_158, ex7_158, hf⟩ := lt_some hf
        refine lv_iinc (v := x7_158) (lv' := [(7, .int x7_158), (0, .ref (ad 36)), (1, .ref (ad 1)), (2, .int x2), (3, .int x3), (5, .int x5), (6, .int x6)]) C.1 C.2.1 dX0_gather_158 hl (k := 6) rfl (by rw [ex7_158]; rfl) (by decide) rfl (fun ls hl => ?_)
        refine lv_goto (tgt := 42) C.1 C.2.1 dX0_gather_161 (by decide) ?_
        exact ih42 _ _ _ ls _ _ _ _ _ hP hD hS (lv_sub hl [1, 2, 3, 4, 5, 6, 0] rfl) hf
      have hB71 : ∀ (n71 : Nat) (H : Heap) (locs : List Loc) (σ : CSt) (ls : Array Slot) (x2 : Int32) (x3 : Int32) (x5 : Int32) (x6 : Int32) (x7 : Int32) (ax8 : Nat) (vx8 : RV) (x9 : Int32), HC D cA ad σ η H → va_D A (wC cA ad σ η) → va_S A s.heap H locs → isRt cA η ax8 vx8 → lv_has ls 10 [(0, .ref (ad 36)), (1, .ref (ad 1)), (2, .int x2), (3, .int x3), (5, .int x5), (6, .int x6), (7, .int x7), (8, .ref ax8), (9, .int x9)] → fc_X0_gather_L71 F (fc_X0_gather_L42 F n42) n71 σ x2 x3 x5 x6 x7 vx8 x9 = some σr → WC p l e 3 65 s m [.ref (ad 36), .ref (ad 1), .int z2, .int z3] below meth c none D cA ad σ0 η σr A H locs (F0 m 71 ls []) := by
        intro n71
        induction n71 with
        | zero =>
          intro H locs σ ls x2 x3 x5 x6 x7 ax8 vx8 x9 hP hD hS hvx8 hl hf
          cases (show (none : Option _) = _ from hf)
        | succ n71 ih71 =>
          have hB152 : ∀ (H : Heap) (locs : List Loc) (σ : CSt) (ls : Array Slot) (x2 : Int32) (x3 : Int32) (x5 : Int32) (x6 : Int32) (x7 : Int32) (ax8 : Nat) (vx8 : RV) (x9 : Int32), HC D cA ad σ η H → va_D A (wC cA ad σ η) → va_S A s.heap H locs → isRt cA η ax8 vx8 → lv_has ls 10 [(0, .ref (ad 36)), (1, .ref (ad 1)), (2, .int x2), (3, .int x3), (5, .int x5), (6, .int x6), (7, .int x7), (8, .ref ax8), (9, .int x9)] → fc_X0_gather_L152 F (fc_X0_gather_L42 F n42) (fc_X0_gather_L71 F (fc_X0_gather_L42 F n42) n71) σ x2 x3 x5 x6 x7 vx8 x9 = some σr → WC p l e 3 65 s m [.ref (ad 36), .ref (ad 1), .int z2, .int z3] below meth c none D cA ad σ0 η σr A H locs (F0 m 152 ls []) := by
            intro H locs σ ls x2 x3 x5 x6 x7 ax8 vx8 x9 hP hD hS hvx8 hl hf
            unfold fc_X0_gather_L152 at hf
            obtain ⟨x9_152, ex9_152, hf⟩ := lt_some hf
            refine lv_iinc (v := x9_152) (lv' := [(9, .int x9_152), (0, .ref (ad 36)), (1, .ref (ad 1)), (2, .int x2), (3, .int x3), (5, .int x5), (6, .int x6), (7, .int x7), (8, .ref ax8)]) C.1 C.2.1 dX0_gather_152 hl (k := 8) rfl (by rw [ex9_152]; rfl) (by decide) rfl (fun ls hl => ?_)
            refine lv_goto (tgt := 71) C.1 C.2.1 dX0_gather_155 (by decide) ?_
            exact ih71 _ _ _ ls _ _ _ _ _ _ _ _ hP hD hS hvx8 (lv_sub hl [1, 2, 3, 4, 5, 6, 7, 8, 0] rfl) hf
          have hB141 : ∀ (H : Heap) (locs : List Loc) (σ : CSt) (ls : Array Slot) (x2 : Int32) (x3 : Int32) (x5 : Int32) (x6 : Int32) (x7 : Int32) (ax8 : Nat) (vx8 : RV) (x9 : Int32) (s0 : Int32), HC D cA ad σ η H → va_D A (wC cA ad σ η) → va_S A s.heap H locs → isRt cA η ax8 vx8 → lv_has ls 10 [(0, .ref (ad 36)), (1, .ref (ad 1)), (2, .int x2), (3, .int x3), (5, .int x5), (6, .int x6), (7, .int x7), (8, .ref ax8), (9, .int x9)] → fc_X0_gather_L141 F (fc_X0_gather_L42 F n42) (fc_X0_gather_L71 F (fc_X0_gather_L42 F n42) n71) σ x2 x3 x5 x6 x7 vx8 x9 s0 = some σr → WC p l e 3 65 s m [.ref (ad 36), .ref (ad 1), .int z2, .int z3] below meth c none D cA ad σ0 η σr A H locs (F0 m 141 ls [.int s0, .ref (ad 36)]) := by
            intro H locs σ ls x2 x3 x5 x6 x7 ax8 vx8 x9 s0 hP hD hS hvx8 hl hf
            unfold fc_X0_gather_L141 at hf
            replace hf := lt_e hf
            refine pc_bu_own C hK hP hD hS wf_X0_34 dX0_gather_141 (fun H locs hP hD hS => ?_)
            refine lv_aload_n C.1 C.2.1 dX0_gather_144 rfl (lv_at hl 0 rfl) ?_
            refine lv_aload C.1 C.2.1 dX0_gather_145 (lv_at hl 7 rfl) ?_
            refine lv_iload C.1 C.2.1 dX0_gather_147 (lv_at hl 8 rfl) ?_
            obtain ⟨σ149, hc149, hf⟩ := bd_some hf
            refine callCV (As := [_, _]) C hK hP hD hA hS hZ wv_X0_64 hl (kc_X0_add l D cA ad _ η F _ _ _ hvx8 σ149 hc149) (rcC 36 1 hK hP rfl rfl) rfl rfl rfl (Nat.le_of_ble_eq_true rfl) ⟨Nat.le_refl _, Nat.le_refl _⟩ dX0_gather_149 (fun H locs hP hD hS => ?_)
            exact hB152 _ _ _ ls _ _ _ _ _ _ _ _ hP hD hS hvx8 (lv_sub hl [0, 1, 2, 3, 4, 5, 6, 7, 8] rfl) hf
          have hB137 : ∀ (H : Heap) (locs : List Loc) (σ : CSt) (ls : Array Slot) (x2 : Int32) (x3 : Int32) (x5 : Int32) (x6 : Int32) (x7 : Int32) (ax8 : Nat) (vx8 : RV) (x9 : Int32), HC D cA ad σ η H → va_D A (wC cA ad σ η) → va_S A s.heap H locs → isRt cA η ax8 vx8 → lv_has ls 10 [(0, .ref (ad 36)), (1, .ref (ad 1)), (2, .int x2), (3, .int x3), (5, .int x5), (6, .int x6), (7, .int x7), (8, .ref ax8), (9, .int x9)] → fc_X0_gather_L137 F (fc_X0_gather_L42 F n42) (fc_X0_gather_L71 F (fc_X0_gather_L42 F n42) n71) σ x2 x3 x5 x6 x7 vx8 x9 = some σr → WC p l e 3 65 s m [.ref (ad 36), .ref (ad 1), .int z2, .int z3] below meth c none D cA ad σ0 η σr A H locs (F0 m 137 ls [.ref (ad 36)]) := by
            intro H locs σ ls x2 x3 x5 x6 x7 ax8 vx8 x9 hP hD hS hvx8 hl hf
            unfold fc_X0_gather_L137 at hf
            refine lv_aload_n C.1 C.2.1 dX0_gather_137 rfl (lv_at hl 0 rfl) ?_
            refine gc_bu_own C hK hP wf_X0_34 dX0_gather_138 ?_
            exact hB141 _ _ _ ls _ _ _ _ _ _ _ _ _ hP hD hS hvx8 (lv_sub hl [0, 1, 2, 3, 4, 5, 6, 7, 8] rfl) hf
          intro H locs σ ls x2 x3 x5 x6 x7 ax8 vx8 x9 hP hD hS hvx8 hl hf
          have hf : fc_X0_gather_L71_c F (fc_X0_gather_L42 F n42) (fc_X0_gather_L71 F (fc_X0_gather_L42 F n42) n71) σ x2 x3 x5 x6 x7 vx8 x9 = some σr := hf
          unfold fc_X0_gather_L71_c at hf
          refine lv_iload C.1 C.2.1 dX0_gather_71 (lv_at hl 8 rfl) ?_
          refine lv_aload C.1 C.2.1 dX0_gather_73 (lv_at hl 7 rfl) ?_
          obtain ⟨r75, hc75, hf⟩ := bd_some hf
          refine cV_go (runRVc (As := []) C hK hP hZ hS wv_X0_60 hl (kc_X6_segments l D cA ad _ η F _ _ hvx8 r75 hc75) (rcR hK hP hvx8) rfl rfl rfl (Nat.le_of_ble_eq_true rfl) ⟨Nat.le_refl _, Nat.le_refl _⟩ dX0_gather_75) ?_
          refine lv_iconst (v := (1 : Int32)) C.1 C.2.1 dX0_gather_78 (by decide) ?_
          refine lv_isub C.1 C.2.1 dX0_gather_79 ?_
          refine lv_icmp_ge (tgt := 158) C.1 C.2.1 dX0_gather_80 (by decide) (fun c80 => ?_) (fun c80 => ?_)
          · have hf := br_p c80 hf
            exact hB158 _ _ _ ls _ _ _ _ _ hP hD hS (lv_sub hl [0, 1, 2, 3, 4, 5, 6] rfl) hf
          · have hf := br_n c80 hf
            refine lv_aload_n C.1 C.2.1 dX0_gather_83 rfl (lv_at hl 0 rfl) ?_
            refine gc_bu_size C hK hP wf_X0_30 dX0_gather_84 ?_
            refine lv_sipush (v := (180 : Int32)) C.1 C.2.1 dX0_gather_87 (by decide) ?_
            refine lv_icmp_ge (tgt := 158) C.1 C.2.1 dX0_gather_90 (by decide) (fun c90 => ?_) (fun c90 => ?_)
            · have hf := br_p c90 hf
              exact hB158 _ _ _ ls _ _ _ _ _ hP hD hS (lv_sub hl [0, 1, 2, 3, 4, 5, 6] rfl) hf
            · have hf := br_n c90 hf
              refine lv_aload C.1 C.2.1 dX0_gather_93 (lv_at hl 7 rfl) ?_
              refine lv_iload C.1 C.2.1 dX0_gather_95 (lv_at hl 8 rfl) ?_
              obtain ⟨r97, hc97, hf⟩ := bd_some hf
              refine cV_go (runRVc (As := [_]) C hK hP hZ hS wv_X0_43 hl (kc_X6_isLevel l D cA ad _ η F _ _ _ hvx8 r97 hc97) (rcR hK hP hvx8) rfl rfl rfl (Nat.le_of_ble_eq_true rfl) ⟨Nat.le_refl _, Nat.le_refl _⟩ dX0_gather_97) ?_
              refine lv_iload C.1 C.2.1 dX0_gather_100 (lv_at hl 4 rfl) ?_
              refine lv_icmp_ne (tgt := 152) C.1 C.2.1 dX0_gather_102 (by decide) (fun c102 => ?_) (fun c102 => ?_)
              · have hf := br_n c102 hf
                exact hB152 _ _ _ ls _ _ _ _ _ _ _ _ hP hD hS hvx8 (lv_sub hl [0, 1, 2, 3, 4, 5, 6, 7, 8] rfl) hf
              · have hf := br_p c102 hf
                refine lv_aload C.1 C.2.1 dX0_gather_105 (lv_at hl 7 rfl) ?_
                refine lv_iload C.1 C.2.1 dX0_gather_107 (lv_at hl 8 rfl) ?_
                obtain ⟨r109, hc109, hf⟩ := bd_some hf
                refine cV_go (runRVc (As := [_]) C hK hP hZ hS wv_X0_49 hl (kc_X6_lineOf l D cA ad _ η F _ _ _ hvx8 r109 hc109) (rcR hK hP hvx8) rfl rfl rfl (Nat.le_of_ble_eq_true rfl) ⟨Nat.le_refl _, Nat.le_refl _⟩ dX0_gather_109) ?_
                refine lv_iload C.1 C.2.1 dX0_gather_112 (lv_at hl 5 rfl) ?_
                refine lv_icmp_ne (tgt := 152) C.1 C.2.1 dX0_gather_114 (by decide) (fun c114 => ?_) (fun c114 => ?_)
                · have hf := br_n c114 hf
                  exact hB152 _ _ _ ls _ _ _ _ _ _ _ _ hP hD hS hvx8 (lv_sub hl [0, 1, 2, 3, 4, 5, 6, 7, 8] rfl) hf
                · have hf := br_p c114 hf
                  refine lv_aload_n C.1 C.2.1 dX0_gather_117 rfl (lv_at hl 0 rfl) ?_
                  refine lv_iload C.1 C.2.1 dX0_gather_118 (lv_at hl 6 rfl) ?_
                  refine lv_iload_n C.1 C.2.1 dX0_gather_120 rfl (lv_at hl 2 rfl) ?_
                  refine lv_icmp_ne (tgt := 137) C.1 C.2.1 dX0_gather_121 (by decide) (fun c121 => ?_) (fun c121 => ?_)
                  · have hf := br_n c121 hf
                    exact hB137 _ _ _ ls _ _ _ _ _ _ _ _ hP hD hS hvx8 (lv_sub hl [0, 1, 2, 3, 4, 5, 6, 7, 8] rfl) hf
                  · have hf := br_p c121 hf
                    refine lv_iload C.1 C.2.1 dX0_gather_124 (lv_at hl 8 rfl) ?_
                    refine lv_iload_n C.1 C.2.1 dX0_gather_126 rfl (lv_at hl 3 rfl) ?_
                    refine lv_icmp_ne (tgt := 137) C.1 C.2.1 dX0_gather_127 (by decide) (fun c127 => ?_) (fun c127 => ?_)
                    · have hf := br_n c127 hf
                      exact hB137 _ _ _ ls _ _ _ _ _ _ _ _ hP hD hS hvx8 (lv_sub hl [0, 1, 2, 3, 4, 5, 6, 7, 8] rfl) hf
                    · have hf := br_p c127 hf
                      refine lv_aload_n C.1 C.2.1 dX0_gather_130 rfl (lv_at hl 0 rfl) ?_
                      refine gc_bu_size C hK hP wf_X0_30 dX0_gather_131 ?_
                      refine lv_goto (tgt := 141) C.1 C.2.1 dX0_gather_134 (by decide) ?_
                      exact hB141 _ _ _ ls _ _ _ _ _ _ _ _ _ hP hD hS hvx8 (lv_sub hl [0, 1, 2, 3, 4, 5, 6, 7, 8] rfl) hf
      intro H locs σ ls x2 x3 x5 x6 x7 hP hD hS hl hf
      have hf : fc_X0_gather_L42_c F (fc_X0_gather_L42 F n42) σ x2 x3 x5 x6 x7 = some σr := hf
      unfold fc_X0_gather_L42_c at hf
      refine lv_iload C.1 C.2.1 dX0_gather_42 (lv_at hl 6 rfl) ?_
      refine lv_aload_n C.1 C.2.1 dX0_gather_44 rfl (lv_at hl 1 rfl) ?_
      refine gc_cv_connectors C hK hP wf_X0_53 dX0_gather_45 ?_
      refine lv_icmp_ge (tgt := 164) C.1 C.2.1 dX0_gather_48 (by decide) (fun c48 => ?_) (fun c48 => ?_)
      · have hf := br_p c48 hf
        obtain rfl := Option.some.inj hf
        exact KC.vret C hr hlk hK hAe hP hD hS rfl dX0_gather_164
      · have hf := br_n c48 hf
        refine lv_aload_n C.1 C.2.1 dX0_gather_51 rfl (lv_at hl 1 rfl) ?_
        refine gc_cv_routes C hK hP wf_X0_56 dX0_gather_52 ?_
        refine lv_iload C.1 C.2.1 dX0_gather_55 (lv_at hl 6 rfl) ?_
        obtain ⟨hi57, hf⟩ := gd_some hf
        refine lr_cr C hK hP hi57 dX0_gather_57 (fun hn57 => ?_) (fun a57 v57 he57 hv57 => ?_)
        · have hf := mo_n hn57 hf
          refine lv_astoreN (lv' := [(8, .null), (0, .ref (ad 36)), (1, .ref (ad 1)), (2, .int x2), (3, .int x3), (5, .int x5), (6, .int x6), (7, .int x7)]) C.1 C.2.1 dX0_gather_58 hl (by decide) rfl (fun ls hl => ?_)
          refine lv_aloadN C.1 C.2.1 dX0_gather_60 (lv_at hl 0 rfl) ?_
          refine lv_ifnonnullN C.1 C.2.1 dX0_gather_62 ?_
          refine lv_goto (tgt := 158) C.1 C.2.1 dX0_gather_65 (by decide) ?_
          exact hB158 _ _ _ ls _ _ _ _ _ hP hD hS (lv_sub hl [1, 2, 3, 4, 5, 6, 7] rfl) hf
        · have hf := mo_s he57 hf
          refine lv_astore (lv' := [(8, .ref a57), (0, .ref (ad 36)), (1, .ref (ad 1)), (2, .int x2), (3, .int x3), (5, .int x5), (6, .int x6), (7, .int x7)]) C.1 C.2.1 dX0_gather_58 hl (by decide) rfl (fun ls hl => ?_)
          refine lv_aload C.1 C.2.1 dX0_gather_60 (lv_at hl 0 rfl) ?_
          refine lv_ifnonnull (tgt := 68) C.1 C.2.1 dX0_gather_62 (by decide) ?_
          refine lv_iconst (v := (1 : Int32)) C.1 C.2.1 dX0_gather_68 (by decide) ?_
          refine lv_istore (lv' := [(9, .int (1 : Int32)), (8, .ref a57), (0, .ref (ad 36)), (1, .ref (ad 1)), (2, .int x2), (3, .int x3), (5, .int x5), (6, .int x6), (7, .int x7)]) C.1 C.2.1 dX0_gather_69 hl (by decide) rfl (fun ls hl => ?_)
          exact hB71 F _ _ _ ls _ _ _ _ _ _ _ _ hP hD hS hv57 (lv_sub hl [2, 3, 4, 5, 6, 7, 8, 1, 0] rfl) hf
  unfold fc_X0_gather at hf
  refine lv_aload_n C.1 C.2.1 dX0_gather_0 rfl (lv_at hl 0 rfl) ?_
  refine lv_iconst (v := (0 : Int32)) C.1 C.2.1 dX0_gather_1 (by decide) ?_
  replace hf := lt_e hf
  refine pc_bu_size C hK hP hD hS wf_X0_30 dX0_gather_2 (fun H locs hP hD hS => ?_)
  refine lv_aload_n C.1 C.2.1 dX0_gather_5 rfl (lv_at hl 0 rfl) ?_
  refine lv_iconst (v := (0 : Int32)) C.1 C.2.1 dX0_gather_6 (by decide) ?_
  replace hf := lt_e hf
  refine pc_bu_own C hK hP hD hS wf_X0_34 dX0_gather_7 (fun H locs hP hD hS => ?_)
  refine lv_aload_n C.1 C.2.1 dX0_gather_10 rfl (lv_at hl 1 rfl) ?_
  refine lv_iload_n C.1 C.2.1 dX0_gather_11 rfl (lv_at hl 2 rfl) ?_
  obtain ⟨r12, hc12, hf⟩ := bd_some hf
  refine cO_go (runRVc (As := [_]) C hK hP hZ hS wv_X0_37 hl (kc_X1_routeOf l D cA ad _ η F _  r12 hc12) (rcC 1 2 hK hP rfl rfl) rfl rfl rfl (Nat.le_of_ble_eq_true rfl) ⟨Nat.le_refl _, Nat.le_refl _⟩ dX0_gather_12) (fun hn12 => ?_) (fun a12 v12 he12 hv12 => ?_)
  · have hf := mo_n hn12 hf
    refine lv_astoreN (lv' := [(4, .null), (0, .ref (ad 36)), (1, .ref (ad 1)), (2, .int z2), (3, .int z3)]) C.1 C.2.1 dX0_gather_15 hl (by decide) rfl (fun ls hl => ?_)
    refine lv_aloadN C.1 C.2.1 dX0_gather_17 (lv_at hl 0 rfl) ?_
    refine lv_ifnonnullN C.1 C.2.1 dX0_gather_19 ?_
    obtain rfl := Option.some.inj hf
    exact KC.vret C hr hlk hK hAe hP hD hS rfl dX0_gather_22
  · have hf := mo_s he12 hf
    refine lv_astore (lv' := [(4, .ref a12), (0, .ref (ad 36)), (1, .ref (ad 1)), (2, .int z2), (3, .int z3)]) C.1 C.2.1 dX0_gather_15 hl (by decide) rfl (fun ls hl => ?_)
    refine lv_aload C.1 C.2.1 dX0_gather_17 (lv_at hl 0 rfl) ?_
    refine lv_ifnonnull (tgt := 23) C.1 C.2.1 dX0_gather_19 (by decide) ?_
    refine lv_aload C.1 C.2.1 dX0_gather_23 (lv_at hl 0 rfl) ?_
    refine lv_iload_n C.1 C.2.1 dX0_gather_25 rfl (lv_at hl 4 rfl) ?_
    obtain ⟨r26, hc26, hf⟩ := bd_some hf
    refine cV_go (runRVc (As := [_]) C hK hP hZ hS wv_X0_43 hl (kc_X6_isLevel l D cA ad _ η F _ _ _ hv12 r26 hc26) (rcR hK hP hv12) rfl rfl rfl (Nat.le_of_ble_eq_true rfl) ⟨Nat.le_refl _, Nat.le_refl _⟩ dX0_gather_26) ?_
    refine lv_istore (lv' := [(5, .int r26), (4, .ref a12), (0, .ref (ad 36)), (1, .ref (ad 1)), (2, .int z2), (3, .int z3)]) C.1 C.2.1 dX0_gather_29 hl (by decide) rfl (fun ls hl => ?_)
    refine lv_aload C.1 C.2.1 dX0_gather_31 (lv_at hl 1 rfl) ?_
    refine lv_iload_n C.1 C.2.1 dX0_gather_33 rfl (lv_at hl 5 rfl) ?_
    obtain ⟨r34, hc34, hf⟩ := bd_some hf
    refine cV_go (runRVc (As := [_]) C hK hP hZ hS wv_X0_49 hl (kc_X6_lineOf l D cA ad _ η F _ _ _ hv12 r34 hc34) (rcR hK hP hv12) rfl rfl rfl (Nat.le_of_ble_eq_true rfl) ⟨Nat.le_refl _, Nat.le_refl _⟩ dX0_gather_34) ?_
    refine lv_istore (lv' := [(6, .int r34), (5, .int r26), (4, .ref a12), (0, .ref (ad 36)), (1, .ref (ad 1)), (2, .int z2), (3, .int z3)]) C.1 C.2.1 dX0_gather_37 hl (by decide) rfl (fun ls hl => ?_)
    refine lv_iconst (v := (0 : Int32)) C.1 C.2.1 dX0_gather_39 (by decide) ?_
    refine lv_istore (lv' := [(7, .int (0 : Int32)), (6, .int r34), (5, .int r26), (4, .ref a12), (0, .ref (ad 36)), (1, .ref (ad 1)), (2, .int z2), (3, .int z3)]) C.1 C.2.1 dX0_gather_40 hl (by decide) rfl (fun ls hl => ?_)
    exact hB42 F _ _ _ ls _ _ _ _ _ hP hD hS (lv_sub hl [4, 5, 6, 7, 2, 1, 0] rfl) hf
def fc_X0_nextWithoutLane_L49 (F : Nat) (σ : CSt) (k4 : Int32 → Int32 → Option (Int32)) (x1 : Int32) (x2 : Int32) : Option (Int32) :=
  lt (x2 + (1 : Int32)) (fun x2_49 => k4 x1 x2_49)
def fc_X0_nextWithoutLane_L47 (F : Nat) (σ : CSt) (k4 : Int32 → Int32 → Option (Int32)) (x2 : Int32) : Option (Int32) :=
  fc_X0_nextWithoutLane_L49 F σ k4 x2 x2
def fc_X0_nextWithoutLane_L4_c (F : Nat) (σ : CSt) (k4 : Int32 → Int32 → Option (Int32)) (x1 : Int32) (x2 : Int32) : Option (Int32) :=
  if (cs_bs σ) ≤ x2 then (some x1) else (gd (ix x2 180 = true) (if (cs_bla σ x2.toNatClampNeg) = (-1 : Int32) then (gd (ix x1 180 = true) (if (cs_bla σ x1.toNatClampNeg) = (-1 : Int32) then (gd (ix x2 180 = true) (gd (ix x1 180 = true) (if (cs_bpu σ x1.toNatClampNeg) ≤ (cs_bpu σ x2.toNatClampNeg) then (fc_X0_nextWithoutLane_L49 F σ k4 x1 x2) else (fc_X0_nextWithoutLane_L47 F σ k4 x2)))) else (fc_X0_nextWithoutLane_L47 F σ k4 x2))) else (fc_X0_nextWithoutLane_L49 F σ k4 x1 x2)))
def fc_X0_nextWithoutLane_L4 (F : Nat) (σ : CSt) (n : Nat) (x1 : Int32) (x2 : Int32) : Option (Int32) := lpN (fun (k : Int32 × Int32 → Option (Int32)) a => fc_X0_nextWithoutLane_L4_c F σ (fun x1 x2 => k (x1, x2)) a.1 a.2) n (x1, x2)
def fc_X0_nextWithoutLane (F : Nat) (σ : CSt) : Option (Int32) :=
  fc_X0_nextWithoutLane_L4 F σ F (0 : Int32) (1 : Int32)
set_option maxHeartbeats 4000000 in
set_option maxRecDepth 100000 in
theorem kc_X0_nextWithoutLane (l : Launch) (D : va_G) (cA : Nat → ClassId) (ad : Nat → Nat) (σ : CSt) (η : HS) (F : Nat)  (r : Int32) (hf : fc_X0_nextWithoutLane F σ = some r) : KRc l D cA ad σ η yX0_nextWithoutLane cX0_nextWithoutLane 3 (some .int) (rmk 0 0) [.ref (ad 36)] (QcV (.int r)) := by
  refine KRc.of (by decide) (Nat.le_of_ble_eq_true rfl) ?_
  intro p e s m below meth c C hr hlk hK hP hZ ls hl
  have hS : va_S NoA s.heap s.heap [] := va_S.rf
  have hl : lv_has ls 3 [(0, .ref (ad 36))] := hl
  have hB4 : ∀ (n4 : Nat) (ls : Array Slot) (x1 : Int32) (x2 : Int32), lv_has ls 3 [(0, .ref (ad 36)), (1, .int x1), (2, .int x2)] → fc_X0_nextWithoutLane_L4 F σ n4 x1 x2 = some r → WRc p l e 0 0 s m [.ref (ad 36)] below meth c (QcV (.int r)) (F0 m 4 ls []) := by
    intro n4
    induction n4 with
    | zero =>
      intro ls x1 x2 hl hf
      cases (show (none : Option _) = _ from hf)
    | succ n4 ih4 =>
      have hB49 : ∀ (ls : Array Slot) (x1 : Int32) (x2 : Int32), lv_has ls 3 [(0, .ref (ad 36)), (1, .int x1), (2, .int x2)] → fc_X0_nextWithoutLane_L49 F σ (fc_X0_nextWithoutLane_L4 F σ n4) x1 x2 = some r → WRc p l e 0 0 s m [.ref (ad 36)] below meth c (QcV (.int r)) (F0 m 49 ls []) := by
        intro ls x1 x2 hl hf
        unfold fc_X0_nextWithoutLane_L49 at hf
        obtain ⟨x2_49, ex2_49, hf⟩ := lt_some hf
        refine lv_iinc (v := x2_49) (lv' := [(2, .int x2_49), (0, .ref (ad 36)), (1, .int x1)]) C.1 C.2.1 dX0_nextWithoutLane_49 hl (k := 2) rfl (by rw [ex2_49]; rfl) (by decide) rfl (fun ls hl => ?_)
        refine lv_goto (tgt := 4) C.1 C.2.1 dX0_nextWithoutLane_52 (by decide) ?_
        exact ih4 ls _ _ (lv_sub hl [1, 2, 0] rfl) hf
      have hB47 : ∀ (ls : Array Slot) (x2 : Int32), lv_has ls 3 [(0, .ref (ad 36)), (2, .int x2)] → fc_X0_nextWithoutLane_L47 F σ (fc_X0_nextWithoutLane_L4 F σ n4) x2 = some r → WRc p l e 0 0 s m [.ref (ad 36)] below meth c (QcV (.int r)) (F0 m 47 ls []) := by
        intro ls x2 hl hf
        unfold fc_X0_nextWithoutLane_L47 at hf
        refine lv_iload_n C.1 C.2.1 dX0_nextWithoutLane_47 rfl (lv_at hl 1 rfl) ?_
        refine lv_istore_n (lv' := [(1, .int x2), (0, .ref (ad 36)), (2, .int x2)]) C.1 C.2.1 dX0_nextWithoutLane_48 rfl hl (by decide) rfl (fun ls hl => ?_)
        exact hB49 ls _ _ (lv_sub hl [1, 0, 2] rfl) hf
      intro ls x1 x2 hl hf
      have hf : fc_X0_nextWithoutLane_L4_c F σ (fc_X0_nextWithoutLane_L4 F σ n4) x1 x2 = some r := hf
      unfold fc_X0_nextWithoutLane_L4_c at hf
      refine lv_iload_n C.1 C.2.1 dX0_nextWithoutLane_4 rfl (lv_at hl 2 rfl) ?_
      refine lv_aload_n C.1 C.2.1 dX0_nextWithoutLane_5 rfl (lv_at hl 0 rfl) ?_
      refine gc_bu_size C hK hP wf_X0_30 dX0_nextWithoutLane_6 ?_
      refine lv_icmp_ge (tgt := 55) C.1 C.2.1 dX0_nextWithoutLane_9 (by decide) (fun c9 => ?_) (fun c9 => ?_)
      · have hf := br_p c9 hf
        refine lv_iload_n C.1 C.2.1 dX0_nextWithoutLane_55 rfl (lv_at hl 1 rfl) ?_
        exact KRc.iret C hr hlk (Option.some.inj hf) dX0_nextWithoutLane_56
      · have hf := br_n c9 hf
        refine lv_aload_n C.1 C.2.1 dX0_nextWithoutLane_12 rfl (lv_at hl 0 rfl) ?_
        refine gc_bu_lanes C hK hP wf_X0_23 dX0_nextWithoutLane_13 ?_
        refine lv_iload_n C.1 C.2.1 dX0_nextWithoutLane_16 rfl (lv_at hl 2 rfl) ?_
        obtain ⟨hi17, hf⟩ := gd_some hf
        refine lc_bla C hK hP hi17 dX0_nextWithoutLane_17 ?_
        refine lv_iconst (v := (-1 : Int32)) C.1 C.2.1 dX0_nextWithoutLane_18 (by decide) ?_
        refine lv_icmp_ne (tgt := 49) C.1 C.2.1 dX0_nextWithoutLane_19 (by decide) (fun c19 => ?_) (fun c19 => ?_)
        · have hf := br_n c19 hf
          exact hB49 ls _ _ (lv_sub hl [0, 1, 2] rfl) hf
        · have hf := br_p c19 hf
          refine lv_aload_n C.1 C.2.1 dX0_nextWithoutLane_22 rfl (lv_at hl 0 rfl) ?_
          refine gc_bu_lanes C hK hP wf_X0_23 dX0_nextWithoutLane_23 ?_
          refine lv_iload_n C.1 C.2.1 dX0_nextWithoutLane_26 rfl (lv_at hl 1 rfl) ?_
          obtain ⟨hi27, hf⟩ := gd_some hf
          refine lc_bla C hK hP hi27 dX0_nextWithoutLane_27 ?_
          refine lv_iconst (v := (-1 : Int32)) C.1 C.2.1 dX0_nextWithoutLane_28 (by decide) ?_
          refine lv_icmp_ne (tgt := 47) C.1 C.2.1 dX0_nextWithoutLane_29 (by decide) (fun c29 => ?_) (fun c29 => ?_)
          · have hf := br_n c29 hf
            exact hB47 ls _ (lv_sub hl [0, 2] rfl) hf
          · have hf := br_p c29 hf
            refine lv_aload_n C.1 C.2.1 dX0_nextWithoutLane_32 rfl (lv_at hl 0 rfl) ?_
            refine gc_bu_pulls C hK hP wf_X0_20 dX0_nextWithoutLane_33 ?_
            refine lv_iload_n C.1 C.2.1 dX0_nextWithoutLane_36 rfl (lv_at hl 2 rfl) ?_
            obtain ⟨hi37, hf⟩ := gd_some hf
            refine lc_bpu C hK hP hi37 dX0_nextWithoutLane_37 ?_
            refine lv_aload_n C.1 C.2.1 dX0_nextWithoutLane_38 rfl (lv_at hl 0 rfl) ?_
            refine gc_bu_pulls C hK hP wf_X0_20 dX0_nextWithoutLane_39 ?_
            refine lv_iload_n C.1 C.2.1 dX0_nextWithoutLane_42 rfl (lv_at hl 1 rfl) ?_
            obtain ⟨hi43, hf⟩ := gd_some hf
            refine lc_bpu C hK hP hi43 dX0_nextWithoutLane_43 ?_
            refine lv_icmp_ge (tgt := 49) C.1 C.2.1 dX0_nextWithoutLane_44 (by decide) (fun c44 => ?_) (fun c44 => ?_)
            · have hf := br_p c44 hf
              exact hB49 ls _ _ (lv_sub hl [0, 1, 2] rfl) hf
            · have hf := br_n c44 hf
              exact hB47 ls _ (lv_sub hl [0, 2] rfl) hf
  unfold fc_X0_nextWithoutLane at hf
  refine lv_iconst (v := (0 : Int32)) C.1 C.2.1 dX0_nextWithoutLane_0 (by decide) ?_
  refine lv_istore_n (lv' := [(1, .int (0 : Int32)), (0, .ref (ad 36))]) C.1 C.2.1 dX0_nextWithoutLane_1 rfl hl (by decide) rfl (fun ls hl => ?_)
  refine lv_iconst (v := (1 : Int32)) C.1 C.2.1 dX0_nextWithoutLane_2 (by decide) ?_
  refine lv_istore_n (lv' := [(2, .int (1 : Int32)), (1, .int (0 : Int32)), (0, .ref (ad 36))]) C.1 C.2.1 dX0_nextWithoutLane_3 rfl hl (by decide) rfl (fun ls hl => ?_)
  exact hB4 F ls _ _ (lv_sub hl [2, 1, 0] rfl) hf
def fc_X0_collide_L38 (F : Nat) (σ : CSt) (s0 : Int32) : Option (Int32) :=
  gd (s0 = 0 ∨ s0 = 1) (some s0)
def fc_X0_collide (F : Nat) (σ : CSt) (x1 : Int32) (x2 : Int32) : Option (Int32) :=
  gd (ix x1 180 = true) (gd (ix x2 180 = true) (gd (ix x1 180 = true) (gd (ix x2 180 = true) (if (if (cs_ben σ x2.toNatClampNeg) < (cs_ben σ x1.toNatClampNeg) then (cs_ben σ x2.toNatClampNeg) else (cs_ben σ x1.toNatClampNeg)) ≤ (if (cs_bst σ x1.toNatClampNeg) < (cs_bst σ x2.toNatClampNeg) then (cs_bst σ x2.toNatClampNeg) else (cs_bst σ x1.toNatClampNeg)) then (fc_X0_collide_L38 F σ (0 : Int32)) else (fc_X0_collide_L38 F σ (1 : Int32))))))
set_option maxHeartbeats 4000000 in
set_option maxRecDepth 100000 in
theorem kc_X0_collide (l : Launch) (D : va_G) (cA : Nat → ClassId) (ad : Nat → Nat) (σ : CSt) (η : HS) (F : Nat) (z1 : Int32) (z2 : Int32) (r : Int32) (hf : fc_X0_collide F σ z1 z2 = some r) : KRc l D cA ad σ η yX0_collide cX0_collide 3 (some .boolean) (rmk 1 21) [.ref (ad 36), .int z1, .int z2] (QcV (.int r)) := by
  refine KRc.of (by decide) (Nat.le_of_ble_eq_true rfl) ?_
  intro p e s m below meth c C hr hlk hK hP hZ ls hl
  have hS : va_S NoA s.heap s.heap [] := va_S.rf
  have hl : lv_has ls 3 [(0, .ref (ad 36)), (1, .int z1), (2, .int z2)] := hl
  have hB38 : ∀ (ls : Array Slot) (s0 : Int32), lv_has ls 3 [] → fc_X0_collide_L38 F σ s0 = some r → WRc p l e 1 21 s m [.ref (ad 36), .int z1, .int z2] below meth c (QcV (.int r)) (F0 m 38 ls [.int s0]) := by
    intro ls s0 hl hf
    unfold fc_X0_collide_L38 at hf
    obtain ⟨hz38, hf⟩ := gd_some hf
    exact KRc.zret C hr hlk hz38 (Option.some.inj hf) dX0_collide_38
  unfold fc_X0_collide at hf
  refine lv_aload_n C.1 C.2.1 dX0_collide_0 rfl (lv_at hl 0 rfl) ?_
  refine gc_bu_ends C hK hP wf_X0_17 dX0_collide_1 ?_
  refine lv_iload_n C.1 C.2.1 dX0_collide_4 rfl (lv_at hl 1 rfl) ?_
  obtain ⟨hi5, hf⟩ := gd_some hf
  refine lc_ben C hK hP hi5 dX0_collide_5 ?_
  refine lv_aload_n C.1 C.2.1 dX0_collide_6 rfl (lv_at hl 0 rfl) ?_
  refine gc_bu_ends C hK hP wf_X0_17 dX0_collide_7 ?_
  refine lv_iload_n C.1 C.2.1 dX0_collide_10 rfl (lv_at hl 2 rfl) ?_
  obtain ⟨hi11, hf⟩ := gd_some hf
  refine lc_ben C hK hP hi11 dX0_collide_11 ?_
  refine va_mmin C.1 C.2.1 (by rw [C.2.2.1]; exact hl.1.symm) C.2.2.2.1 (C.2.2.2.2 _ wm_X0_77.1) (C.2.2.2.2 _ wm_X0_77.2.1) (C.2.2.2.2 _ wm_X0_77.2.2.1) (C.2.2.2.2 _ wm_X0_77.2.2.2) (Nat.le_of_ble_eq_true rfl) (Nat.le_of_ble_eq_true rfl) (Nat.le_refl _) (Nat.le_refl _) dX0_collide_12 ?_
  refine lv_aload_n C.1 C.2.1 dX0_collide_15 rfl (lv_at hl 0 rfl) ?_
  refine gc_bu_starts C hK hP wf_X0_13 dX0_collide_16 ?_
  refine lv_iload_n C.1 C.2.1 dX0_collide_19 rfl (lv_at hl 1 rfl) ?_
  obtain ⟨hi20, hf⟩ := gd_some hf
  refine lc_bst C hK hP hi20 dX0_collide_20 ?_
  refine lv_aload_n C.1 C.2.1 dX0_collide_21 rfl (lv_at hl 0 rfl) ?_
  refine gc_bu_starts C hK hP wf_X0_13 dX0_collide_22 ?_
  refine lv_iload_n C.1 C.2.1 dX0_collide_25 rfl (lv_at hl 2 rfl) ?_
  obtain ⟨hi26, hf⟩ := gd_some hf
  refine lc_bst C hK hP hi26 dX0_collide_26 ?_
  refine va_mmax C.1 C.2.1 (by rw [C.2.2.1]; exact hl.1.symm) C.2.2.2.1 (C.2.2.2.2 _ wm_X0_83.1) (C.2.2.2.2 _ wm_X0_83.2.1) (C.2.2.2.2 _ wm_X0_83.2.2.1) (C.2.2.2.2 _ wm_X0_83.2.2.2) (Nat.le_of_ble_eq_true rfl) (Nat.le_of_ble_eq_true rfl) (Nat.le_refl _) (Nat.le_refl _) dX0_collide_27 ?_
  refine lv_icmp_le (tgt := 37) C.1 C.2.1 dX0_collide_30 (by decide) (fun c30 => ?_) (fun c30 => ?_)
  · have hf := br_p c30 hf
    refine lv_iconst (v := (0 : Int32)) C.1 C.2.1 dX0_collide_37 (by decide) ?_
    exact hB38 ls _ (lv_sub hl [] rfl) hf
  · have hf := br_n c30 hf
    refine lv_iconst (v := (1 : Int32)) C.1 C.2.1 dX0_collide_33 (by decide) ?_
    refine lv_goto (tgt := 38) C.1 C.2.1 dX0_collide_34 (by decide) ?_
    exact hB38 ls _ (lv_sub hl [] rfl) hf
def fc_X0_assignLanes_L60 (F : Nat) (k2 : CSt → Int32 → Option (CSt)) (k20 : CSt → Int32 → Int32 → Int32 → Int32 → Option (CSt)) (σ : CSt) (x1 : Int32) (x2 : Int32) (x3 : Int32) (x4 : Int32) : Option (CSt) :=
  lt (x4 + (1 : Int32)) (fun x4_60 => k20 σ x1 x2 x3 x4_60)
def fc_X0_assignLanes_L20_c (F : Nat) (k2 : CSt → Int32 → Option (CSt)) (k20 : CSt → Int32 → Int32 → Int32 → Int32 → Option (CSt)) (σ : CSt) (x1 : Int32) (x2 : Int32) (x3 : Int32) (x4 : Int32) : Option (CSt) :=
  if (cs_bs σ) ≤ x4 then (gd (ix x2 180 = true) (lt (sc_bla σ x2 x3) (fun σ72 => lt (x1 + (1 : Int32)) (fun x1_73 => k2 σ72 x1_73)))) else (gd (ix x4 180 = true) (if (cs_bla σ x4.toNatClampNeg) < x3 then (fc_X0_assignLanes_L60 F k2 k20 σ x1 x2 x3 x4) else (bd (fc_X0_collide F σ x2 x4) (fun r44 => if r44 = 0 then (fc_X0_assignLanes_L60 F k2 k20 σ x1 x2 x3 x4) else (gd (ix x4 180 = true) (lt ((cs_bla σ x4.toNatClampNeg) + (1 : Int32)) (fun x3_59 => fc_X0_assignLanes_L60 F k2 k20 σ x1 x2 x3_59 x4)))))))
def fc_X0_assignLanes_L20 (F : Nat) (k2 : CSt → Int32 → Option (CSt)) (n : Nat) (σ : CSt) (x1 : Int32) (x2 : Int32) (x3 : Int32) (x4 : Int32) : Option (CSt) := lpN (fun (k : CSt × Int32 × Int32 × Int32 × Int32 → Option (CSt)) a => fc_X0_assignLanes_L20_c F k2 (fun σ x1 x2 x3 x4 => k (σ, x1, x2, x3, x4)) a.1 a.2.1 a.2.2.1 a.2.2.2.1 a.2.2.2.2) n (σ, x1, x2, x3, x4)
def fc_X0_assignLanes_L2_c (F : Nat) (k2 : CSt → Int32 → Option (CSt)) (σ : CSt) (x1 : Int32) : Option (CSt) :=
  if (cs_bs σ) ≤ x1 then (some σ) else (bd (fc_X0_nextWithoutLane F σ) (fun r11 => fc_X0_assignLanes_L20 F k2 F σ x1 r11 (0 : Int32) (0 : Int32)))
def fc_X0_assignLanes_L2 (F : Nat) (n : Nat) (σ : CSt) (x1 : Int32) : Option (CSt) := lpN (fun (k : CSt × Int32 → Option (CSt)) a => fc_X0_assignLanes_L2_c F (fun σ x1 => k (σ, x1)) a.1 a.2) n (σ, x1)
def fc_X0_assignLanes (F : Nat) (σ : CSt) : Option (CSt) :=
  fc_X0_assignLanes_L2 F F σ (0 : Int32)
set_option maxHeartbeats 4000000 in
set_option maxRecDepth 100000 in
theorem kc_X0_assignLanes (l : Launch) (D : va_G) (cA : Nat → ClassId) (ad : Nat → Nat) (σ0 : CSt) (η : HS) (F : Nat)  (σr : CSt) (hf : fc_X0_assignLanes F σ0 = some σr) : KC l D cA ad σ0 η yX0_assignLanes cX0_assignLanes 5 none (rmk 2 43) [.ref (ad 36)] none σr := by
  refine KC.of (by decide) (Nat.le_of_ble_eq_true rfl) ?_
  intro p e s m below meth c A hAe hA C hr hlk hK hP hD hS hZ ls hl
  have hl : lv_has ls 5 [(0, .ref (ad 36))] := hl
  have hB2 : ∀ (n2 : Nat) (H : Heap) (locs : List Loc) (σ : CSt) (ls : Array Slot) (x1 : Int32), HC D cA ad σ η H → va_D A (wC cA ad σ η) → va_S A s.heap H locs → lv_has ls 5 [(0, .ref (ad 36)), (1, .int x1)] → fc_X0_assignLanes_L2 F n2 σ x1 = some σr → WC p l e 2 43 s m [.ref (ad 36)] below meth c none D cA ad σ0 η σr A H locs (F0 m 2 ls []) := by
    intro n2
    induction n2 with
    | zero =>
      intro H locs σ ls x1 hP hD hS hl hf
      cases (show (none : Option _) = _ from hf)
    | succ n2 ih2 =>
      have hB20 : ∀ (n20 : Nat) (H : Heap) (locs : List Loc) (σ : CSt) (ls : Array Slot) (x1 : Int32) (x2 : Int32) (x3 : Int32) (x4 : Int32), HC D cA ad σ η H → va_D A (wC cA ad σ η) → va_S A s.heap H locs → lv_has ls 5 [(0, .ref (ad 36)), (1, .int x1), (2, .int x2), (3, .int x3), (4, .int x4)] → fc_X0_assignLanes_L20 F (fc_X0_assignLanes_L2 F n2) n20 σ x1 x2 x3 x4 = some σr → WC p l e 2 43 s m [.ref (ad 36)] below meth c none D cA ad σ0 η σr A H locs (F0 m 20 ls []) := by
        intro n20
        induction n20 with
        | zero =>
          intro H locs σ ls x1 x2 x3 x4 hP hD hS hl hf
          cases (show (none : Option _) = _ from hf)
        | succ n20 ih20 =>
          have hB60 : ∀ (H : Heap) (locs : List Loc) (σ : CSt) (ls : Array Slot) (x1 : Int32) (x2 : Int32) (x3 : Int32) (x4 : Int32), HC D cA ad σ η H → va_D A (wC cA ad σ η) → va_S A s.heap H locs → lv_has ls 5 [(0, .ref (ad 36)), (1, .int x1), (2, .int x2), (3, .int x3), (4, .int x4)] → fc_X0_assignLanes_L60 F (fc_X0_assignLanes_L2 F n2) (fc_X0_assignLanes_L20 F (fc_X0_assignLanes_L2 F n2) n20) σ x1 x2 x3 x4 = some σr → WC p l e 2 43 s m [.ref (ad 36)] below meth c none D cA ad σ0 η σr A H locs (F0 m 60 ls []) := by
            intro H locs σ ls x1 x2 x3 x4 hP hD hS hl hf
            unfold fc_X0_assignLanes_L60 at hf
            obtain ⟨x4_60, ex4_60, hf⟩ := lt_some hf
            refine lv_iinc (v := x4_60) (lv' := [(4, .int x4_60), (0, .ref (ad 36)), (1, .int x1), (2, .int x2), (3, .int x3)]) C.1 C.2.1 dX0_assignLanes_60 hl (k := 4) rfl (by rw [ex4_60]; rfl) (by decide) rfl (fun ls hl => ?_)
            refine lv_goto (tgt := 20) C.1 C.2.1 dX0_assignLanes_63 (by decide) ?_
            exact ih20 _ _ _ ls _ _ _ _ hP hD hS (lv_sub hl [1, 2, 3, 4, 0] rfl) hf
          intro H locs σ ls x1 x2 x3 x4 hP hD hS hl hf
          have hf : fc_X0_assignLanes_L20_c F (fc_X0_assignLanes_L2 F n2) (fc_X0_assignLanes_L20 F (fc_X0_assignLanes_L2 F n2) n20) σ x1 x2 x3 x4 = some σr := hf
          unfold fc_X0_assignLanes_L20_c at hf
          refine lv_iload C.1 C.2.1 dX0_assignLanes_20 (lv_at hl 4 rfl) ?_
          refine lv_aload_n C.1 C.2.1 dX0_assignLanes_22 rfl (lv_at hl 0 rfl) ?_
          refine gc_bu_size C hK hP wf_X0_30 dX0_assignLanes_23 ?_
          refine lv_icmp_ge (tgt := 66) C.1 C.2.1 dX0_assignLanes_26 (by decide) (fun c26 => ?_) (fun c26 => ?_)
          · have hf := br_p c26 hf
            refine lv_aload_n C.1 C.2.1 dX0_assignLanes_66 rfl (lv_at hl 0 rfl) ?_
            refine gc_bu_lanes C hK hP wf_X0_23 dX0_assignLanes_67 ?_
            refine lv_iload_n C.1 C.2.1 dX0_assignLanes_70 rfl (lv_at hl 2 rfl) ?_
            refine lv_iload_n C.1 C.2.1 dX0_assignLanes_71 rfl (lv_at hl 3 rfl) ?_
            obtain ⟨hi72, hf⟩ := gd_some hf
            replace hf := lt_e hf
            refine uc_bla C hK hP hD hS hi72 dX0_assignLanes_72 (fun H locs hP hD hS => ?_)
            obtain ⟨x1_73, ex1_73, hf⟩ := lt_some hf
            refine lv_iinc (v := x1_73) (lv' := [(1, .int x1_73), (0, .ref (ad 36)), (2, .int x2), (3, .int x3), (4, .int x4)]) C.1 C.2.1 dX0_assignLanes_73 hl (k := 1) rfl (by rw [ex1_73]; rfl) (by decide) rfl (fun ls hl => ?_)
            refine lv_goto (tgt := 2) C.1 C.2.1 dX0_assignLanes_76 (by decide) ?_
            exact ih2 _ _ _ ls _ hP hD hS (lv_sub hl [1, 0] rfl) hf
          · have hf := br_n c26 hf
            refine lv_aload_n C.1 C.2.1 dX0_assignLanes_29 rfl (lv_at hl 0 rfl) ?_
            refine gc_bu_lanes C hK hP wf_X0_23 dX0_assignLanes_30 ?_
            refine lv_iload C.1 C.2.1 dX0_assignLanes_33 (lv_at hl 4 rfl) ?_
            obtain ⟨hi35, hf⟩ := gd_some hf
            refine lc_bla C hK hP hi35 dX0_assignLanes_35 ?_
            refine lv_iload_n C.1 C.2.1 dX0_assignLanes_36 rfl (lv_at hl 3 rfl) ?_
            refine lv_icmp_lt (tgt := 60) C.1 C.2.1 dX0_assignLanes_37 (by decide) (fun c37 => ?_) (fun c37 => ?_)
            · have hf := br_p c37 hf
              exact hB60 _ _ _ ls _ _ _ _ hP hD hS (lv_sub hl [0, 1, 2, 3, 4] rfl) hf
            · have hf := br_n c37 hf
              refine lv_aload_n C.1 C.2.1 dX0_assignLanes_40 rfl (lv_at hl 0 rfl) ?_
              refine lv_iload_n C.1 C.2.1 dX0_assignLanes_41 rfl (lv_at hl 2 rfl) ?_
              refine lv_iload C.1 C.2.1 dX0_assignLanes_42 (lv_at hl 4 rfl) ?_
              obtain ⟨r44, hc44, hf⟩ := bd_some hf
              refine cV_go (runRVc (As := [_, _]) C hK hP hZ hS wv_X0_89 hl (kc_X0_collide l D cA ad _ η F _ _  r44 hc44) (rcC 36 1 hK hP rfl rfl) rfl rfl rfl (Nat.le_of_ble_eq_true rfl) ⟨Nat.le_refl _, Nat.le_refl _⟩ dX0_assignLanes_44) ?_
              refine lv_if_eq (tgt := 60) C.1 C.2.1 dX0_assignLanes_47 (by decide) (fun c47 => ?_) (fun c47 => ?_)
              · have hf := br_p c47 hf
                exact hB60 _ _ _ ls _ _ _ _ hP hD hS (lv_sub hl [0, 1, 2, 3, 4] rfl) hf
              · have hf := br_n c47 hf
                refine lv_aload_n C.1 C.2.1 dX0_assignLanes_50 rfl (lv_at hl 0 rfl) ?_
                refine gc_bu_lanes C hK hP wf_X0_23 dX0_assignLanes_51 ?_
                refine lv_iload C.1 C.2.1 dX0_assignLanes_54 (lv_at hl 4 rfl) ?_
                obtain ⟨hi56, hf⟩ := gd_some hf
                refine lc_bla C hK hP hi56 dX0_assignLanes_56 ?_
                refine lv_iconst (v := (1 : Int32)) C.1 C.2.1 dX0_assignLanes_57 (by decide) ?_
                refine lv_iadd C.1 C.2.1 dX0_assignLanes_58 ?_
                obtain ⟨x3_59, ex3_59, hf⟩ := lt_some hf
                refine lv_tope ex3_59 ?_
                refine lv_istore_n (lv' := [(3, .int x3_59), (0, .ref (ad 36)), (1, .int x1), (2, .int x2), (4, .int x4)]) C.1 C.2.1 dX0_assignLanes_59 rfl hl (by decide) rfl (fun ls hl => ?_)
                exact hB60 _ _ _ ls _ _ _ _ hP hD hS (lv_sub hl [1, 2, 3, 0, 4] rfl) hf
      intro H locs σ ls x1 hP hD hS hl hf
      have hf : fc_X0_assignLanes_L2_c F (fc_X0_assignLanes_L2 F n2) σ x1 = some σr := hf
      unfold fc_X0_assignLanes_L2_c at hf
      refine lv_iload_n C.1 C.2.1 dX0_assignLanes_2 rfl (lv_at hl 1 rfl) ?_
      refine lv_aload_n C.1 C.2.1 dX0_assignLanes_3 rfl (lv_at hl 0 rfl) ?_
      refine gc_bu_size C hK hP wf_X0_30 dX0_assignLanes_4 ?_
      refine lv_icmp_ge (tgt := 79) C.1 C.2.1 dX0_assignLanes_7 (by decide) (fun c7 => ?_) (fun c7 => ?_)
      · have hf := br_p c7 hf
        obtain rfl := Option.some.inj hf
        exact KC.vret C hr hlk hK hAe hP hD hS rfl dX0_assignLanes_79
      · have hf := br_n c7 hf
        refine lv_aload_n C.1 C.2.1 dX0_assignLanes_10 rfl (lv_at hl 0 rfl) ?_
        obtain ⟨r11, hc11, hf⟩ := bd_some hf
        refine cV_go (runRVc (As := []) C hK hP hZ hS wv_X0_86 hl (kc_X0_nextWithoutLane l D cA ad _ η F   r11 hc11) (rcC 36 1 hK hP rfl rfl) rfl rfl rfl (Nat.le_of_ble_eq_true rfl) ⟨Nat.le_refl _, Nat.le_refl _⟩ dX0_assignLanes_11) ?_
        refine lv_istore_n (lv' := [(2, .int r11), (0, .ref (ad 36)), (1, .int x1)]) C.1 C.2.1 dX0_assignLanes_14 rfl hl (by decide) rfl (fun ls hl => ?_)
        refine lv_iconst (v := (0 : Int32)) C.1 C.2.1 dX0_assignLanes_15 (by decide) ?_
        refine lv_istore_n (lv' := [(3, .int (0 : Int32)), (2, .int r11), (0, .ref (ad 36)), (1, .int x1)]) C.1 C.2.1 dX0_assignLanes_16 rfl hl (by decide) rfl (fun ls hl => ?_)
        refine lv_iconst (v := (0 : Int32)) C.1 C.2.1 dX0_assignLanes_17 (by decide) ?_
        refine lv_istore (lv' := [(4, .int (0 : Int32)), (3, .int (0 : Int32)), (2, .int r11), (0, .ref (ad 36)), (1, .int x1)]) C.1 C.2.1 dX0_assignLanes_18 hl (by decide) rfl (fun ls hl => ?_)
        exact hB20 F _ _ _ ls _ _ _ _ hP hD hS (lv_sub hl [3, 4, 2, 1, 0] rfl) hf
  unfold fc_X0_assignLanes at hf
  refine lv_iconst (v := (0 : Int32)) C.1 C.2.1 dX0_assignLanes_0 (by decide) ?_
  refine lv_istore_n (lv' := [(1, .int (0 : Int32)), (0, .ref (ad 36))]) C.1 C.2.1 dX0_assignLanes_1 rfl hl (by decide) rfl (fun ls hl => ?_)
  exact hB2 F _ _ _ ls _ hP hD hS (lv_sub hl [1, 0] rfl) hf
def fc_X0_ownLane (F : Nat) (σ : CSt) : Option (Int32) :=
  gd (ix (cs_bo σ) 180 = true) (some (cs_bla σ (cs_bo σ).toNatClampNeg))
set_option maxHeartbeats 4000000 in
set_option maxRecDepth 100000 in
theorem kc_X0_ownLane (l : Launch) (D : va_G) (cA : Nat → ClassId) (ad : Nat → Nat) (σ : CSt) (η : HS) (F : Nat)  (r : Int32) (hf : fc_X0_ownLane F σ = some r) : KRc l D cA ad σ η yX0_ownLane cX0_ownLane 1 (some .int) (rmk 0 0) [.ref (ad 36)] (QcV (.int r)) := by
  refine KRc.of (by decide) (Nat.le_of_ble_eq_true rfl) ?_
  intro p e s m below meth c C hr hlk hK hP hZ ls hl
  have hS : va_S NoA s.heap s.heap [] := va_S.rf
  have hl : lv_has ls 1 [(0, .ref (ad 36))] := hl
  unfold fc_X0_ownLane at hf
  refine lv_aload_n C.1 C.2.1 dX0_ownLane_0 rfl (lv_at hl 0 rfl) ?_
  refine gc_bu_lanes C hK hP wf_X0_23 dX0_ownLane_1 ?_
  refine lv_aload_n C.1 C.2.1 dX0_ownLane_4 rfl (lv_at hl 0 rfl) ?_
  refine gc_bu_own C hK hP wf_X0_34 dX0_ownLane_5 ?_
  obtain ⟨hi8, hf⟩ := gd_some hf
  refine lc_bla C hK hP hi8 dX0_ownLane_8 ?_
  exact KRc.iret C hr hlk (Option.some.inj hf) dX0_ownLane_9
def fc_X0_touchesReached_L30 (F : Nat) (σ : CSt) (k2 : Int32 → Int32 → Option (Int32)) (x1 : Int32) (x2 : Int32) : Option (Int32) :=
  lt (x2 + (1 : Int32)) (fun x2_30 => k2 x1 x2_30)
def fc_X0_touchesReached_L2_c (F : Nat) (σ : CSt) (k2 : Int32 → Int32 → Option (Int32)) (x1 : Int32) (x2 : Int32) : Option (Int32) :=
  if (cs_bs σ) ≤ x2 then (some (0 : Int32)) else (gd (ix x2 180 = true) (if (cs_bre σ x2.toNatClampNeg) = 0 then (fc_X0_touchesReached_L30 F σ k2 x1 x2) else (bd (fc_X0_collide F σ x1 x2) (fun r22 => if r22 = 0 then (fc_X0_touchesReached_L30 F σ k2 x1 x2) else (some (1 : Int32))))))
def fc_X0_touchesReached_L2 (F : Nat) (σ : CSt) (n : Nat) (x1 : Int32) (x2 : Int32) : Option (Int32) := lpN (fun (k : Int32 × Int32 → Option (Int32)) a => fc_X0_touchesReached_L2_c F σ (fun x1 x2 => k (x1, x2)) a.1 a.2) n (x1, x2)
def fc_X0_touchesReached (F : Nat) (σ : CSt) (x1 : Int32) : Option (Int32) :=
  fc_X0_touchesReached_L2 F σ F x1 (0 : Int32)
set_option maxHeartbeats 4000000 in
set_option maxRecDepth 100000 in
theorem kc_X0_touchesReached (l : Launch) (D : va_G) (cA : Nat → ClassId) (ad : Nat → Nat) (σ : CSt) (η : HS) (F : Nat) (z1 : Int32) (r : Int32) (hf : fc_X0_touchesReached F σ z1 = some r) : KRc l D cA ad σ η yX0_touchesReached cX0_touchesReached 3 (some .boolean) (rmk 2 43) [.ref (ad 36), .int z1] (QcV (.int r)) := by
  refine KRc.of (by decide) (Nat.le_of_ble_eq_true rfl) ?_
  intro p e s m below meth c C hr hlk hK hP hZ ls hl
  have hS : va_S NoA s.heap s.heap [] := va_S.rf
  have hl : lv_has ls 3 [(0, .ref (ad 36)), (1, .int z1)] := hl
  have hB2 : ∀ (n2 : Nat) (ls : Array Slot) (x1 : Int32) (x2 : Int32), lv_has ls 3 [(0, .ref (ad 36)), (1, .int x1), (2, .int x2)] → fc_X0_touchesReached_L2 F σ n2 x1 x2 = some r → WRc p l e 2 43 s m [.ref (ad 36), .int z1] below meth c (QcV (.int r)) (F0 m 2 ls []) := by
    intro n2
    induction n2 with
    | zero =>
      intro ls x1 x2 hl hf
      cases (show (none : Option _) = _ from hf)
    | succ n2 ih2 =>
      have hB30 : ∀ (ls : Array Slot) (x1 : Int32) (x2 : Int32), lv_has ls 3 [(0, .ref (ad 36)), (1, .int x1), (2, .int x2)] → fc_X0_touchesReached_L30 F σ (fc_X0_touchesReached_L2 F σ n2) x1 x2 = some r → WRc p l e 2 43 s m [.ref (ad 36), .int z1] below meth c (QcV (.int r)) (F0 m 30 ls []) := by
        intro ls x1 x2 hl hf
        unfold fc_X0_touchesReached_L30 at hf
        obtain ⟨x2_30, ex2_30, hf⟩ := lt_some hf
        refine lv_iinc (v := x2_30) (lv' := [(2, .int x2_30), (0, .ref (ad 36)), (1, .int x1)]) C.1 C.2.1 dX0_touchesReached_30 hl (k := 2) rfl (by rw [ex2_30]; rfl) (by decide) rfl (fun ls hl => ?_)
        refine lv_goto (tgt := 2) C.1 C.2.1 dX0_touchesReached_33 (by decide) ?_
        exact ih2 ls _ _ (lv_sub hl [1, 2, 0] rfl) hf
      intro ls x1 x2 hl hf
      have hf : fc_X0_touchesReached_L2_c F σ (fc_X0_touchesReached_L2 F σ n2) x1 x2 = some r := hf
      unfold fc_X0_touchesReached_L2_c at hf
      refine lv_iload_n C.1 C.2.1 dX0_touchesReached_2 rfl (lv_at hl 2 rfl) ?_
      refine lv_aload_n C.1 C.2.1 dX0_touchesReached_3 rfl (lv_at hl 0 rfl) ?_
      refine gc_bu_size C hK hP wf_X0_30 dX0_touchesReached_4 ?_
      refine lv_icmp_ge (tgt := 36) C.1 C.2.1 dX0_touchesReached_7 (by decide) (fun c7 => ?_) (fun c7 => ?_)
      · have hf := br_p c7 hf
        refine lv_iconst (v := (0 : Int32)) C.1 C.2.1 dX0_touchesReached_36 (by decide) ?_
        exact KRc.zret C hr hlk (by decide) (Option.some.inj hf) dX0_touchesReached_37
      · have hf := br_n c7 hf
        refine lv_aload_n C.1 C.2.1 dX0_touchesReached_10 rfl (lv_at hl 0 rfl) ?_
        refine gc_bu_reached C hK hP wf_X0_26 dX0_touchesReached_11 ?_
        refine lv_iload_n C.1 C.2.1 dX0_touchesReached_14 rfl (lv_at hl 2 rfl) ?_
        obtain ⟨hi15, hf⟩ := gd_some hf
        refine lc_bre C hK hP hi15 dX0_touchesReached_15 ?_
        refine lv_if_eq (tgt := 30) C.1 C.2.1 dX0_touchesReached_16 (by decide) (fun c16 => ?_) (fun c16 => ?_)
        · have hf := br_p c16 hf
          exact hB30 ls _ _ (lv_sub hl [0, 1, 2] rfl) hf
        · have hf := br_n c16 hf
          refine lv_aload_n C.1 C.2.1 dX0_touchesReached_19 rfl (lv_at hl 0 rfl) ?_
          refine lv_iload_n C.1 C.2.1 dX0_touchesReached_20 rfl (lv_at hl 1 rfl) ?_
          refine lv_iload_n C.1 C.2.1 dX0_touchesReached_21 rfl (lv_at hl 2 rfl) ?_
          obtain ⟨r22, hc22, hf⟩ := bd_some hf
          refine cV_go (runRVc (As := [_, _]) C hK hP hZ hS wv_X0_89 hl (kc_X0_collide l D cA ad _ η F _ _  r22 hc22) (rcC 36 1 hK hP rfl rfl) rfl rfl rfl (Nat.le_of_ble_eq_true rfl) ⟨Nat.le_refl _, Nat.le_refl _⟩ dX0_touchesReached_22) ?_
          refine lv_if_eq (tgt := 30) C.1 C.2.1 dX0_touchesReached_25 (by decide) (fun c25 => ?_) (fun c25 => ?_)
          · have hf := br_p c25 hf
            exact hB30 ls _ _ (lv_sub hl [0, 1, 2] rfl) hf
          · have hf := br_n c25 hf
            refine lv_iconst (v := (1 : Int32)) C.1 C.2.1 dX0_touchesReached_28 (by decide) ?_
            exact KRc.zret C hr hlk (by decide) (Option.some.inj hf) dX0_touchesReached_29
  unfold fc_X0_touchesReached at hf
  refine lv_iconst (v := (0 : Int32)) C.1 C.2.1 dX0_touchesReached_0 (by decide) ?_
  refine lv_istore_n (lv' := [(2, .int (0 : Int32)), (0, .ref (ad 36)), (1, .int z1)]) C.1 C.2.1 dX0_touchesReached_1 rfl hl (by decide) rfl (fun ls hl => ?_)
  exact hB2 F ls _ _ (lv_sub hl [1, 2, 0] rfl) hf
def fc_X0_lanesOfOwn_L108 (F : Nat) (k80 : CSt → Int32 → Int32 → Option (Int32 × CSt)) (σ : CSt) (x2 : Int32) (x3 : Int32) : Option (Int32 × CSt) :=
  lt (x3 + (1 : Int32)) (fun x3_108 => k80 σ x2 x3_108)
def fc_X0_lanesOfOwn_L80_c (F : Nat) (k80 : CSt → Int32 → Int32 → Option (Int32 × CSt)) (σ : CSt) (x2 : Int32) (x3 : Int32) : Option (Int32 × CSt) :=
  if (cs_bs σ) ≤ x3 then (some ((x2 + (1 : Int32)), σ)) else (gd (ix x3 180 = true) (if (cs_bre σ x3.toNatClampNeg) = 0 then (fc_X0_lanesOfOwn_L108 F k80 σ x2 x3) else (gd (ix x3 180 = true) (lt (if x2 < (cs_bla σ x3.toNatClampNeg) then (cs_bla σ x3.toNatClampNeg) else x2) (fun x2_107 => fc_X0_lanesOfOwn_L108 F k80 σ x2_107 x3)))))
def fc_X0_lanesOfOwn_L80 (F : Nat) (n : Nat) (σ : CSt) (x2 : Int32) (x3 : Int32) : Option (Int32 × CSt) := lpN (fun (k : CSt × Int32 × Int32 → Option (Int32 × CSt)) a => fc_X0_lanesOfOwn_L80_c F (fun σ x2 x3 => k (σ, x2, x3)) a.1 a.2.1 a.2.2) n (σ, x2, x3)
def fc_X0_lanesOfOwn_L76 (F : Nat) (σ : CSt) : Option (Int32 × CSt) :=
  fc_X0_lanesOfOwn_L80 F F σ (0 : Int32) (0 : Int32)
def fc_X0_lanesOfOwn_L64 (F : Nat) (k14 : CSt → Int32 → Int32 → Option (Int32 × CSt)) (k30 : CSt → Int32 → Int32 → Int32 → Option (Int32 × CSt)) (σ : CSt) (x1 : Int32) (x2 : Int32) (x3 : Int32) : Option (Int32 × CSt) :=
  lt (x3 + (1 : Int32)) (fun x3_64 => k30 σ x1 x2 x3_64)
def fc_X0_lanesOfOwn_L30_c (F : Nat) (k14 : CSt → Int32 → Int32 → Option (Int32 × CSt)) (k30 : CSt → Int32 → Int32 → Int32 → Option (Int32 × CSt)) (σ : CSt) (x1 : Int32) (x2 : Int32) (x3 : Int32) : Option (Int32 × CSt) :=
  if (cs_bs σ) ≤ x3 then (lt (x2 + (1 : Int32)) (fun x2_70 => k14 σ x1 x2_70)) else (gd (ix x3 180 = true) (if (cs_bre σ x3.toNatClampNeg) = 0 then (bd (fc_X0_touchesReached F σ x3) (fun r49 => if r49 = 0 then (fc_X0_lanesOfOwn_L64 F k14 k30 σ x1 x2 x3) else (gd (ix x3 180 = true) (lt (sc_bre σ x3 (1 : Int32)) (fun σ61 => fc_X0_lanesOfOwn_L64 F k14 k30 σ61 (1 : Int32) x2 x3))))) else (fc_X0_lanesOfOwn_L64 F k14 k30 σ x1 x2 x3)))
def fc_X0_lanesOfOwn_L30 (F : Nat) (k14 : CSt → Int32 → Int32 → Option (Int32 × CSt)) (n : Nat) (σ : CSt) (x1 : Int32) (x2 : Int32) (x3 : Int32) : Option (Int32 × CSt) := lpN (fun (k : CSt × Int32 × Int32 × Int32 → Option (Int32 × CSt)) a => fc_X0_lanesOfOwn_L30_c F k14 (fun σ x1 x2 x3 => k (σ, x1, x2, x3)) a.1 a.2.1 a.2.2.1 a.2.2.2) n (σ, x1, x2, x3)
def fc_X0_lanesOfOwn_L14_c (F : Nat) (k14 : CSt → Int32 → Int32 → Option (Int32 × CSt)) (σ : CSt) (x1 : Int32) (x2 : Int32) : Option (Int32 × CSt) :=
  if (cs_bs σ) ≤ x2 then (fc_X0_lanesOfOwn_L76 F σ) else (if x1 = 0 then (fc_X0_lanesOfOwn_L76 F σ) else (fc_X0_lanesOfOwn_L30 F k14 F σ (0 : Int32) x2 (0 : Int32)))
def fc_X0_lanesOfOwn_L14 (F : Nat) (n : Nat) (σ : CSt) (x1 : Int32) (x2 : Int32) : Option (Int32 × CSt) := lpN (fun (k : CSt × Int32 × Int32 → Option (Int32 × CSt)) a => fc_X0_lanesOfOwn_L14_c F (fun σ x1 x2 => k (σ, x1, x2)) a.1 a.2.1 a.2.2) n (σ, x1, x2)
def fc_X0_lanesOfOwn (F : Nat) (σ : CSt) : Option (Int32 × CSt) :=
  gd (ix (cs_bo σ) 180 = true) (lt (sc_bre σ (cs_bo σ) (1 : Int32)) (fun σ9 => fc_X0_lanesOfOwn_L14 F F σ9 (1 : Int32) (0 : Int32)))
set_option maxHeartbeats 4000000 in
set_option maxRecDepth 100000 in
theorem kc_X0_lanesOfOwn (l : Launch) (D : va_G) (cA : Nat → ClassId) (ad : Nat → Nat) (σ0 : CSt) (η : HS) (F : Nat)  (r : Int32) (σr : CSt) (hf : fc_X0_lanesOfOwn F σ0 = some (r, σr)) : KC l D cA ad σ0 η yX0_lanesOfOwn cX0_lanesOfOwn 4 (some .int) (rmk 3 65) [.ref (ad 36)] (some (.int r)) σr := by
  refine KC.of (by decide) (Nat.le_of_ble_eq_true rfl) ?_
  intro p e s m below meth c A hAe hA C hr hlk hK hP hD hS hZ ls hl
  have hl : lv_has ls 4 [(0, .ref (ad 36))] := hl
  have hB80 : ∀ (n80 : Nat) (H : Heap) (locs : List Loc) (σ : CSt) (ls : Array Slot) (x2 : Int32) (x3 : Int32), HC D cA ad σ η H → va_D A (wC cA ad σ η) → va_S A s.heap H locs → lv_has ls 4 [(0, .ref (ad 36)), (2, .int x2), (3, .int x3)] → fc_X0_lanesOfOwn_L80 F n80 σ x2 x3 = some (r, σr) → WC p l e 3 65 s m [.ref (ad 36)] below meth c (some (.int r)) D cA ad σ0 η σr A H locs (F0 m 80 ls []) := by
    intro n80
    induction n80 with
    | zero =>
      intro H locs σ ls x2 x3 hP hD hS hl hf
      cases (show (none : Option _) = _ from hf)
    | succ n80 ih80 =>
      have hB108 : ∀ (H : Heap) (locs : List Loc) (σ : CSt) (ls : Array Slot) (x2 : Int32) (x3 : Int32), HC D cA ad σ η H → va_D A (wC cA ad σ η) → va_S A s.heap H locs → lv_has ls 4 [(0, .ref (ad 36)), (2, .int x2), (3, .int x3)] → fc_X0_lanesOfOwn_L108 F (fc_X0_lanesOfOwn_L80 F n80) σ x2 x3 = some (r, σr) → WC p l e 3 65 s m [.ref (ad 36)] below meth c (some (.int r)) D cA ad σ0 η σr A H locs (F0 m 108 ls []) := by
        intro H locs σ ls x2 x3 hP hD hS hl hf
        unfold fc_X0_lanesOfOwn_L108 at hf
        obtain ⟨x3_108, ex3_108, hf⟩ := lt_some hf
        refine lv_iinc (v := x3_108) (lv' := [(3, .int x3_108), (0, .ref (ad 36)), (2, .int x2)]) C.1 C.2.1 dX0_lanesOfOwn_108 hl (k := 2) rfl (by rw [ex3_108]; rfl) (by decide) rfl (fun ls hl => ?_)
        refine lv_goto (tgt := 80) C.1 C.2.1 dX0_lanesOfOwn_111 (by decide) ?_
        exact ih80 _ _ _ ls _ _ hP hD hS (lv_sub hl [1, 2, 0] rfl) hf
      intro H locs σ ls x2 x3 hP hD hS hl hf
      have hf : fc_X0_lanesOfOwn_L80_c F (fc_X0_lanesOfOwn_L80 F n80) σ x2 x3 = some (r, σr) := hf
      unfold fc_X0_lanesOfOwn_L80_c at hf
      refine lv_iload_n C.1 C.2.1 dX0_lanesOfOwn_80 rfl (lv_at hl 2 rfl) ?_
      refine lv_aload_n C.1 C.2.1 dX0_lanesOfOwn_81 rfl (lv_at hl 0 rfl) ?_
      refine gc_bu_size C hK hP wf_X0_30 dX0_lanesOfOwn_82 ?_
      refine lv_icmp_ge (tgt := 114) C.1 C.2.1 dX0_lanesOfOwn_85 (by decide) (fun c85 => ?_) (fun c85 => ?_)
      · have hf := br_p c85 hf
        refine lv_iload_n C.1 C.2.1 dX0_lanesOfOwn_114 rfl (lv_at hl 1 rfl) ?_
        refine lv_iconst (v := (1 : Int32)) C.1 C.2.1 dX0_lanesOfOwn_115 (by decide) ?_
        refine lv_iadd C.1 C.2.1 dX0_lanesOfOwn_116 ?_
        obtain ⟨rfl, rfl⟩ := Prod.mk.inj (Option.some.inj hf)
        exact KC.iret C hr hlk hK hAe hP hD hS rfl dX0_lanesOfOwn_117
      · have hf := br_n c85 hf
        refine lv_aload_n C.1 C.2.1 dX0_lanesOfOwn_88 rfl (lv_at hl 0 rfl) ?_
        refine gc_bu_reached C hK hP wf_X0_26 dX0_lanesOfOwn_89 ?_
        refine lv_iload_n C.1 C.2.1 dX0_lanesOfOwn_92 rfl (lv_at hl 2 rfl) ?_
        obtain ⟨hi93, hf⟩ := gd_some hf
        refine lc_bre C hK hP hi93 dX0_lanesOfOwn_93 ?_
        refine lv_if_eq (tgt := 108) C.1 C.2.1 dX0_lanesOfOwn_94 (by decide) (fun c94 => ?_) (fun c94 => ?_)
        · have hf := br_p c94 hf
          exact hB108 _ _ _ ls _ _ hP hD hS (lv_sub hl [0, 1, 2] rfl) hf
        · have hf := br_n c94 hf
          refine lv_iload_n C.1 C.2.1 dX0_lanesOfOwn_97 rfl (lv_at hl 1 rfl) ?_
          refine lv_aload_n C.1 C.2.1 dX0_lanesOfOwn_98 rfl (lv_at hl 0 rfl) ?_
          refine gc_bu_lanes C hK hP wf_X0_23 dX0_lanesOfOwn_99 ?_
          refine lv_iload_n C.1 C.2.1 dX0_lanesOfOwn_102 rfl (lv_at hl 2 rfl) ?_
          obtain ⟨hi103, hf⟩ := gd_some hf
          refine lc_bla C hK hP hi103 dX0_lanesOfOwn_103 ?_
          refine va_mmax C.1 C.2.1 (by rw [C.2.2.1]; exact hl.1.symm) C.2.2.2.1 (C.2.2.2.2 _ wm_X0_83.1) (C.2.2.2.2 _ wm_X0_83.2.1) (C.2.2.2.2 _ wm_X0_83.2.2.1) (C.2.2.2.2 _ wm_X0_83.2.2.2) (Nat.le_of_ble_eq_true rfl) (Nat.le_of_ble_eq_true rfl) (Nat.le_refl _) (Nat.le_refl _) dX0_lanesOfOwn_104 ?_
          obtain ⟨x2_107, ex2_107, hf⟩ := lt_some hf
          refine lv_tope ex2_107 ?_
          refine lv_istore_n (lv' := [(2, .int x2_107), (0, .ref (ad 36)), (3, .int x3)]) C.1 C.2.1 dX0_lanesOfOwn_107 rfl hl (by decide) rfl (fun ls hl => ?_)
          exact hB108 _ _ _ ls _ _ hP hD hS (lv_sub hl [1, 0, 2] rfl) hf
  have hB76 : ∀ (H : Heap) (locs : List Loc) (σ : CSt) (ls : Array Slot), HC D cA ad σ η H → va_D A (wC cA ad σ η) → va_S A s.heap H locs → lv_has ls 4 [(0, .ref (ad 36))] → fc_X0_lanesOfOwn_L76 F σ = some (r, σr) → WC p l e 3 65 s m [.ref (ad 36)] below meth c (some (.int r)) D cA ad σ0 η σr A H locs (F0 m 76 ls []) := by
    intro H locs σ ls hP hD hS hl hf
    unfold fc_X0_lanesOfOwn_L76 at hf
    refine lv_iconst (v := (0 : Int32)) C.1 C.2.1 dX0_lanesOfOwn_76 (by decide) ?_
    refine lv_istore_n (lv' := [(2, .int (0 : Int32)), (0, .ref (ad 36))]) C.1 C.2.1 dX0_lanesOfOwn_77 rfl hl (by decide) rfl (fun ls hl => ?_)
    refine lv_iconst (v := (0 : Int32)) C.1 C.2.1 dX0_lanesOfOwn_78 (by decide) ?_
    refine lv_istore_n (lv' := [(3, .int (0 : Int32)), (2, .int (0 : Int32)), (0, .ref (ad 36))]) C.1 C.2.1 dX0_lanesOfOwn_79 rfl hl (by decide) rfl (fun ls hl => ?_)
    exact hB80 F _ _ _ ls _ _ hP hD hS (lv_sub hl [2, 1, 0] rfl) hf
  have hB14 : ∀ (n14 : Nat) (H : Heap) (locs : List Loc) (σ : CSt) (ls : Array Slot) (x1 : Int32) (x2 : Int32), HC D cA ad σ η H → va_D A (wC cA ad σ η) → va_S A s.heap H locs → lv_has ls 4 [(0, .ref (ad 36)), (1, .int x1), (2, .int x2)] → fc_X0_lanesOfOwn_L14 F n14 σ x1 x2 = some (r, σr) → WC p l e 3 65 s m [.ref (ad 36)] below meth c (some (.int r)) D cA ad σ0 η σr A H locs (F0 m 14 ls []) := by
    intro n14
    induction n14 with
    | zero =>
      intro H locs σ ls x1 x2 hP hD hS hl hf
      cases (show (none : Option _) = _ from hf)
    | succ n14 ih14 =>
      have hB30 : ∀ (n30 : Nat) (H : Heap) (locs : List Loc) (σ : CSt) (ls : Array Slot) (x1 : Int32) (x2 : Int32) (x3 : Int32), HC D cA ad σ η H → va_D A (wC cA ad σ η) → va_S A s.heap H locs → lv_has ls 4 [(0, .ref (ad 36)), (1, .int x1), (2, .int x2), (3, .int x3)] → fc_X0_lanesOfOwn_L30 F (fc_X0_lanesOfOwn_L14 F n14) n30 σ x1 x2 x3 = some (r, σr) → WC p l e 3 65 s m [.ref (ad 36)] below meth c (some (.int r)) D cA ad σ0 η σr A H locs (F0 m 30 ls []) := by
        intro n30
        induction n30 with
        | zero =>
          intro H locs σ ls x1 x2 x3 hP hD hS hl hf
          cases (show (none : Option _) = _ from hf)
        | succ n30 ih30 =>
          have hB64 : ∀ (H : Heap) (locs : List Loc) (σ : CSt) (ls : Array Slot) (x1 : Int32) (x2 : Int32) (x3 : Int32), HC D cA ad σ η H → va_D A (wC cA ad σ η) → va_S A s.heap H locs → lv_has ls 4 [(0, .ref (ad 36)), (1, .int x1), (2, .int x2), (3, .int x3)] → fc_X0_lanesOfOwn_L64 F (fc_X0_lanesOfOwn_L14 F n14) (fc_X0_lanesOfOwn_L30 F (fc_X0_lanesOfOwn_L14 F n14) n30) σ x1 x2 x3 = some (r, σr) → WC p l e 3 65 s m [.ref (ad 36)] below meth c (some (.int r)) D cA ad σ0 η σr A H locs (F0 m 64 ls []) := by
            intro H locs σ ls x1 x2 x3 hP hD hS hl hf
            unfold fc_X0_lanesOfOwn_L64 at hf
            obtain ⟨x3_64, ex3_64, hf⟩ := lt_some hf
            refine lv_iinc (v := x3_64) (lv' := [(3, .int x3_64), (0, .ref (ad 36)), (1, .int x1), (2, .int x2)]) C.1 C.2.1 dX0_lanesOfOwn_64 hl (k := 3) rfl (by rw [ex3_64]; rfl) (by decide) rfl (fun ls hl => ?_)
            refine lv_goto (tgt := 30) C.1 C.2.1 dX0_lanesOfOwn_67 (by decide) ?_
            exact ih30 _ _ _ ls _ _ _ hP hD hS (lv_sub hl [1, 2, 3, 0] rfl) hf
          intro H locs σ ls x1 x2 x3 hP hD hS hl hf
          have hf : fc_X0_lanesOfOwn_L30_c F (fc_X0_lanesOfOwn_L14 F n14) (fc_X0_lanesOfOwn_L30 F (fc_X0_lanesOfOwn_L14 F n14) n30) σ x1 x2 x3 = some (r, σr) := hf
          unfold fc_X0_lanesOfOwn_L30_c at hf
          refine lv_iload_n C.1 C.2.1 dX0_lanesOfOwn_30 rfl (lv_at hl 3 rfl) ?_
          refine lv_aload_n C.1 C.2.1 dX0_lanesOfOwn_31 rfl (lv_at hl 0 rfl) ?_
          refine gc_bu_size C hK hP wf_X0_30 dX0_lanesOfOwn_32 ?_
          refine lv_icmp_ge (tgt := 70) C.1 C.2.1 dX0_lanesOfOwn_35 (by decide) (fun c35 => ?_) (fun c35 => ?_)
          · have hf := br_p c35 hf
            obtain ⟨x2_70, ex2_70, hf⟩ := lt_some hf
            refine lv_iinc (v := x2_70) (lv' := [(2, .int x2_70), (0, .ref (ad 36)), (1, .int x1), (3, .int x3)]) C.1 C.2.1 dX0_lanesOfOwn_70 hl (k := 2) rfl (by rw [ex2_70]; rfl) (by decide) rfl (fun ls hl => ?_)
            refine lv_goto (tgt := 14) C.1 C.2.1 dX0_lanesOfOwn_73 (by decide) ?_
            exact ih14 _ _ _ ls _ _ hP hD hS (lv_sub hl [1, 2, 0] rfl) hf
          · have hf := br_n c35 hf
            refine lv_aload_n C.1 C.2.1 dX0_lanesOfOwn_38 rfl (lv_at hl 0 rfl) ?_
            refine gc_bu_reached C hK hP wf_X0_26 dX0_lanesOfOwn_39 ?_
            refine lv_iload_n C.1 C.2.1 dX0_lanesOfOwn_42 rfl (lv_at hl 3 rfl) ?_
            obtain ⟨hi43, hf⟩ := gd_some hf
            refine lc_bre C hK hP hi43 dX0_lanesOfOwn_43 ?_
            refine lv_if_ne (tgt := 64) C.1 C.2.1 dX0_lanesOfOwn_44 (by decide) (fun c44 => ?_) (fun c44 => ?_)
            · have hf := br_n c44 hf
              exact hB64 _ _ _ ls _ _ _ hP hD hS (lv_sub hl [0, 1, 2, 3] rfl) hf
            · have hf := br_p c44 hf
              refine lv_aload_n C.1 C.2.1 dX0_lanesOfOwn_47 rfl (lv_at hl 0 rfl) ?_
              refine lv_iload_n C.1 C.2.1 dX0_lanesOfOwn_48 rfl (lv_at hl 3 rfl) ?_
              obtain ⟨r49, hc49, hf⟩ := bd_some hf
              refine cV_go (runRVc (As := [_]) C hK hP hZ hS wv_X0_93 hl (kc_X0_touchesReached l D cA ad _ η F _  r49 hc49) (rcC 36 1 hK hP rfl rfl) rfl rfl rfl (Nat.le_of_ble_eq_true rfl) ⟨Nat.le_refl _, Nat.le_refl _⟩ dX0_lanesOfOwn_49) ?_
              refine lv_if_eq (tgt := 64) C.1 C.2.1 dX0_lanesOfOwn_52 (by decide) (fun c52 => ?_) (fun c52 => ?_)
              · have hf := br_p c52 hf
                exact hB64 _ _ _ ls _ _ _ hP hD hS (lv_sub hl [0, 1, 2, 3] rfl) hf
              · have hf := br_n c52 hf
                refine lv_aload_n C.1 C.2.1 dX0_lanesOfOwn_55 rfl (lv_at hl 0 rfl) ?_
                refine gc_bu_reached C hK hP wf_X0_26 dX0_lanesOfOwn_56 ?_
                refine lv_iload_n C.1 C.2.1 dX0_lanesOfOwn_59 rfl (lv_at hl 3 rfl) ?_
                refine lv_iconst (v := (1 : Int32)) C.1 C.2.1 dX0_lanesOfOwn_60 (by decide) ?_
                obtain ⟨hi61, hf⟩ := gd_some hf
                replace hf := lt_e hf
                refine uc_bre C hK hP hD hS hi61 (by decide) dX0_lanesOfOwn_61 (fun H locs hP hD hS => ?_)
                refine lv_iconst (v := (1 : Int32)) C.1 C.2.1 dX0_lanesOfOwn_62 (by decide) ?_
                refine lv_istore_n (lv' := [(1, .int (1 : Int32)), (0, .ref (ad 36)), (2, .int x2), (3, .int x3)]) C.1 C.2.1 dX0_lanesOfOwn_63 rfl hl (by decide) rfl (fun ls hl => ?_)
                exact hB64 _ _ _ ls _ _ _ hP hD hS (lv_sub hl [1, 0, 2, 3] rfl) hf
      intro H locs σ ls x1 x2 hP hD hS hl hf
      have hf : fc_X0_lanesOfOwn_L14_c F (fc_X0_lanesOfOwn_L14 F n14) σ x1 x2 = some (r, σr) := hf
      unfold fc_X0_lanesOfOwn_L14_c at hf
      refine lv_iload_n C.1 C.2.1 dX0_lanesOfOwn_14 rfl (lv_at hl 2 rfl) ?_
      refine lv_aload_n C.1 C.2.1 dX0_lanesOfOwn_15 rfl (lv_at hl 0 rfl) ?_
      refine gc_bu_size C hK hP wf_X0_30 dX0_lanesOfOwn_16 ?_
      refine lv_icmp_ge (tgt := 76) C.1 C.2.1 dX0_lanesOfOwn_19 (by decide) (fun c19 => ?_) (fun c19 => ?_)
      · have hf := br_p c19 hf
        exact hB76 _ _ _ ls hP hD hS (lv_sub hl [0] rfl) hf
      · have hf := br_n c19 hf
        refine lv_iload_n C.1 C.2.1 dX0_lanesOfOwn_22 rfl (lv_at hl 1 rfl) ?_
        refine lv_if_eq (tgt := 76) C.1 C.2.1 dX0_lanesOfOwn_23 (by decide) (fun c23 => ?_) (fun c23 => ?_)
        · have hf := br_p c23 hf
          exact hB76 _ _ _ ls hP hD hS (lv_sub hl [0] rfl) hf
        · have hf := br_n c23 hf
          refine lv_iconst (v := (0 : Int32)) C.1 C.2.1 dX0_lanesOfOwn_26 (by decide) ?_
          refine lv_istore_n (lv' := [(1, .int (0 : Int32)), (0, .ref (ad 36)), (2, .int x2)]) C.1 C.2.1 dX0_lanesOfOwn_27 rfl hl (by decide) rfl (fun ls hl => ?_)
          refine lv_iconst (v := (0 : Int32)) C.1 C.2.1 dX0_lanesOfOwn_28 (by decide) ?_
          refine lv_istore_n (lv' := [(3, .int (0 : Int32)), (1, .int (0 : Int32)), (0, .ref (ad 36)), (2, .int x2)]) C.1 C.2.1 dX0_lanesOfOwn_29 rfl hl (by decide) rfl (fun ls hl => ?_)
          exact hB30 F _ _ _ ls _ _ _ hP hD hS (lv_sub hl [2, 1, 3, 0] rfl) hf
  unfold fc_X0_lanesOfOwn at hf
  refine lv_aload_n C.1 C.2.1 dX0_lanesOfOwn_0 rfl (lv_at hl 0 rfl) ?_
  refine gc_bu_reached C hK hP wf_X0_26 dX0_lanesOfOwn_1 ?_
  refine lv_aload_n C.1 C.2.1 dX0_lanesOfOwn_4 rfl (lv_at hl 0 rfl) ?_
  refine gc_bu_own C hK hP wf_X0_34 dX0_lanesOfOwn_5 ?_
  refine lv_iconst (v := (1 : Int32)) C.1 C.2.1 dX0_lanesOfOwn_8 (by decide) ?_
  obtain ⟨hi9, hf⟩ := gd_some hf
  replace hf := lt_e hf
  refine uc_bre C hK hP hD hS hi9 (by decide) dX0_lanesOfOwn_9 (fun H locs hP hD hS => ?_)
  refine lv_iconst (v := (1 : Int32)) C.1 C.2.1 dX0_lanesOfOwn_10 (by decide) ?_
  refine lv_istore_n (lv' := [(1, .int (1 : Int32)), (0, .ref (ad 36))]) C.1 C.2.1 dX0_lanesOfOwn_11 rfl hl (by decide) rfl (fun ls hl => ?_)
  refine lv_iconst (v := (0 : Int32)) C.1 C.2.1 dX0_lanesOfOwn_12 (by decide) ?_
  refine lv_istore_n (lv' := [(2, .int (0 : Int32)), (1, .int (1 : Int32)), (0, .ref (ad 36))]) C.1 C.2.1 dX0_lanesOfOwn_13 rfl hl (by decide) rfl (fun ls hl => ?_)
  exact hB14 F _ _ _ ls _ _ hP hD hS (lv_sub hl [2, 1, 0] rfl) hf
def fc_X9_lane_L24 (F : Nat) (σ : CSt) : Option (Int32 × CSt) :=
  some ((-1001 : Int32), σ)
def fc_X9_lane (F : Nat) (σ : CSt) (x1 : Int32) (x2 : Int32) (x3 : Int32) : Option (Int32 × CSt) :=
  bd (fc_X1_routeOf F σ x1) (fun r5 => mo r5 (fc_X9_lane_L24 F σ) (fun v5 => bd (fc_X6_isInner F σ v5 x2) (fun r18 => if r18 = 0 then (fc_X9_lane_L24 F σ) else (bd (fc_X9_isWithin F σ x3 (0 : Int32) (3 : Int32)) (fun r31 => if r31 = 0 then (some ((-1002 : Int32), σ)) else (if x3 = 0 then (bd (fc_X6_pullOf F σ v5 x2) (fun r48 => some (r48, σ))) else (bd (fc_X0_gather F σ x1 x2) (fun σ62 => bd (fc_X0_assignLanes F σ62) (fun σ69 => bd (fc_X0_ownLane F σ69) (fun r76 => bd2 (fc_X0_lanesOfOwn F σ69) (fun r85 σ85 => if x3 = (1 : Int32) then (some (r76, σ85)) else if x3 = (2 : Int32) then (some (r85, σ85)) else (bd (fc_X6_lineOf F σ85 v5 x2) (fun r127 => some ((((20 : Int32) * r127) + ((((2 : Int32) * r76) - (r85 - (1 : Int32))) * (4 : Int32))), σ85))))))))))))))
set_option maxHeartbeats 4000000 in
set_option maxRecDepth 100000 in
theorem kc_X9_lane (l : Launch) (D : va_G) (cA : Nat → ClassId) (ad : Nat → Nat) (σ0 : CSt) (η : HS) (F : Nat) (z1 : Int32) (z2 : Int32) (z3 : Int32) (r : Int32) (σr : CSt) (hf : fc_X9_lane F σ0 z1 z2 z3 = some (r, σr)) : KC l D cA ad σ0 η yX9_lane cX9_lane 7 (some .int) (rmk 4 94) [.ref (ad 0), .int z1, .int z2, .int z3] (some (.int r)) σr := by
  refine KC.of (by decide) (Nat.le_of_ble_eq_true rfl) ?_
  intro p e s m below meth c A hAe hA C hr hlk hK hP hD hS hZ ls hl
  have hl : lv_has ls 7 [(0, .ref (ad 0)), (1, .int z1), (2, .int z2), (3, .int z3)] := hl
  have hB24 : ∀ (H : Heap) (locs : List Loc) (σ : CSt) (ls : Array Slot), HC D cA ad σ η H → va_D A (wC cA ad σ η) → va_S A s.heap H locs → lv_has ls 7 [] → fc_X9_lane_L24 F σ = some (r, σr) → WC p l e 4 94 s m [.ref (ad 0), .int z1, .int z2, .int z3] below meth c (some (.int r)) D cA ad σ0 η σr A H locs (F0 m 24 ls []) := by
    intro H locs σ ls hP hD hS hl hf
    unfold fc_X9_lane_L24 at hf
    refine lv_sipush (v := (-1001 : Int32)) C.1 C.2.1 dX9_lane_24 (by decide) ?_
    obtain ⟨rfl, rfl⟩ := Prod.mk.inj (Option.some.inj hf)
    exact KC.iret C hr hlk hK hAe hP hD hS rfl dX9_lane_27
  unfold fc_X9_lane at hf
  refine lv_aload_n C.1 C.2.1 dX9_lane_0 rfl (lv_at hl 0 rfl) ?_
  refine gc_R_canvas C hK hP wf_X9_10 dX9_lane_1 ?_
  refine lv_iload_n C.1 C.2.1 dX9_lane_4 rfl (lv_at hl 1 rfl) ?_
  obtain ⟨r5, hc5, hf⟩ := bd_some hf
  refine cO_go (runRVc (As := [_]) C hK hP hZ hS wv_X9_160 hl (kc_X1_routeOf l D cA ad _ η F _  r5 hc5) (rcC 1 2 hK hP rfl rfl) rfl rfl rfl (Nat.le_of_ble_eq_true rfl) ⟨Nat.le_refl _, Nat.le_refl _⟩ dX9_lane_5) (fun hn5 => ?_) (fun a5 v5 he5 hv5 => ?_)
  · have hf := mo_n hn5 hf
    refine lv_astoreN (lv' := [(4, .null), (0, .ref (ad 0)), (1, .int z1), (2, .int z2), (3, .int z3)]) C.1 C.2.1 dX9_lane_8 hl (by decide) rfl (fun ls hl => ?_)
    refine lv_aloadN C.1 C.2.1 dX9_lane_10 (lv_at hl 0 rfl) ?_
    refine lv_ifnullN (tgt := 24) C.1 C.2.1 dX9_lane_12 (by decide) ?_
    exact hB24 _ _ _ ls hP hD hS (lv_sub hl [] rfl) hf
  · have hf := mo_s he5 hf
    refine lv_astore (lv' := [(4, .ref a5), (0, .ref (ad 0)), (1, .int z1), (2, .int z2), (3, .int z3)]) C.1 C.2.1 dX9_lane_8 hl (by decide) rfl (fun ls hl => ?_)
    refine lv_aload C.1 C.2.1 dX9_lane_10 (lv_at hl 0 rfl) ?_
    refine lv_ifnull C.1 C.2.1 dX9_lane_12 ?_
    refine lv_aload C.1 C.2.1 dX9_lane_15 (lv_at hl 0 rfl) ?_
    refine lv_iload_n C.1 C.2.1 dX9_lane_17 rfl (lv_at hl 3 rfl) ?_
    obtain ⟨r18, hc18, hf⟩ := bd_some hf
    refine cV_go (runRVc (As := [_]) C hK hP hZ hS wv_X9_184 hl (kc_X6_isInner l D cA ad _ η F _ _ _ hv5 r18 hc18) (rcR hK hP hv5) rfl rfl rfl (Nat.le_of_ble_eq_true rfl) ⟨Nat.le_refl _, Nat.le_refl _⟩ dX9_lane_18) ?_
    refine lv_if_ne (tgt := 28) C.1 C.2.1 dX9_lane_21 (by decide) (fun c21 => ?_) (fun c21 => ?_)
    · have hf := br_n c21 hf
      refine lv_iload_n C.1 C.2.1 dX9_lane_28 rfl (lv_at hl 4 rfl) ?_
      refine lv_iconst (v := (0 : Int32)) C.1 C.2.1 dX9_lane_29 (by decide) ?_
      refine lv_iconst (v := (3 : Int32)) C.1 C.2.1 dX9_lane_30 (by decide) ?_
      obtain ⟨r31, hc31, hf⟩ := bd_some hf
      refine cV_go (runRSc (As := [_, _, _]) C hK hP hZ hS wv_X9_74 hl (kc_X9_isWithin l D cA ad _ η F _ _ _  r31 hc31) rfl rfl rfl (Nat.le_of_ble_eq_true rfl) ⟨Nat.le_refl _, Nat.le_refl _⟩ dX9_lane_31) ?_
      refine lv_if_ne (tgt := 41) C.1 C.2.1 dX9_lane_34 (by decide) (fun c34 => ?_) (fun c34 => ?_)
      · have hf := br_n c34 hf
        refine lv_iload_n C.1 C.2.1 dX9_lane_41 rfl (lv_at hl 4 rfl) ?_
        refine lv_if_ne (tgt := 52) C.1 C.2.1 dX9_lane_42 (by decide) (fun c42 => ?_) (fun c42 => ?_)
        · have hf := br_n c42 hf
          refine lv_aload_n C.1 C.2.1 dX9_lane_52 rfl (lv_at hl 1 rfl) ?_
          refine gc_R_bundle C hK hP wf_X9_33 dX9_lane_53 ?_
          refine lv_aload_n C.1 C.2.1 dX9_lane_56 rfl (lv_at hl 1 rfl) ?_
          refine gc_R_canvas C hK hP wf_X9_10 dX9_lane_57 ?_
          refine lv_iload_n C.1 C.2.1 dX9_lane_60 rfl (lv_at hl 2 rfl) ?_
          refine lv_iload_n C.1 C.2.1 dX9_lane_61 rfl (lv_at hl 3 rfl) ?_
          obtain ⟨σ62, hc62, hf⟩ := bd_some hf
          refine callCV (As := [_, _, _]) C hK hP hD hA hS hZ wv_X9_190 hl (kc_X0_gather l D cA ad _ η F _ _  σ62 hc62) (rcC 36 1 hK hP rfl rfl) rfl rfl rfl (Nat.le_of_ble_eq_true rfl) ⟨Nat.le_refl _, Nat.le_refl _⟩ dX9_lane_62 (fun H locs hP hD hS => ?_)
          refine lv_aload_n C.1 C.2.1 dX9_lane_65 rfl (lv_at hl 1 rfl) ?_
          refine gc_R_bundle C hK hP wf_X9_33 dX9_lane_66 ?_
          obtain ⟨σ69, hc69, hf⟩ := bd_some hf
          refine callCV (As := []) C hK hP hD hA hS hZ wv_X9_194 hl (kc_X0_assignLanes l D cA ad _ η F   σ69 hc69) (rcC 36 1 hK hP rfl rfl) rfl rfl rfl (Nat.le_of_ble_eq_true rfl) ⟨Nat.le_refl _, Nat.le_refl _⟩ dX9_lane_69 (fun H locs hP hD hS => ?_)
          refine lv_aload_n C.1 C.2.1 dX9_lane_72 rfl (lv_at hl 1 rfl) ?_
          refine gc_R_bundle C hK hP wf_X9_33 dX9_lane_73 ?_
          obtain ⟨r76, hc76, hf⟩ := bd_some hf
          refine cV_go (runRVc (As := []) C hK hP hZ hS wv_X9_197 hl (kc_X0_ownLane l D cA ad _ η F   r76 hc76) (rcC 36 1 hK hP rfl rfl) rfl rfl rfl (Nat.le_of_ble_eq_true rfl) ⟨Nat.le_refl _, Nat.le_refl _⟩ dX9_lane_76) ?_
          refine lv_istore (lv' := [(5, .int r76), (4, .ref a5), (0, .ref (ad 0)), (1, .int z1), (2, .int z2), (3, .int z3)]) C.1 C.2.1 dX9_lane_79 hl (by decide) rfl (fun ls hl => ?_)
          refine lv_aload_n C.1 C.2.1 dX9_lane_81 rfl (lv_at hl 2 rfl) ?_
          refine gc_R_bundle C hK hP wf_X9_33 dX9_lane_82 ?_
          obtain ⟨r85, σ85, hc85, hf⟩ := bd2_some hf
          refine callCV (As := []) C hK hP hD hA hS hZ wv_X9_200 hl (kc_X0_lanesOfOwn l D cA ad _ η F   r85 σ85 hc85) (rcC 36 1 hK hP rfl rfl) rfl rfl rfl (Nat.le_of_ble_eq_true rfl) ⟨Nat.le_refl _, Nat.le_refl _⟩ dX9_lane_85 (fun H locs hP hD hS => ?_)
          refine lv_istore (lv' := [(6, .int r85), (5, .int r76), (4, .ref a5), (0, .ref (ad 0)), (1, .int z1), (2, .int z2), (3, .int z3)]) C.1 C.2.1 dX9_lane_88 hl (by decide) rfl (fun ls hl => ?_)
          refine lv_iload_n C.1 C.2.1 dX9_lane_90 rfl (lv_at hl 6 rfl) ?_
          by_cases c91_1 : z3 = (1 : Int32)
          · have hf := br_p c91_1 hf
            refine lv_lookup (off := 25) (tgt := 116) C.1 C.2.1 dX9_lane_91 (by decide) (by rw [c91_1]; try rfl) (by decide) ?_
            refine lv_iload C.1 C.2.1 dX9_lane_116 (lv_at hl 1 rfl) ?_
            obtain ⟨rfl, rfl⟩ := Prod.mk.inj (Option.some.inj hf)
            exact KC.iret C hr hlk hK hAe hP hD hS rfl dX9_lane_118
          have hf := br_n c91_1 hf
          by_cases c91_2 : z3 = (2 : Int32)
          · have hf := br_p c91_2 hf
            refine lv_lookup (off := 28) (tgt := 119) C.1 C.2.1 dX9_lane_91 (by decide) (by rw [c91_2]; try rfl) (by decide) ?_
            refine lv_iload C.1 C.2.1 dX9_lane_119 (lv_at hl 0 rfl) ?_
            obtain ⟨rfl, rfl⟩ := Prod.mk.inj (Option.some.inj hf)
            exact KC.iret C hr hlk hK hAe hP hD hS rfl dX9_lane_121
          have hf := br_n c91_2 hf
          refine lv_lookup (off := 31) (tgt := 122) C.1 C.2.1 dX9_lane_91 (by decide) (by rw [lv_osw c91_1 (by decide), lv_osw c91_2 (by decide)]; try rfl) (by decide) ?_
          refine lv_bipush (v := (20 : Int32)) C.1 C.2.1 dX9_lane_122 (by decide) ?_
          refine lv_aload C.1 C.2.1 dX9_lane_124 (lv_at hl 2 rfl) ?_
          refine lv_iload_n C.1 C.2.1 dX9_lane_126 rfl (lv_at hl 5 rfl) ?_
          obtain ⟨r127, hc127, hf⟩ := bd_some hf
          refine cV_go (runRVc (As := [_]) C hK hP hZ hS wv_X9_203 hl (kc_X6_lineOf l D cA ad _ η F _ _ _ hv5 r127 hc127) (rcR hK hP hv5) rfl rfl rfl (Nat.le_of_ble_eq_true rfl) ⟨Nat.le_refl _, Nat.le_refl _⟩ dX9_lane_127) ?_
          refine lv_imul C.1 C.2.1 dX9_lane_130 ?_
          refine lv_iconst (v := (2 : Int32)) C.1 C.2.1 dX9_lane_131 (by decide) ?_
          refine lv_iload C.1 C.2.1 dX9_lane_132 (lv_at hl 1 rfl) ?_
          refine lv_imul C.1 C.2.1 dX9_lane_134 ?_
          refine lv_iload C.1 C.2.1 dX9_lane_135 (lv_at hl 0 rfl) ?_
          refine lv_iconst (v := (1 : Int32)) C.1 C.2.1 dX9_lane_137 (by decide) ?_
          refine lv_isub C.1 C.2.1 dX9_lane_138 ?_
          refine lv_isub C.1 C.2.1 dX9_lane_139 ?_
          refine lv_iconst (v := (4 : Int32)) C.1 C.2.1 dX9_lane_140 (by decide) ?_
          refine lv_imul C.1 C.2.1 dX9_lane_141 ?_
          refine lv_iadd C.1 C.2.1 dX9_lane_142 ?_
          obtain ⟨rfl, rfl⟩ := Prod.mk.inj (Option.some.inj hf)
          exact KC.iret C hr hlk hK hAe hP hD hS rfl dX9_lane_143
        · have hf := br_p c42 hf
          refine lv_aload C.1 C.2.1 dX9_lane_45 (lv_at hl 0 rfl) ?_
          refine lv_iload_n C.1 C.2.1 dX9_lane_47 rfl (lv_at hl 3 rfl) ?_
          obtain ⟨r48, hc48, hf⟩ := bd_some hf
          refine cV_go (runRVc (As := [_]) C hK hP hZ hS wv_X9_187 hl (kc_X6_pullOf l D cA ad _ η F _ _ _ hv5 r48 hc48) (rcR hK hP hv5) rfl rfl rfl (Nat.le_of_ble_eq_true rfl) ⟨Nat.le_refl _, Nat.le_refl _⟩ dX9_lane_48) ?_
          obtain ⟨rfl, rfl⟩ := Prod.mk.inj (Option.some.inj hf)
          exact KC.iret C hr hlk hK hAe hP hD hS rfl dX9_lane_51
      · have hf := br_p c34 hf
        refine lv_sipush (v := (-1002 : Int32)) C.1 C.2.1 dX9_lane_37 (by decide) ?_
        obtain ⟨rfl, rfl⟩ := Prod.mk.inj (Option.some.inj hf)
        exact KC.iret C hr hlk hK hAe hP hD hS rfl dX9_lane_40
    · have hf := br_p c21 hf
      exact hB24 _ _ _ ls hP hD hS (lv_sub hl [] rfl) hf
def fc_X2_append_L29 (F : Nat) (σ : CSt) : Option (CSt) :=
  some σ
def fc_X2_append (F : Nat) (σ : CSt) (x1 : Int32) : Option (CSt) :=
  if (120 : Int32) ≤ (cs_tl σ) then (fc_X2_append_L29 F σ) else (gd (ix (cs_tl σ) 120 = true) (lt (sc_tb σ (cs_tl σ) x1) (fun σ18 => lt (cs_tl_s σ18 ((cs_tl σ18) + (1 : Int32))) (fun σ26 => fc_X2_append_L29 F σ26))))
set_option maxHeartbeats 4000000 in
set_option maxRecDepth 100000 in
theorem kc_X2_append (l : Launch) (D : va_G) (cA : Nat → ClassId) (ad : Nat → Nat) (σ0 : CSt) (η : HS) (F : Nat) (z1 : Int32) (σr : CSt) (hf : fc_X2_append F σ0 z1 = some σr) : KC l D cA ad σ0 η yX2_append cX2_append 2 none (rmk 0 0) [.ref (ad 42), .int z1] none σr := by
  refine KC.of (by decide) (Nat.le_of_ble_eq_true rfl) ?_
  intro p e s m below meth c A hAe hA C hr hlk hK hP hD hS hZ ls hl
  have hl : lv_has ls 2 [(0, .ref (ad 42)), (1, .int z1)] := hl
  have hB29 : ∀ (H : Heap) (locs : List Loc) (σ : CSt) (ls : Array Slot), HC D cA ad σ η H → va_D A (wC cA ad σ η) → va_S A s.heap H locs → lv_has ls 2 [] → fc_X2_append_L29 F σ = some σr → WC p l e 0 0 s m [.ref (ad 42), .int z1] below meth c none D cA ad σ0 η σr A H locs (F0 m 29 ls []) := by
    intro H locs σ ls hP hD hS hl hf
    unfold fc_X2_append_L29 at hf
    obtain rfl := Option.some.inj hf
    exact KC.vret C hr hlk hK hAe hP hD hS rfl dX2_append_29
  unfold fc_X2_append at hf
  refine lv_aload_n C.1 C.2.1 dX2_append_0 rfl (lv_at hl 0 rfl) ?_
  refine gc_tx_length C hK hP wf_X2_18 dX2_append_1 ?_
  refine lv_bipush (v := (120 : Int32)) C.1 C.2.1 dX2_append_4 (by decide) ?_
  refine lv_icmp_ge (tgt := 29) C.1 C.2.1 dX2_append_6 (by decide) (fun c6 => ?_) (fun c6 => ?_)
  · have hf := br_p c6 hf
    exact hB29 _ _ _ ls hP hD hS (lv_sub hl [] rfl) hf
  · have hf := br_n c6 hf
    refine lv_aload_n C.1 C.2.1 dX2_append_9 rfl (lv_at hl 0 rfl) ?_
    refine gc_tx_bytes C hK hP wf_X2_11 dX2_append_10 ?_
    refine lv_aload_n C.1 C.2.1 dX2_append_13 rfl (lv_at hl 0 rfl) ?_
    refine gc_tx_length C hK hP wf_X2_18 dX2_append_14 ?_
    refine lv_iload_n C.1 C.2.1 dX2_append_17 rfl (lv_at hl 1 rfl) ?_
    obtain ⟨hi18, hf⟩ := gd_some hf
    replace hf := lt_e hf
    refine uc_tb C hK hP hD hS hi18 dX2_append_18 (fun H locs hP hD hS => ?_)
    refine lv_aload_n C.1 C.2.1 dX2_append_19 rfl (lv_at hl 0 rfl) ?_
    refine lv_dup C.1 C.2.1 dX2_append_20 rfl ?_
    refine gc_tx_length C hK hP wf_X2_18 dX2_append_21 ?_
    refine lv_iconst (v := (1 : Int32)) C.1 C.2.1 dX2_append_24 (by decide) ?_
    refine lv_iadd C.1 C.2.1 dX2_append_25 ?_
    replace hf := lt_e hf
    refine pc_tx_length C hK hP hD hS wf_X2_18 dX2_append_26 (fun H locs hP hD hS => ?_)
    exact hB29 _ _ _ ls hP hD hS (lv_sub hl [] rfl) hf
def fc_X9_type (F : Nat) (σ : CSt) (x1 : Int32) : Option (Int32 × CSt) :=
  bd (fc_X9_isWithin F σ x1 (0 : Int32) (255 : Int32)) (fun r5 => if r5 = 0 then (some ((-1002 : Int32), σ)) else (if (cs_tl σ) < (120 : Int32) then (bd (fc_X2_append F σ x1) (fun σ36 => some ((cs_tl σ36), σ36))) else (some ((-1004 : Int32), σ))))
set_option maxHeartbeats 4000000 in
set_option maxRecDepth 100000 in
theorem kc_X9_type (l : Launch) (D : va_G) (cA : Nat → ClassId) (ad : Nat → Nat) (σ0 : CSt) (η : HS) (F : Nat) (z1 : Int32) (r : Int32) (σr : CSt) (hf : fc_X9_type F σ0 z1 = some (r, σr)) : KC l D cA ad σ0 η yX9_type cX9_type 2 (some .int) (rmk 1 22) [.ref (ad 0), .int z1] (some (.int r)) σr := by
  refine KC.of (by decide) (Nat.le_of_ble_eq_true rfl) ?_
  intro p e s m below meth c A hAe hA C hr hlk hK hP hD hS hZ ls hl
  have hl : lv_has ls 2 [(0, .ref (ad 0)), (1, .int z1)] := hl
  unfold fc_X9_type at hf
  refine lv_iload_n C.1 C.2.1 dX9_type_0 rfl (lv_at hl 1 rfl) ?_
  refine lv_iconst (v := (0 : Int32)) C.1 C.2.1 dX9_type_1 (by decide) ?_
  refine lv_sipush (v := (255 : Int32)) C.1 C.2.1 dX9_type_2 (by decide) ?_
  obtain ⟨r5, hc5, hf⟩ := bd_some hf
  refine cV_go (runRSc (As := [_, _, _]) C hK hP hZ hS wv_X9_74 hl (kc_X9_isWithin l D cA ad _ η F _ _ _  r5 hc5) rfl rfl rfl (Nat.le_of_ble_eq_true rfl) ⟨Nat.le_refl _, Nat.le_refl _⟩ dX9_type_5) ?_
  refine lv_if_ne (tgt := 15) C.1 C.2.1 dX9_type_8 (by decide) (fun c8 => ?_) (fun c8 => ?_)
  · have hf := br_n c8 hf
    refine lv_aload_n C.1 C.2.1 dX9_type_15 rfl (lv_at hl 0 rfl) ?_
    refine gc_R_text C hK hP wf_X9_40 dX9_type_16 ?_
    refine gc_tx_length C hK hP wf_X9_224 dX9_type_19 ?_
    refine lv_bipush (v := (120 : Int32)) C.1 C.2.1 dX9_type_22 (by decide) ?_
    refine lv_icmp_lt (tgt := 31) C.1 C.2.1 dX9_type_24 (by decide) (fun c24 => ?_) (fun c24 => ?_)
    · have hf := br_p c24 hf
      refine lv_aload_n C.1 C.2.1 dX9_type_31 rfl (lv_at hl 0 rfl) ?_
      refine gc_R_text C hK hP wf_X9_40 dX9_type_32 ?_
      refine lv_iload_n C.1 C.2.1 dX9_type_35 rfl (lv_at hl 1 rfl) ?_
      obtain ⟨σ36, hc36, hf⟩ := bd_some hf
      refine callCV (As := [_]) C hK hP hD hA hS hZ wv_X9_226 hl (kc_X2_append l D cA ad _ η F _  σ36 hc36) (rcC 42 3 hK hP rfl rfl) rfl rfl rfl (Nat.le_of_ble_eq_true rfl) ⟨Nat.le_refl _, Nat.le_refl _⟩ dX9_type_36 (fun H locs hP hD hS => ?_)
      refine lv_aload_n C.1 C.2.1 dX9_type_39 rfl (lv_at hl 0 rfl) ?_
      refine gc_R_text C hK hP wf_X9_40 dX9_type_40 ?_
      refine gc_tx_length C hK hP wf_X9_224 dX9_type_43 ?_
      obtain ⟨rfl, rfl⟩ := Prod.mk.inj (Option.some.inj hf)
      exact KC.iret C hr hlk hK hAe hP hD hS rfl dX9_type_46
    · have hf := br_n c24 hf
      refine lv_sipush (v := (-1004 : Int32)) C.1 C.2.1 dX9_type_27 (by decide) ?_
      obtain ⟨rfl, rfl⟩ := Prod.mk.inj (Option.some.inj hf)
      exact KC.iret C hr hlk hK hAe hP hD hS rfl dX9_type_30
  · have hf := br_p c8 hf
    refine lv_sipush (v := (-1002 : Int32)) C.1 C.2.1 dX9_type_11 (by decide) ?_
    obtain ⟨rfl, rfl⟩ := Prod.mk.inj (Option.some.inj hf)
    exact KC.iret C hr hlk hK hAe hP hD hS rfl dX9_type_14
def fc_X9_clearText (F : Nat) (σ : CSt) : Option (Int32 × CSt) :=
  lt (cs_tl σ) (fun x1_7 => lt (cs_tl_s σ (0 : Int32)) (fun σ13 => some (x1_7, σ13)))
set_option maxHeartbeats 4000000 in
set_option maxRecDepth 100000 in
theorem kc_X9_clearText (l : Launch) (D : va_G) (cA : Nat → ClassId) (ad : Nat → Nat) (σ0 : CSt) (η : HS) (F : Nat)  (r : Int32) (σr : CSt) (hf : fc_X9_clearText F σ0 = some (r, σr)) : KC l D cA ad σ0 η yX9_clearText cX9_clearText 2 (some .int) (rmk 0 0) [.ref (ad 0)] (some (.int r)) σr := by
  refine KC.of (by decide) (Nat.le_of_ble_eq_true rfl) ?_
  intro p e s m below meth c A hAe hA C hr hlk hK hP hD hS hZ ls hl
  have hl : lv_has ls 2 [(0, .ref (ad 0))] := hl
  unfold fc_X9_clearText at hf
  refine lv_aload_n C.1 C.2.1 dX9_clearText_0 rfl (lv_at hl 0 rfl) ?_
  refine gc_R_text C hK hP wf_X9_40 dX9_clearText_1 ?_
  refine gc_tx_length C hK hP wf_X9_224 dX9_clearText_4 ?_
  obtain ⟨x1_7, ex1_7, hf⟩ := lt_some hf
  refine lv_tope ex1_7 ?_
  refine lv_istore_n (lv' := [(1, .int x1_7), (0, .ref (ad 0))]) C.1 C.2.1 dX9_clearText_7 rfl hl (by decide) rfl (fun ls hl => ?_)
  refine lv_aload_n C.1 C.2.1 dX9_clearText_8 rfl (lv_at hl 1 rfl) ?_
  refine gc_R_text C hK hP wf_X9_40 dX9_clearText_9 ?_
  refine lv_iconst (v := (0 : Int32)) C.1 C.2.1 dX9_clearText_12 (by decide) ?_
  replace hf := lt_e hf
  refine pc_tx_length C hK hP hD hS wf_X9_224 dX9_clearText_13 (fun H locs hP hD hS => ?_)
  refine lv_iload_n C.1 C.2.1 dX9_clearText_16 rfl (lv_at hl 0 rfl) ?_
  obtain ⟨rfl, rfl⟩ := Prod.mk.inj (Option.some.inj hf)
  exact KC.iret C hr hlk hK hAe hP hD hS rfl dX9_clearText_17
def fc_X2_rewind (F : Nat) (σ : CSt) : Option (CSt) :=
  lt (cs_tc_s σ (0 : Int32)) (fun σ2 => lt (cs_te_s σ2 (0 : Int32)) (fun σ7 => lt (cs_tf_s σ7 (-1000 : Int32)) (fun σ14 => some σ14)))
set_option maxHeartbeats 4000000 in
set_option maxRecDepth 100000 in
theorem kc_X2_rewind (l : Launch) (D : va_G) (cA : Nat → ClassId) (ad : Nat → Nat) (σ0 : CSt) (η : HS) (F : Nat)  (σr : CSt) (hf : fc_X2_rewind F σ0 = some σr) : KC l D cA ad σ0 η yX2_rewind cX2_rewind 1 none (rmk 0 0) [.ref (ad 42)] none σr := by
  refine KC.of (by decide) (Nat.le_of_ble_eq_true rfl) ?_
  intro p e s m below meth c A hAe hA C hr hlk hK hP hD hS hZ ls hl
  have hl : lv_has ls 1 [(0, .ref (ad 42))] := hl
  unfold fc_X2_rewind at hf
  refine lv_aload_n C.1 C.2.1 dX2_rewind_0 rfl (lv_at hl 0 rfl) ?_
  refine lv_iconst (v := (0 : Int32)) C.1 C.2.1 dX2_rewind_1 (by decide) ?_
  replace hf := lt_e hf
  refine pc_tx_cursor C hK hP hD hS wf_X2_32 dX2_rewind_2 (fun H locs hP hD hS => ?_)
  refine lv_aload_n C.1 C.2.1 dX2_rewind_5 rfl (lv_at hl 0 rfl) ?_
  refine lv_iconst (v := (0 : Int32)) C.1 C.2.1 dX2_rewind_6 (by decide) ?_
  replace hf := lt_e hf
  refine pc_tx_hasEnded C hK hP hD hS (by decide) wf_X2_35 dX2_rewind_7 (fun H locs hP hD hS => ?_)
  refine lv_aload_n C.1 C.2.1 dX2_rewind_10 rfl (lv_at hl 0 rfl) ?_
  refine lv_sipush (v := (-1000 : Int32)) C.1 C.2.1 dX2_rewind_11 (by decide) ?_
  replace hf := lt_e hf
  refine pc_tx_fault C hK hP hD hS wf_X2_29 dX2_rewind_14 (fun H locs hP hD hS => ?_)
  obtain rfl := Option.some.inj hf
  exact KC.vret C hr hlk hK hAe hP hD hS rfl dX2_rewind_17
def fc_X2_skipBlanks_L38 (F : Nat) (σ : CSt) : Option (CSt) :=
  some σ
def fc_X2_skipBlanks_L0_c (F : Nat) (k0 : CSt → Option (CSt)) (σ : CSt) : Option (CSt) :=
  if (cs_tl σ) ≤ (cs_tc σ) then (fc_X2_skipBlanks_L38 F σ) else (gd (ix (cs_tc σ) 120 = true) (if (cs_tb σ (cs_tc σ).toNatClampNeg) = (32 : Int32) then (lt (cs_tc_s σ ((cs_tc σ) + (1 : Int32))) (fun σ32 => k0 σ32)) else (fc_X2_skipBlanks_L38 F σ)))
def fc_X2_skipBlanks_L0 (F : Nat) (n : Nat) (σ : CSt) : Option (CSt) := lpN (fun (k : CSt → Option (CSt)) a => fc_X2_skipBlanks_L0_c F (fun σ => k (σ)) a) n (σ)
def fc_X2_skipBlanks (F : Nat) (σ : CSt) : Option (CSt) :=
  fc_X2_skipBlanks_L0 F F σ
set_option maxHeartbeats 4000000 in
set_option maxRecDepth 100000 in
theorem kc_X2_skipBlanks (l : Launch) (D : va_G) (cA : Nat → ClassId) (ad : Nat → Nat) (σ0 : CSt) (η : HS) (F : Nat)  (σr : CSt) (hf : fc_X2_skipBlanks F σ0 = some σr) : KC l D cA ad σ0 η yX2_skipBlanks cX2_skipBlanks 1 none (rmk 0 0) [.ref (ad 42)] none σr := by
  refine KC.of (by decide) (Nat.le_of_ble_eq_true rfl) ?_
  intro p e s m below meth c A hAe hA C hr hlk hK hP hD hS hZ ls hl
  have hl : lv_has ls 1 [(0, .ref (ad 42))] := hl
  have hB38 : ∀ (H : Heap) (locs : List Loc) (σ : CSt) (ls : Array Slot), HC D cA ad σ η H → va_D A (wC cA ad σ η) → va_S A s.heap H locs → lv_has ls 1 [] → fc_X2_skipBlanks_L38 F σ = some σr → WC p l e 0 0 s m [.ref (ad 42)] below meth c none D cA ad σ0 η σr A H locs (F0 m 38 ls []) := by
    intro H locs σ ls hP hD hS hl hf
    unfold fc_X2_skipBlanks_L38 at hf
    obtain rfl := Option.some.inj hf
    exact KC.vret C hr hlk hK hAe hP hD hS rfl dX2_skipBlanks_38
  have hB0 : ∀ (n0 : Nat) (H : Heap) (locs : List Loc) (σ : CSt) (ls : Array Slot), HC D cA ad σ η H → va_D A (wC cA ad σ η) → va_S A s.heap H locs → lv_has ls 1 [(0, .ref (ad 42))] → fc_X2_skipBlanks_L0 F n0 σ = some σr → WC p l e 0 0 s m [.ref (ad 42)] below meth c none D cA ad σ0 η σr A H locs (F0 m 0 ls []) := by
    intro n0
    induction n0 with
    | zero =>
      intro H locs σ ls hP hD hS hl hf
      cases (show (none : Option _) = _ from hf)
    | succ n0 ih0 =>
      intro H locs σ ls hP hD hS hl hf
      have hf : fc_X2_skipBlanks_L0_c F (fc_X2_skipBlanks_L0 F n0) σ = some σr := hf
      unfold fc_X2_skipBlanks_L0_c at hf
      refine lv_aload_n C.1 C.2.1 dX2_skipBlanks_0 rfl (lv_at hl 0 rfl) ?_
      refine gc_tx_cursor C hK hP wf_X2_32 dX2_skipBlanks_1 ?_
      refine lv_aload_n C.1 C.2.1 dX2_skipBlanks_4 rfl (lv_at hl 0 rfl) ?_
      refine gc_tx_length C hK hP wf_X2_18 dX2_skipBlanks_5 ?_
      refine lv_icmp_ge (tgt := 38) C.1 C.2.1 dX2_skipBlanks_8 (by decide) (fun c8 => ?_) (fun c8 => ?_)
      · have hf := br_p c8 hf
        exact hB38 _ _ _ ls hP hD hS (lv_sub hl [] rfl) hf
      · have hf := br_n c8 hf
        refine lv_aload_n C.1 C.2.1 dX2_skipBlanks_11 rfl (lv_at hl 0 rfl) ?_
        refine gc_tx_bytes C hK hP wf_X2_11 dX2_skipBlanks_12 ?_
        refine lv_aload_n C.1 C.2.1 dX2_skipBlanks_15 rfl (lv_at hl 0 rfl) ?_
        refine gc_tx_cursor C hK hP wf_X2_32 dX2_skipBlanks_16 ?_
        obtain ⟨hi19, hf⟩ := gd_some hf
        refine lc_tb C hK hP hi19 dX2_skipBlanks_19 ?_
        refine lv_bipush (v := (32 : Int32)) C.1 C.2.1 dX2_skipBlanks_20 (by decide) ?_
        refine lv_icmp_ne (tgt := 38) C.1 C.2.1 dX2_skipBlanks_22 (by decide) (fun c22 => ?_) (fun c22 => ?_)
        · have hf := br_n c22 hf
          exact hB38 _ _ _ ls hP hD hS (lv_sub hl [] rfl) hf
        · have hf := br_p c22 hf
          refine lv_aload_n C.1 C.2.1 dX2_skipBlanks_25 rfl (lv_at hl 0 rfl) ?_
          refine lv_dup C.1 C.2.1 dX2_skipBlanks_26 rfl ?_
          refine gc_tx_cursor C hK hP wf_X2_32 dX2_skipBlanks_27 ?_
          refine lv_iconst (v := (1 : Int32)) C.1 C.2.1 dX2_skipBlanks_30 (by decide) ?_
          refine lv_iadd C.1 C.2.1 dX2_skipBlanks_31 ?_
          replace hf := lt_e hf
          refine pc_tx_cursor C hK hP hD hS wf_X2_32 dX2_skipBlanks_32 (fun H locs hP hD hS => ?_)
          refine lv_goto (tgt := 0) C.1 C.2.1 dX2_skipBlanks_35 (by decide) ?_
          exact ih0 _ _ _ ls hP hD hS (lv_sub hl [0] rfl) hf
  unfold fc_X2_skipBlanks at hf
  exact hB0 F _ _ _ ls hP hD hS (lv_sub hl [0] rfl) hf
def fc_X2_readNumber_L99 (F : Nat) (σ : CSt) (x1 : Int32) : Option (Int32 × CSt) :=
  lt (cs_tf_s σ x1) (fun σ101 => some ((-1 : Int32), σ101))
def fc_X2_readNumber_L81 (F : Nat) (σ : CSt) (x1 : Int32) (x2 : Int32) : Option (Int32 × CSt) :=
  if (cs_tc σ) = x1 then (fc_X2_readNumber_L99 F σ x1) else (if ((cs_tc σ) - x1) ≤ (3 : Int32) then (some (x2, σ)) else (fc_X2_readNumber_L99 F σ x1))
def fc_X2_readNumber_L11_c (F : Nat) (k11 : CSt → Int32 → Int32 → Option (Int32 × CSt)) (σ : CSt) (x1 : Int32) (x2 : Int32) : Option (Int32 × CSt) :=
  if (cs_tl σ) ≤ (cs_tc σ) then (fc_X2_readNumber_L81 F σ x1 x2) else (gd (ix (cs_tc σ) 120 = true) (if (cs_tb σ (cs_tc σ).toNatClampNeg) < (48 : Int32) then (fc_X2_readNumber_L81 F σ x1 x2) else (gd (ix (cs_tc σ) 120 = true) (if (57 : Int32) < (cs_tb σ (cs_tc σ).toNatClampNeg) then (fc_X2_readNumber_L81 F σ x1 x2) else (gd (ix (cs_tc σ) 120 = true) (lt (((10 : Int32) * x2) + ((cs_tb σ (cs_tc σ).toNatClampNeg) - (48 : Int32))) (fun x2_67 => lt (cs_tc_s σ ((cs_tc σ) + (1 : Int32))) (fun σ75 => k11 σ75 x1 x2_67))))))))
def fc_X2_readNumber_L11 (F : Nat) (n : Nat) (σ : CSt) (x1 : Int32) (x2 : Int32) : Option (Int32 × CSt) := lpN (fun (k : CSt × Int32 × Int32 → Option (Int32 × CSt)) a => fc_X2_readNumber_L11_c F (fun σ x1 x2 => k (σ, x1, x2)) a.1 a.2.1 a.2.2) n (σ, x1, x2)
def fc_X2_readNumber (F : Nat) (σ : CSt) : Option (Int32 × CSt) :=
  bd (fc_X2_skipBlanks F σ) (fun σ1 => lt (cs_tc σ1) (fun x1_8 => fc_X2_readNumber_L11 F F σ1 x1_8 (0 : Int32)))
set_option maxHeartbeats 4000000 in
set_option maxRecDepth 100000 in
theorem kc_X2_readNumber (l : Launch) (D : va_G) (cA : Nat → ClassId) (ad : Nat → Nat) (σ0 : CSt) (η : HS) (F : Nat)  (r : Int32) (σr : CSt) (hf : fc_X2_readNumber F σ0 = some (r, σr)) : KC l D cA ad σ0 η yX2_readNumber cX2_readNumber 3 (some .int) (rmk 1 20) [.ref (ad 42)] (some (.int r)) σr := by
  refine KC.of (by decide) (Nat.le_of_ble_eq_true rfl) ?_
  intro p e s m below meth c A hAe hA C hr hlk hK hP hD hS hZ ls hl
  have hl : lv_has ls 3 [(0, .ref (ad 42))] := hl
  have hB99 : ∀ (H : Heap) (locs : List Loc) (σ : CSt) (ls : Array Slot) (x1 : Int32), HC D cA ad σ η H → va_D A (wC cA ad σ η) → va_S A s.heap H locs → lv_has ls 3 [(0, .ref (ad 42)), (1, .int x1)] → fc_X2_readNumber_L99 F σ x1 = some (r, σr) → WC p l e 1 20 s m [.ref (ad 42)] below meth c (some (.int r)) D cA ad σ0 η σr A H locs (F0 m 99 ls []) := by
    intro H locs σ ls x1 hP hD hS hl hf
    unfold fc_X2_readNumber_L99 at hf
    refine lv_aload_n C.1 C.2.1 dX2_readNumber_99 rfl (lv_at hl 0 rfl) ?_
    refine lv_iload_n C.1 C.2.1 dX2_readNumber_100 rfl (lv_at hl 1 rfl) ?_
    replace hf := lt_e hf
    refine pc_tx_fault C hK hP hD hS wf_X2_29 dX2_readNumber_101 (fun H locs hP hD hS => ?_)
    refine lv_iconst (v := (-1 : Int32)) C.1 C.2.1 dX2_readNumber_104 (by decide) ?_
    obtain ⟨rfl, rfl⟩ := Prod.mk.inj (Option.some.inj hf)
    exact KC.iret C hr hlk hK hAe hP hD hS rfl dX2_readNumber_105
  have hB81 : ∀ (H : Heap) (locs : List Loc) (σ : CSt) (ls : Array Slot) (x1 : Int32) (x2 : Int32), HC D cA ad σ η H → va_D A (wC cA ad σ η) → va_S A s.heap H locs → lv_has ls 3 [(0, .ref (ad 42)), (1, .int x1), (2, .int x2)] → fc_X2_readNumber_L81 F σ x1 x2 = some (r, σr) → WC p l e 1 20 s m [.ref (ad 42)] below meth c (some (.int r)) D cA ad σ0 η σr A H locs (F0 m 81 ls []) := by
    intro H locs σ ls x1 x2 hP hD hS hl hf
    unfold fc_X2_readNumber_L81 at hf
    refine lv_aload_n C.1 C.2.1 dX2_readNumber_81 rfl (lv_at hl 0 rfl) ?_
    refine gc_tx_cursor C hK hP wf_X2_32 dX2_readNumber_82 ?_
    refine lv_iload_n C.1 C.2.1 dX2_readNumber_85 rfl (lv_at hl 1 rfl) ?_
    refine lv_icmp_eq (tgt := 99) C.1 C.2.1 dX2_readNumber_86 (by decide) (fun c86 => ?_) (fun c86 => ?_)
    · have hf := br_p c86 hf
      exact hB99 _ _ _ ls _ hP hD hS (lv_sub hl [0, 1] rfl) hf
    · have hf := br_n c86 hf
      refine lv_aload_n C.1 C.2.1 dX2_readNumber_89 rfl (lv_at hl 0 rfl) ?_
      refine gc_tx_cursor C hK hP wf_X2_32 dX2_readNumber_90 ?_
      refine lv_iload_n C.1 C.2.1 dX2_readNumber_93 rfl (lv_at hl 1 rfl) ?_
      refine lv_isub C.1 C.2.1 dX2_readNumber_94 ?_
      refine lv_iconst (v := (3 : Int32)) C.1 C.2.1 dX2_readNumber_95 (by decide) ?_
      refine lv_icmp_le (tgt := 106) C.1 C.2.1 dX2_readNumber_96 (by decide) (fun c96 => ?_) (fun c96 => ?_)
      · have hf := br_p c96 hf
        refine lv_iload_n C.1 C.2.1 dX2_readNumber_106 rfl (lv_at hl 2 rfl) ?_
        obtain ⟨rfl, rfl⟩ := Prod.mk.inj (Option.some.inj hf)
        exact KC.iret C hr hlk hK hAe hP hD hS rfl dX2_readNumber_107
      · have hf := br_n c96 hf
        exact hB99 _ _ _ ls _ hP hD hS (lv_sub hl [0, 1] rfl) hf
  have hB11 : ∀ (n11 : Nat) (H : Heap) (locs : List Loc) (σ : CSt) (ls : Array Slot) (x1 : Int32) (x2 : Int32), HC D cA ad σ η H → va_D A (wC cA ad σ η) → va_S A s.heap H locs → lv_has ls 3 [(0, .ref (ad 42)), (1, .int x1), (2, .int x2)] → fc_X2_readNumber_L11 F n11 σ x1 x2 = some (r, σr) → WC p l e 1 20 s m [.ref (ad 42)] below meth c (some (.int r)) D cA ad σ0 η σr A H locs (F0 m 11 ls []) := by
    intro n11
    induction n11 with
    | zero =>
      intro H locs σ ls x1 x2 hP hD hS hl hf
      cases (show (none : Option _) = _ from hf)
    | succ n11 ih11 =>
      intro H locs σ ls x1 x2 hP hD hS hl hf
      have hf : fc_X2_readNumber_L11_c F (fc_X2_readNumber_L11 F n11) σ x1 x2 = some (r, σr) := hf
      unfold fc_X2_readNumber_L11_c at hf
      refine lv_aload_n C.1 C.2.1 dX2_readNumber_11 rfl (lv_at hl 0 rfl) ?_
      refine gc_tx_cursor C hK hP wf_X2_32 dX2_readNumber_12 ?_
      refine lv_aload_n C.1 C.2.1 dX2_readNumber_15 rfl (lv_at hl 0 rfl) ?_
      refine gc_tx_length C hK hP wf_X2_18 dX2_readNumber_16 ?_
      refine lv_icmp_ge (tgt := 81) C.1 C.2.1 dX2_readNumber_19 (by decide) (fun c19 => ?_) (fun c19 => ?_)
      · have hf := br_p c19 hf
        exact hB81 _ _ _ ls _ _ hP hD hS (lv_sub hl [0, 1, 2] rfl) hf
      · have hf := br_n c19 hf
        refine lv_aload_n C.1 C.2.1 dX2_readNumber_22 rfl (lv_at hl 0 rfl) ?_
        refine gc_tx_bytes C hK hP wf_X2_11 dX2_readNumber_23 ?_
        refine lv_aload_n C.1 C.2.1 dX2_readNumber_26 rfl (lv_at hl 0 rfl) ?_
        refine gc_tx_cursor C hK hP wf_X2_32 dX2_readNumber_27 ?_
        obtain ⟨hi30, hf⟩ := gd_some hf
        refine lc_tb C hK hP hi30 dX2_readNumber_30 ?_
        refine lv_bipush (v := (48 : Int32)) C.1 C.2.1 dX2_readNumber_31 (by decide) ?_
        refine lv_icmp_lt (tgt := 81) C.1 C.2.1 dX2_readNumber_33 (by decide) (fun c33 => ?_) (fun c33 => ?_)
        · have hf := br_p c33 hf
          exact hB81 _ _ _ ls _ _ hP hD hS (lv_sub hl [0, 1, 2] rfl) hf
        · have hf := br_n c33 hf
          refine lv_aload_n C.1 C.2.1 dX2_readNumber_36 rfl (lv_at hl 0 rfl) ?_
          refine gc_tx_bytes C hK hP wf_X2_11 dX2_readNumber_37 ?_
          refine lv_aload_n C.1 C.2.1 dX2_readNumber_40 rfl (lv_at hl 0 rfl) ?_
          refine gc_tx_cursor C hK hP wf_X2_32 dX2_readNumber_41 ?_
          obtain ⟨hi44, hf⟩ := gd_some hf
          refine lc_tb C hK hP hi44 dX2_readNumber_44 ?_
          refine lv_bipush (v := (57 : Int32)) C.1 C.2.1 dX2_readNumber_45 (by decide) ?_
          refine lv_icmp_gt (tgt := 81) C.1 C.2.1 dX2_readNumber_47 (by decide) (fun c47 => ?_) (fun c47 => ?_)
          · have hf := br_p c47 hf
            exact hB81 _ _ _ ls _ _ hP hD hS (lv_sub hl [0, 1, 2] rfl) hf
          · have hf := br_n c47 hf
            refine lv_bipush (v := (10 : Int32)) C.1 C.2.1 dX2_readNumber_50 (by decide) ?_
            refine lv_iload_n C.1 C.2.1 dX2_readNumber_52 rfl (lv_at hl 2 rfl) ?_
            refine lv_imul C.1 C.2.1 dX2_readNumber_53 ?_
            refine lv_aload_n C.1 C.2.1 dX2_readNumber_54 rfl (lv_at hl 0 rfl) ?_
            refine gc_tx_bytes C hK hP wf_X2_11 dX2_readNumber_55 ?_
            refine lv_aload_n C.1 C.2.1 dX2_readNumber_58 rfl (lv_at hl 0 rfl) ?_
            refine gc_tx_cursor C hK hP wf_X2_32 dX2_readNumber_59 ?_
            obtain ⟨hi62, hf⟩ := gd_some hf
            refine lc_tb C hK hP hi62 dX2_readNumber_62 ?_
            refine lv_bipush (v := (48 : Int32)) C.1 C.2.1 dX2_readNumber_63 (by decide) ?_
            refine lv_isub C.1 C.2.1 dX2_readNumber_65 ?_
            refine lv_iadd C.1 C.2.1 dX2_readNumber_66 ?_
            obtain ⟨x2_67, ex2_67, hf⟩ := lt_some hf
            refine lv_tope ex2_67 ?_
            refine lv_istore_n (lv' := [(2, .int x2_67), (0, .ref (ad 42)), (1, .int x1)]) C.1 C.2.1 dX2_readNumber_67 rfl hl (by decide) rfl (fun ls hl => ?_)
            refine lv_aload_n C.1 C.2.1 dX2_readNumber_68 rfl (lv_at hl 1 rfl) ?_
            refine lv_dup C.1 C.2.1 dX2_readNumber_69 rfl ?_
            refine gc_tx_cursor C hK hP wf_X2_32 dX2_readNumber_70 ?_
            refine lv_iconst (v := (1 : Int32)) C.1 C.2.1 dX2_readNumber_73 (by decide) ?_
            refine lv_iadd C.1 C.2.1 dX2_readNumber_74 ?_
            replace hf := lt_e hf
            refine pc_tx_cursor C hK hP hD hS wf_X2_32 dX2_readNumber_75 (fun H locs hP hD hS => ?_)
            refine lv_goto (tgt := 11) C.1 C.2.1 dX2_readNumber_78 (by decide) ?_
            exact ih11 _ _ _ ls _ _ hP hD hS (lv_sub hl [1, 2, 0] rfl) hf
  unfold fc_X2_readNumber at hf
  refine lv_aload_n C.1 C.2.1 dX2_readNumber_0 rfl (lv_at hl 0 rfl) ?_
  obtain ⟨σ1, hc1, hf⟩ := bd_some hf
  refine callCV (As := []) C hK hP hD hA hS hZ wv_X2_55 hl (kc_X2_skipBlanks l D cA ad _ η F   σ1 hc1) (rcC 42 3 hK hP rfl rfl) rfl rfl rfl (Nat.le_of_ble_eq_true rfl) ⟨Nat.le_refl _, Nat.le_refl _⟩ dX2_readNumber_1 (fun H locs hP hD hS => ?_)
  refine lv_aload_n C.1 C.2.1 dX2_readNumber_4 rfl (lv_at hl 0 rfl) ?_
  refine gc_tx_cursor C hK hP wf_X2_32 dX2_readNumber_5 ?_
  obtain ⟨x1_8, ex1_8, hf⟩ := lt_some hf
  refine lv_tope ex1_8 ?_
  refine lv_istore_n (lv' := [(1, .int x1_8), (0, .ref (ad 42))]) C.1 C.2.1 dX2_readNumber_8 rfl hl (by decide) rfl (fun ls hl => ?_)
  refine lv_iconst (v := (0 : Int32)) C.1 C.2.1 dX2_readNumber_9 (by decide) ?_
  refine lv_istore_n (lv' := [(2, .int (0 : Int32)), (1, .int x1_8), (0, .ref (ad 42))]) C.1 C.2.1 dX2_readNumber_10 rfl hl (by decide) rfl (fun ls hl => ?_)
  exact hB11 F _ _ _ ls _ _ hP hD hS (lv_sub hl [2, 1, 0] rfl) hf
