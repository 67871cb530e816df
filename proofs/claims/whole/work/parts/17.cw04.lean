def fc_X2_readSeparator (F : Nat) (σ : CSt) : Option (Int32 × CSt) :=
  bd (fc_X2_skipBlanks F σ) (fun σ1 => if (cs_tc σ1) < (cs_tl σ1) then (gd (ix (cs_tc σ1) 120 = true) (if (cs_tb σ1 (cs_tc σ1).toNatClampNeg) = (59 : Int32) then (lt (cs_tc_s σ1 ((cs_tc σ1) + (1 : Int32))) (fun σ53 => some ((1 : Int32), σ53))) else (lt (cs_tf_s σ1 (cs_tc σ1)) (fun σ41 => some ((0 : Int32), σ41))))) else (lt (cs_te_s σ1 (1 : Int32)) (fun σ17 => some ((1 : Int32), σ17))))
set_option maxHeartbeats 4000000 in
set_option maxRecDepth 100000 in
theorem kc_X2_readSeparator (l : Launch) (D : va_G) (cA : Nat → ClassId) (ad : Nat → Nat) (σ0 : CSt) (η : HS) (F : Nat)  (r : Int32) (σr : CSt) (hf : fc_X2_readSeparator F σ0 = some (r, σr)) : KC l D cA ad σ0 η yX2_readSeparator cX2_readSeparator 1 (some .boolean) (rmk 1 20) [.ref (ad 42)] (some (.int r)) σr := by
  refine KC.of (by decide) (Nat.le_of_ble_eq_true rfl) ?_
  intro p e s m below meth c A hAe hA C hr hlk hK hP hD hS hZ ls hl
  have hl : lv_has ls 1 [(0, .ref (ad 42))] := hl
  unfold fc_X2_readSeparator at hf
  refine lv_aload_n C.1 C.2.1 dX2_readSeparator_0 rfl (lv_at hl 0 rfl) ?_
  obtain ⟨σ1, hc1, hf⟩ := bd_some hf
  refine callCV (As := []) C hK hP hD hA hS hZ wv_X2_55 hl (kc_X2_skipBlanks l D cA ad _ η F   σ1 hc1) (rcC 42 3 hK hP rfl rfl) rfl rfl rfl (Nat.le_of_ble_eq_true rfl) ⟨Nat.le_refl _, Nat.le_refl _⟩ dX2_readSeparator_1 (fun H locs hP hD hS => ?_)
  refine lv_aload_n C.1 C.2.1 dX2_readSeparator_4 rfl (lv_at hl 0 rfl) ?_
  refine gc_tx_cursor C hK hP wf_X2_32 dX2_readSeparator_5 ?_
  refine lv_aload_n C.1 C.2.1 dX2_readSeparator_8 rfl (lv_at hl 0 rfl) ?_
  refine gc_tx_length C hK hP wf_X2_18 dX2_readSeparator_9 ?_
  refine lv_icmp_lt (tgt := 22) C.1 C.2.1 dX2_readSeparator_12 (by decide) (fun c12 => ?_) (fun c12 => ?_)
  · have hf := br_p c12 hf
    refine lv_aload_n C.1 C.2.1 dX2_readSeparator_22 rfl (lv_at hl 0 rfl) ?_
    refine gc_tx_bytes C hK hP wf_X2_11 dX2_readSeparator_23 ?_
    refine lv_aload_n C.1 C.2.1 dX2_readSeparator_26 rfl (lv_at hl 0 rfl) ?_
    refine gc_tx_cursor C hK hP wf_X2_32 dX2_readSeparator_27 ?_
    obtain ⟨hi30, hf⟩ := gd_some hf
    refine lc_tb C hK hP hi30 dX2_readSeparator_30 ?_
    refine lv_bipush (v := (59 : Int32)) C.1 C.2.1 dX2_readSeparator_31 (by decide) ?_
    refine lv_icmp_eq (tgt := 46) C.1 C.2.1 dX2_readSeparator_33 (by decide) (fun c33 => ?_) (fun c33 => ?_)
    · have hf := br_p c33 hf
      refine lv_aload_n C.1 C.2.1 dX2_readSeparator_46 rfl (lv_at hl 0 rfl) ?_
      refine lv_dup C.1 C.2.1 dX2_readSeparator_47 rfl ?_
      refine gc_tx_cursor C hK hP wf_X2_32 dX2_readSeparator_48 ?_
      refine lv_iconst (v := (1 : Int32)) C.1 C.2.1 dX2_readSeparator_51 (by decide) ?_
      refine lv_iadd C.1 C.2.1 dX2_readSeparator_52 ?_
      replace hf := lt_e hf
      refine pc_tx_cursor C hK hP hD hS wf_X2_32 dX2_readSeparator_53 (fun H locs hP hD hS => ?_)
      refine lv_iconst (v := (1 : Int32)) C.1 C.2.1 dX2_readSeparator_56 (by decide) ?_
      obtain ⟨rfl, rfl⟩ := Prod.mk.inj (Option.some.inj hf)
      exact KC.zret C hr hlk hK hAe hP hD hS (by decide) rfl dX2_readSeparator_57
    · have hf := br_n c33 hf
      refine lv_aload_n C.1 C.2.1 dX2_readSeparator_36 rfl (lv_at hl 0 rfl) ?_
      refine lv_aload_n C.1 C.2.1 dX2_readSeparator_37 rfl (lv_at hl 0 rfl) ?_
      refine gc_tx_cursor C hK hP wf_X2_32 dX2_readSeparator_38 ?_
      replace hf := lt_e hf
      refine pc_tx_fault C hK hP hD hS wf_X2_29 dX2_readSeparator_41 (fun H locs hP hD hS => ?_)
      refine lv_iconst (v := (0 : Int32)) C.1 C.2.1 dX2_readSeparator_44 (by decide) ?_
      obtain ⟨rfl, rfl⟩ := Prod.mk.inj (Option.some.inj hf)
      exact KC.zret C hr hlk hK hAe hP hD hS (by decide) rfl dX2_readSeparator_45
  · have hf := br_n c12 hf
    refine lv_aload_n C.1 C.2.1 dX2_readSeparator_15 rfl (lv_at hl 0 rfl) ?_
    refine lv_iconst (v := (1 : Int32)) C.1 C.2.1 dX2_readSeparator_16 (by decide) ?_
    replace hf := lt_e hf
    refine pc_tx_hasEnded C hK hP hD hS (by decide) wf_X2_35 dX2_readSeparator_17 (fun H locs hP hD hS => ?_)
    refine lv_iconst (v := (1 : Int32)) C.1 C.2.1 dX2_readSeparator_20 (by decide) ?_
    obtain ⟨rfl, rfl⟩ := Prod.mk.inj (Option.some.inj hf)
    exact KC.zret C hr hlk hK hAe hP hD hS (by decide) rfl dX2_readSeparator_21
def fc_X9_isError_L12 (F : Nat) (σ : CSt) (s0 : Int32) : Option (Int32) :=
  gd (s0 = 0 ∨ s0 = 1) (some s0)
def fc_X9_isError (F : Nat) (σ : CSt) (x0 : Int32) : Option (Int32) :=
  if (-1000 : Int32) ≤ x0 then (fc_X9_isError_L12 F σ (0 : Int32)) else (fc_X9_isError_L12 F σ (1 : Int32))
set_option maxHeartbeats 4000000 in
set_option maxRecDepth 100000 in
theorem kc_X9_isError (l : Launch) (D : va_G) (cA : Nat → ClassId) (ad : Nat → Nat) (σ : CSt) (η : HS) (F : Nat) (z0 : Int32) (r : Int32) (hf : fc_X9_isError F σ z0 = some r) : KRc l D cA ad σ η yX9_isError cX9_isError 1 (some .boolean) (rmk 0 0) [.int z0] (QcV (.int r)) := by
  refine KRc.of (by decide) (Nat.le_of_ble_eq_true rfl) ?_
  intro p e s m below meth c C hr hlk hK hP hZ ls hl
  have hS : va_S NoA s.heap s.heap [] := va_S.rf
  have hl : lv_has ls 1 [(0, .int z0)] := hl
  have hB12 : ∀ (ls : Array Slot) (s0 : Int32), lv_has ls 1 [] → fc_X9_isError_L12 F σ s0 = some r → WRc p l e 0 0 s m [.int z0] below meth c (QcV (.int r)) (F0 m 12 ls [.int s0]) := by
    intro ls s0 hl hf
    unfold fc_X9_isError_L12 at hf
    obtain ⟨hz12, hf⟩ := gd_some hf
    exact KRc.zret C hr hlk hz12 (Option.some.inj hf) dX9_isError_12
  unfold fc_X9_isError at hf
  refine lv_iload_n C.1 C.2.1 dX9_isError_0 rfl (lv_at hl 0 rfl) ?_
  refine lv_sipush (v := (-1000 : Int32)) C.1 C.2.1 dX9_isError_1 (by decide) ?_
  refine lv_icmp_ge (tgt := 11) C.1 C.2.1 dX9_isError_4 (by decide) (fun c4 => ?_) (fun c4 => ?_)
  · have hf := br_p c4 hf
    refine lv_iconst (v := (0 : Int32)) C.1 C.2.1 dX9_isError_11 (by decide) ?_
    exact hB12 ls _ (lv_sub hl [] rfl) hf
  · have hf := br_n c4 hf
    refine lv_iconst (v := (1 : Int32)) C.1 C.2.1 dX9_isError_7 (by decide) ?_
    refine lv_goto (tgt := 12) C.1 C.2.1 dX9_isError_8 (by decide) ?_
    exact hB12 ls _ (lv_sub hl [] rfl) hf
def fc_X6_hashOnto_L27_c (F : Nat) (σ : CSt) (k27 : RV → Int64 → Int32 → Option (Int64)) (vx0 : RV) (x3 : Int64) (x5 : Int32) : Option (Int64) :=
  bd (fc_X6_corners F σ vx0) (fun r30 => if r30 ≤ x5 then (some x3) else (gd (ix x5 (vx0.2.1) = true) (lt (((31 : Int64) * x3) + ((vx0.2.2.1 x5.toNatClampNeg).toInt64)) (fun x3_50 => gd (ix x5 (vx0.2.1) = true) (lt (((31 : Int64) * x3_50) + ((vx0.2.2.2 x5.toNatClampNeg).toInt64)) (fun x3_65 => lt (x5 + (1 : Int32)) (fun x5_66 => k27 vx0 x3_65 x5_66)))))))
def fc_X6_hashOnto_L27 (F : Nat) (σ : CSt) (n : Nat) (vx0 : RV) (x3 : Int64) (x5 : Int32) : Option (Int64) := lpN (fun (k : RV × Int64 × Int32 → Option (Int64)) a => fc_X6_hashOnto_L27_c F σ (fun vx0 x3 x5 => k (vx0, x3, x5)) a.1 a.2.1 a.2.2) n (vx0, x3, x5)
def fc_X6_hashOnto (F : Nat) (σ : CSt) (vx0 : RV) (x1 : Int64) : Option (Int64) :=
  lt (((31 : Int64) * x1) + ((vx0.1).toInt64)) (fun x3_11 => bd (fc_X6_corners F σ vx0) (fun r18 => lt (((31 : Int64) * x3_11) + (r18.toInt64)) (fun x3_23 => fc_X6_hashOnto_L27 F σ F vx0 x3_23 (0 : Int32))))
set_option maxHeartbeats 4000000 in
set_option maxRecDepth 100000 in
theorem kc_X6_hashOnto (l : Launch) (D : va_G) (cA : Nat → ClassId) (ad : Nat → Nat) (σ : CSt) (η : HS) (F : Nat) (az0 : Nat) (vz0 : RV) (z1 : Int64) (hvz0 : isRt cA η az0 vz0) (r : Int64) (hf : fc_X6_hashOnto F σ vz0 z1 = some r) : KRc l D cA ad σ η yX6_hashOnto cX6_hashOnto 6 (some .long) (rmk 1 20) [.ref az0, .long z1] (QcV (.long r)) := by
  refine KRc.of (by decide) (Nat.le_of_ble_eq_true rfl) ?_
  intro p e s m below meth c C hr hlk hK hP hZ ls hl
  have hS : va_S NoA s.heap s.heap [] := va_S.rf
  have hl : lv_has ls 6 [(0, .ref az0), (1, .long z1)] := hl
  have hB27 : ∀ (n27 : Nat) (ls : Array Slot) (ax0 : Nat) (vx0 : RV) (x3 : Int64) (x5 : Int32), isRt cA η ax0 vx0 → lv_has ls 6 [(0, .ref ax0), (3, .long x3), (5, .int x5)] → fc_X6_hashOnto_L27 F σ n27 vx0 x3 x5 = some r → WRc p l e 1 20 s m [.ref az0, .long z1] below meth c (QcV (.long r)) (F0 m 27 ls []) := by
    intro n27
    induction n27 with
    | zero =>
      intro ls ax0 vx0 x3 x5 hvx0 hl hf
      cases (show (none : Option _) = _ from hf)
    | succ n27 ih27 =>
      intro ls ax0 vx0 x3 x5 hvx0 hl hf
      have hf : fc_X6_hashOnto_L27_c F σ (fc_X6_hashOnto_L27 F σ n27) vx0 x3 x5 = some r := hf
      unfold fc_X6_hashOnto_L27_c at hf
      refine lv_iload C.1 C.2.1 dX6_hashOnto_27 (lv_at hl 2 rfl) ?_
      refine lv_aload_n C.1 C.2.1 dX6_hashOnto_29 rfl (lv_at hl 0 rfl) ?_
      obtain ⟨r30, hc30, hf⟩ := bd_some hf
      refine cV_go (runRVc (As := []) C hK hP hZ hS wv_X6_44 hl (kc_X6_corners l D cA ad _ η F _ _ hvx0 r30 hc30) (rcR hK hP hvx0) rfl rfl rfl (Nat.le_of_ble_eq_true rfl) ⟨Nat.le_refl _, Nat.le_refl _⟩ dX6_hashOnto_30) ?_
      refine lv_icmp_ge (tgt := 72) C.1 C.2.1 dX6_hashOnto_33 (by decide) (fun c33 => ?_) (fun c33 => ?_)
      · have hf := br_p c33 hf
        refine lv_lload_n C.1 C.2.1 dX6_hashOnto_72 rfl (lv_at hl 1 rfl) ?_
        exact KRc.lret C hr hlk (Option.some.inj hf) dX6_hashOnto_73
      · have hf := br_n c33 hf
        refine lv_ldc2 (v := (31 : Int64)) C.1 C.2.1 C.2.2.2.1 (C.2.2.2.2 _ wc_X6_54) dX6_hashOnto_36 ?_
        refine lv_lload_n C.1 C.2.1 dX6_hashOnto_39 rfl (lv_at hl 1 rfl) ?_
        refine lv_lmul C.1 C.2.1 dX6_hashOnto_40 ?_
        refine lv_aload_n C.1 C.2.1 dX6_hashOnto_41 rfl (lv_at hl 0 rfl) ?_
        refine gp_xs C hK hP hvx0 wf_X6_13 dX6_hashOnto_42 (fun q42 hq42 => ?_)
        refine lv_iload C.1 C.2.1 dX6_hashOnto_45 (lv_at hl 2 rfl) ?_
        obtain ⟨hi47, hf⟩ := gd_some hf
        refine lp_pa C hK hP hq42 hi47 dX6_hashOnto_47 ?_
        refine lv_i2l C.1 C.2.1 dX6_hashOnto_48 rfl ?_
        refine lv_ladd C.1 C.2.1 dX6_hashOnto_49 ?_
        obtain ⟨x3_50, ex3_50, hf⟩ := lt_some hf
        refine lv_topel ex3_50 ?_
        refine lv_lstore_n (lv' := [(3, .long x3_50), (0, .ref ax0), (5, .int x5)]) C.1 C.2.1 dX6_hashOnto_50 rfl hl (by decide) rfl (fun ls hl => ?_)
        refine lv_ldc2 (v := (31 : Int64)) C.1 C.2.1 C.2.2.2.1 (C.2.2.2.2 _ wc_X6_54) dX6_hashOnto_51 ?_
        refine lv_lload_n C.1 C.2.1 dX6_hashOnto_54 rfl (lv_at hl 0 rfl) ?_
        refine lv_lmul C.1 C.2.1 dX6_hashOnto_55 ?_
        refine lv_aload_n C.1 C.2.1 dX6_hashOnto_56 rfl (lv_at hl 1 rfl) ?_
        refine gp_ys C hK hP hvx0 wf_X6_17 dX6_hashOnto_57 (fun q57 hq57 => ?_)
        refine lv_iload C.1 C.2.1 dX6_hashOnto_60 (lv_at hl 2 rfl) ?_
        obtain ⟨hi62, hf⟩ := gd_some hf
        refine lp_pa C hK hP hq57 hi62 dX6_hashOnto_62 ?_
        refine lv_i2l C.1 C.2.1 dX6_hashOnto_63 rfl ?_
        refine lv_ladd C.1 C.2.1 dX6_hashOnto_64 ?_
        obtain ⟨x3_65, ex3_65, hf⟩ := lt_some hf
        refine lv_topel ex3_65 ?_
        refine lv_lstore_n (lv' := [(3, .long x3_65), (0, .ref ax0), (5, .int x5)]) C.1 C.2.1 dX6_hashOnto_65 rfl hl (by decide) rfl (fun ls hl => ?_)
        obtain ⟨x5_66, ex5_66, hf⟩ := lt_some hf
        refine lv_iinc (v := x5_66) (lv' := [(5, .int x5_66), (3, .long x3_65), (0, .ref ax0)]) C.1 C.2.1 dX6_hashOnto_66 hl (k := 2) rfl (by rw [ex5_66]; rfl) (by decide) rfl (fun ls hl => ?_)
        refine lv_goto (tgt := 27) C.1 C.2.1 dX6_hashOnto_69 (by decide) ?_
        exact ih27 ls _ _ _ _ hvx0 (lv_sub hl [2, 1, 0] rfl) hf
  unfold fc_X6_hashOnto at hf
  refine lv_ldc2 (v := (31 : Int64)) C.1 C.2.1 C.2.2.2.1 (C.2.2.2.2 _ wc_X6_54) dX6_hashOnto_0 ?_
  refine lv_lload_n C.1 C.2.1 dX6_hashOnto_3 rfl (lv_at hl 1 rfl) ?_
  refine lv_lmul C.1 C.2.1 dX6_hashOnto_4 ?_
  refine lv_aload_n C.1 C.2.1 dX6_hashOnto_5 rfl (lv_at hl 0 rfl) ?_
  refine gp_cost C hK hP hvz0 wf_X6_7 dX6_hashOnto_6 ?_
  refine lv_i2l C.1 C.2.1 dX6_hashOnto_9 rfl ?_
  refine lv_ladd C.1 C.2.1 dX6_hashOnto_10 ?_
  obtain ⟨x3_11, ex3_11, hf⟩ := lt_some hf
  refine lv_topel ex3_11 ?_
  refine lv_lstore_n (lv' := [(3, .long x3_11), (0, .ref az0), (1, .long z1)]) C.1 C.2.1 dX6_hashOnto_11 rfl hl (by decide) rfl (fun ls hl => ?_)
  refine lv_ldc2 (v := (31 : Int64)) C.1 C.2.1 C.2.2.2.1 (C.2.2.2.2 _ wc_X6_54) dX6_hashOnto_12 ?_
  refine lv_lload_n C.1 C.2.1 dX6_hashOnto_15 rfl (lv_at hl 0 rfl) ?_
  refine lv_lmul C.1 C.2.1 dX6_hashOnto_16 ?_
  refine lv_aload_n C.1 C.2.1 dX6_hashOnto_17 rfl (lv_at hl 1 rfl) ?_
  obtain ⟨r18, hc18, hf⟩ := bd_some hf
  refine cV_go (runRVc (As := []) C hK hP hZ hS wv_X6_44 hl (kc_X6_corners l D cA ad _ η F _ _ hvz0 r18 hc18) (rcR hK hP hvz0) rfl rfl rfl (Nat.le_of_ble_eq_true rfl) ⟨Nat.le_refl _, Nat.le_refl _⟩ dX6_hashOnto_18) ?_
  refine lv_i2l C.1 C.2.1 dX6_hashOnto_21 rfl ?_
  refine lv_ladd C.1 C.2.1 dX6_hashOnto_22 ?_
  obtain ⟨x3_23, ex3_23, hf⟩ := lt_some hf
  refine lv_topel ex3_23 ?_
  refine lv_lstore_n (lv' := [(3, .long x3_23), (0, .ref az0), (1, .long z1)]) C.1 C.2.1 dX6_hashOnto_23 rfl hl (by decide) rfl (fun ls hl => ?_)
  refine lv_iconst (v := (0 : Int32)) C.1 C.2.1 dX6_hashOnto_24 (by decide) ?_
  refine lv_istore (lv' := [(5, .int (0 : Int32)), (3, .long x3_23), (0, .ref az0), (1, .long z1)]) C.1 C.2.1 dX6_hashOnto_25 hl (by decide) rfl (fun ls hl => ?_)
  exact hB27 F ls _ _ _ _ hvz0 (lv_sub hl [2, 1, 0] rfl) hf
def fc_X9_digest_L178 (F : Nat) (σ : CSt) (k97 : Int64 → Int32 → Option (Int64)) (x3 : Int32) (s0 : Int64) : Option (Int64) :=
  lt (x3 + (1 : Int32)) (fun x3_179 => k97 s0 x3_179)
def fc_X9_digest_L111_c (F : Nat) (σ : CSt) (k97 : Int64 → Int32 → Option (Int64)) (k111 : Int64 → Int32 → Int32 → Option (Int64)) (x1 : Int64) (x3 : Int32) (x4 : Int32) : Option (Int64) :=
  if (6 : Int32) ≤ x4 then (gd (ix x3 10 = true) (mo (cs_cr σ x3.toNatClampNeg) (fc_X9_digest_L178 F σ k97 x3 ((31 : Int64) * x1)) (fun v150 => bd (fc_X6_hashOnto F σ v150 (((31 : Int64) * x1) + (1 : Int64))) (fun r175 => fc_X9_digest_L178 F σ k97 x3 r175)))) else (bd (fc_X1_portDetail F σ x3 x4) (fun r130 => lt (((31 : Int64) * x1) + (r130.toInt64)) (fun x1_135 => lt (x4 + (1 : Int32)) (fun x4_136 => k111 x1_135 x3 x4_136))))
def fc_X9_digest_L111 (F : Nat) (σ : CSt) (k97 : Int64 → Int32 → Option (Int64)) (n : Nat) (x1 : Int64) (x3 : Int32) (x4 : Int32) : Option (Int64) := lpN (fun (k : Int64 × Int32 × Int32 → Option (Int64)) a => fc_X9_digest_L111_c F σ k97 (fun x1 x3 x4 => k (x1, x3, x4)) a.1 a.2.1 a.2.2) n (x1, x3, x4)
def fc_X9_digest_L97_c (F : Nat) (σ : CSt) (k97 : Int64 → Int32 → Option (Int64)) (x1 : Int64) (x3 : Int32) : Option (Int64) :=
  if (cs_cc σ) ≤ x3 then (some x1) else (fc_X9_digest_L111 F σ k97 F x1 x3 (0 : Int32))
def fc_X9_digest_L97 (F : Nat) (σ : CSt) (n : Nat) (x1 : Int64) (x3 : Int32) : Option (Int64) := lpN (fun (k : Int64 × Int32 → Option (Int64)) a => fc_X9_digest_L97_c F σ (fun x1 x3 => k (x1, x3)) a.1 a.2) n (x1, x3)
def fc_X9_digest_L29_c (F : Nat) (σ : CSt) (k15 : Int64 → Int32 → Option (Int64)) (k29 : Int64 → Int32 → Int32 → Option (Int64)) (x1 : Int64) (x3 : Int32) (x4 : Int32) : Option (Int64) :=
  if (4 : Int32) ≤ x4 then (lt (x3 + (1 : Int32)) (fun x3_59 => k15 x1 x3_59)) else (bd (fc_X1_edge F σ x3 x4) (fun r47 => lt (((31 : Int64) * x1) + (r47.toInt64)) (fun x1_52 => lt (x4 + (1 : Int32)) (fun x4_53 => k29 x1_52 x3 x4_53))))
def fc_X9_digest_L29 (F : Nat) (σ : CSt) (k15 : Int64 → Int32 → Option (Int64)) (n : Nat) (x1 : Int64) (x3 : Int32) (x4 : Int32) : Option (Int64) := lpN (fun (k : Int64 × Int32 × Int32 → Option (Int64)) a => fc_X9_digest_L29_c F σ k15 (fun x1 x3 x4 => k (x1, x3, x4)) a.1 a.2.1 a.2.2) n (x1, x3, x4)
def fc_X9_digest_L15_c (F : Nat) (σ : CSt) (k15 : Int64 → Int32 → Option (Int64)) (x1 : Int64) (x3 : Int32) : Option (Int64) :=
  if (cs_cb σ) ≤ x3 then (lt (((31 : Int64) * x1) + ((cs_cp σ).toInt64)) (fun x1_79 => lt (((31 : Int64) * x1_79) + ((cs_cc σ).toInt64)) (fun x1_94 => fc_X9_digest_L97 F σ F x1_94 (0 : Int32)))) else (fc_X9_digest_L29 F σ k15 F x1 x3 (0 : Int32))
def fc_X9_digest_L15 (F : Nat) (σ : CSt) (n : Nat) (x1 : Int64) (x3 : Int32) : Option (Int64) := lpN (fun (k : Int64 × Int32 → Option (Int64)) a => fc_X9_digest_L15_c F σ (fun x1 x3 => k (x1, x3)) a.1 a.2) n (x1, x3)
def fc_X9_digest (F : Nat) (σ : CSt) : Option (Int64) :=
  lt ((589 : Int64) + ((cs_cb σ).toInt64)) (fun x1_12 => fc_X9_digest_L15 F σ F x1_12 (0 : Int32))
set_option maxHeartbeats 4000000 in
set_option maxRecDepth 100000 in
theorem kc_X9_digest (l : Launch) (D : va_G) (cA : Nat → ClassId) (ad : Nat → Nat) (σ : CSt) (η : HS) (F : Nat)  (r : Int64) (hf : fc_X9_digest F σ = some r) : KRc l D cA ad σ η yX9_digest cX9_digest 5 (some .long) (rmk 2 45) [.ref (ad 0)] (QcV (.long r)) := by
  refine KRc.of (by decide) (Nat.le_of_ble_eq_true rfl) ?_
  intro p e s m below meth c C hr hlk hK hP hZ ls hl
  have hS : va_S NoA s.heap s.heap [] := va_S.rf
  have hl : lv_has ls 5 [(0, .ref (ad 0))] := hl
  have hB97 : ∀ (n97 : Nat) (ls : Array Slot) (x1 : Int64) (x3 : Int32), lv_has ls 5 [(0, .ref (ad 0)), (1, .long x1), (3, .int x3)] → fc_X9_digest_L97 F σ n97 x1 x3 = some r → WRc p l e 2 45 s m [.ref (ad 0)] below meth c (QcV (.long r)) (F0 m 97 ls []) := by
    intro n97
    induction n97 with
    | zero =>
      intro ls x1 x3 hl hf
      cases (show (none : Option _) = _ from hf)
    | succ n97 ih97 =>
      have hB178 : ∀ (ls : Array Slot) (x3 : Int32) (s0 : Int64), lv_has ls 5 [(0, .ref (ad 0)), (3, .int x3)] → fc_X9_digest_L178 F σ (fc_X9_digest_L97 F σ n97) x3 s0 = some r → WRc p l e 2 45 s m [.ref (ad 0)] below meth c (QcV (.long r)) (F0 m 178 ls [.long s0]) := by
        intro ls x3 s0 hl hf
        unfold fc_X9_digest_L178 at hf
        refine lv_lstore_n (lv' := [(1, .long s0), (0, .ref (ad 0)), (3, .int x3)]) C.1 C.2.1 dX9_digest_178 rfl hl (by decide) rfl (fun ls hl => ?_)
        obtain ⟨x3_179, ex3_179, hf⟩ := lt_some hf
        refine lv_iinc (v := x3_179) (lv' := [(3, .int x3_179), (1, .long s0), (0, .ref (ad 0))]) C.1 C.2.1 dX9_digest_179 hl (k := 2) rfl (by rw [ex3_179]; rfl) (by decide) rfl (fun ls hl => ?_)
        refine lv_goto (tgt := 97) C.1 C.2.1 dX9_digest_182 (by decide) ?_
        exact ih97 ls _ _ (lv_sub hl [2, 1, 0] rfl) hf
      have hB111 : ∀ (n111 : Nat) (ls : Array Slot) (x1 : Int64) (x3 : Int32) (x4 : Int32), lv_has ls 5 [(0, .ref (ad 0)), (1, .long x1), (3, .int x3), (4, .int x4)] → fc_X9_digest_L111 F σ (fc_X9_digest_L97 F σ n97) n111 x1 x3 x4 = some r → WRc p l e 2 45 s m [.ref (ad 0)] below meth c (QcV (.long r)) (F0 m 111 ls []) := by
        intro n111
        induction n111 with
        | zero =>
          intro ls x1 x3 x4 hl hf
          cases (show (none : Option _) = _ from hf)
        | succ n111 ih111 =>
          intro ls x1 x3 x4 hl hf
          have hf : fc_X9_digest_L111_c F σ (fc_X9_digest_L97 F σ n97) (fc_X9_digest_L111 F σ (fc_X9_digest_L97 F σ n97) n111) x1 x3 x4 = some r := hf
          unfold fc_X9_digest_L111_c at hf
          refine lv_iload C.1 C.2.1 dX9_digest_111 (lv_at hl 3 rfl) ?_
          refine lv_bipush (v := (6 : Int32)) C.1 C.2.1 dX9_digest_113 (by decide) ?_
          refine lv_icmp_ge (tgt := 142) C.1 C.2.1 dX9_digest_115 (by decide) (fun c115 => ?_) (fun c115 => ?_)
          · have hf := br_p c115 hf
            refine lv_aload_n C.1 C.2.1 dX9_digest_142 rfl (lv_at hl 0 rfl) ?_
            refine gc_R_canvas C hK hP wf_X9_10 dX9_digest_143 ?_
            refine gc_cv_routes C hK hP wf_X9_103 dX9_digest_146 ?_
            refine lv_iload_n C.1 C.2.1 dX9_digest_149 rfl (lv_at hl 2 rfl) ?_
            obtain ⟨hi150, hf⟩ := gd_some hf
            refine lr_cr C hK hP hi150 dX9_digest_150 (fun hn150 => ?_) (fun a150 v150 he150 hv150 => ?_)
            · have hf := mo_n hn150 hf
              refine lv_astoreN (lv' := [(4, .null), (0, .ref (ad 0)), (1, .long x1), (3, .int x3)]) C.1 C.2.1 dX9_digest_151 hl (by decide) rfl (fun ls hl => ?_)
              refine lv_aloadN C.1 C.2.1 dX9_digest_153 (lv_at hl 0 rfl) ?_
              refine lv_ifnonnullN C.1 C.2.1 dX9_digest_155 ?_
              refine lv_ldc2 (v := (31 : Int64)) C.1 C.2.1 C.2.2.2.1 (C.2.2.2.2 _ wc_X9_264) dX9_digest_158 ?_
              refine lv_lload_n C.1 C.2.1 dX9_digest_161 rfl (lv_at hl 2 rfl) ?_
              refine lv_lmul C.1 C.2.1 dX9_digest_162 ?_
              refine lv_goto (tgt := 178) C.1 C.2.1 dX9_digest_163 (by decide) ?_
              exact hB178 ls _ _ (lv_sub hl [1, 3] rfl) hf
            · have hf := mo_s he150 hf
              refine lv_astore (lv' := [(4, .ref a150), (0, .ref (ad 0)), (1, .long x1), (3, .int x3)]) C.1 C.2.1 dX9_digest_151 hl (by decide) rfl (fun ls hl => ?_)
              refine lv_aload C.1 C.2.1 dX9_digest_153 (lv_at hl 0 rfl) ?_
              refine lv_ifnonnull (tgt := 166) C.1 C.2.1 dX9_digest_155 (by decide) ?_
              refine lv_aload C.1 C.2.1 dX9_digest_166 (lv_at hl 0 rfl) ?_
              refine lv_ldc2 (v := (31 : Int64)) C.1 C.2.1 C.2.2.2.1 (C.2.2.2.2 _ wc_X9_264) dX9_digest_168 ?_
              refine lv_lload_n C.1 C.2.1 dX9_digest_171 rfl (lv_at hl 2 rfl) ?_
              refine lv_lmul C.1 C.2.1 dX9_digest_172 ?_
              refine lv_lconst (v := (1 : Int64)) C.1 C.2.1 dX9_digest_173 rfl ?_
              refine lv_ladd C.1 C.2.1 dX9_digest_174 ?_
              obtain ⟨r175, hc175, hf⟩ := bd_some hf
              refine cV_go (runRVc (As := [_]) C hK hP hZ hS wv_X9_266 hl (kc_X6_hashOnto l D cA ad _ η F _ _ _ hv150 r175 hc175) (rcR hK hP hv150) rfl rfl rfl (Nat.le_of_ble_eq_true rfl) ⟨Nat.le_refl _, Nat.le_refl _⟩ dX9_digest_175) ?_
              exact hB178 ls _ _ (lv_sub hl [1, 3] rfl) hf
          · have hf := br_n c115 hf
            refine lv_ldc2 (v := (31 : Int64)) C.1 C.2.1 C.2.2.2.1 (C.2.2.2.2 _ wc_X9_264) dX9_digest_118 ?_
            refine lv_lload_n C.1 C.2.1 dX9_digest_121 rfl (lv_at hl 1 rfl) ?_
            refine lv_lmul C.1 C.2.1 dX9_digest_122 ?_
            refine lv_aload_n C.1 C.2.1 dX9_digest_123 rfl (lv_at hl 0 rfl) ?_
            refine gc_R_canvas C hK hP wf_X9_10 dX9_digest_124 ?_
            refine lv_iload_n C.1 C.2.1 dX9_digest_127 rfl (lv_at hl 2 rfl) ?_
            refine lv_iload C.1 C.2.1 dX9_digest_128 (lv_at hl 3 rfl) ?_
            obtain ⟨r130, hc130, hf⟩ := bd_some hf
            refine cV_go (runRVc (As := [_, _]) C hK hP hZ hS wv_X9_135 hl (kc_X1_portDetail l D cA ad _ η F _ _  r130 hc130) (rcC 1 2 hK hP rfl rfl) rfl rfl rfl (Nat.le_of_ble_eq_true rfl) ⟨Nat.le_refl _, Nat.le_refl _⟩ dX9_digest_130) ?_
            refine lv_i2l C.1 C.2.1 dX9_digest_133 rfl ?_
            refine lv_ladd C.1 C.2.1 dX9_digest_134 ?_
            obtain ⟨x1_135, ex1_135, hf⟩ := lt_some hf
            refine lv_topel ex1_135 ?_
            refine lv_lstore_n (lv' := [(1, .long x1_135), (0, .ref (ad 0)), (3, .int x3), (4, .int x4)]) C.1 C.2.1 dX9_digest_135 rfl hl (by decide) rfl (fun ls hl => ?_)
            obtain ⟨x4_136, ex4_136, hf⟩ := lt_some hf
            refine lv_iinc (v := x4_136) (lv' := [(4, .int x4_136), (1, .long x1_135), (0, .ref (ad 0)), (3, .int x3)]) C.1 C.2.1 dX9_digest_136 hl (k := 3) rfl (by rw [ex4_136]; rfl) (by decide) rfl (fun ls hl => ?_)
            refine lv_goto (tgt := 111) C.1 C.2.1 dX9_digest_139 (by decide) ?_
            exact ih111 ls _ _ _ (lv_sub hl [2, 1, 3, 0] rfl) hf
      intro ls x1 x3 hl hf
      have hf : fc_X9_digest_L97_c F σ (fc_X9_digest_L97 F σ n97) x1 x3 = some r := hf
      unfold fc_X9_digest_L97_c at hf
      refine lv_iload_n C.1 C.2.1 dX9_digest_97 rfl (lv_at hl 2 rfl) ?_
      refine lv_aload_n C.1 C.2.1 dX9_digest_98 rfl (lv_at hl 0 rfl) ?_
      refine gc_R_canvas C hK hP wf_X9_10 dX9_digest_99 ?_
      refine gc_cv_connectors C hK hP wf_X9_100 dX9_digest_102 ?_
      refine lv_icmp_ge (tgt := 185) C.1 C.2.1 dX9_digest_105 (by decide) (fun c105 => ?_) (fun c105 => ?_)
      · have hf := br_p c105 hf
        refine lv_lload_n C.1 C.2.1 dX9_digest_185 rfl (lv_at hl 1 rfl) ?_
        exact KRc.lret C hr hlk (Option.some.inj hf) dX9_digest_186
      · have hf := br_n c105 hf
        refine lv_iconst (v := (0 : Int32)) C.1 C.2.1 dX9_digest_108 (by decide) ?_
        refine lv_istore (lv' := [(4, .int (0 : Int32)), (0, .ref (ad 0)), (1, .long x1), (3, .int x3)]) C.1 C.2.1 dX9_digest_109 hl (by decide) rfl (fun ls hl => ?_)
        exact hB111 F ls _ _ _ (lv_sub hl [1, 2, 3, 0] rfl) hf
  have hB15 : ∀ (n15 : Nat) (ls : Array Slot) (x1 : Int64) (x3 : Int32), lv_has ls 5 [(0, .ref (ad 0)), (1, .long x1), (3, .int x3)] → fc_X9_digest_L15 F σ n15 x1 x3 = some r → WRc p l e 2 45 s m [.ref (ad 0)] below meth c (QcV (.long r)) (F0 m 15 ls []) := by
    intro n15
    induction n15 with
    | zero =>
      intro ls x1 x3 hl hf
      cases (show (none : Option _) = _ from hf)
    | succ n15 ih15 =>
      have hB29 : ∀ (n29 : Nat) (ls : Array Slot) (x1 : Int64) (x3 : Int32) (x4 : Int32), lv_has ls 5 [(0, .ref (ad 0)), (1, .long x1), (3, .int x3), (4, .int x4)] → fc_X9_digest_L29 F σ (fc_X9_digest_L15 F σ n15) n29 x1 x3 x4 = some r → WRc p l e 2 45 s m [.ref (ad 0)] below meth c (QcV (.long r)) (F0 m 29 ls []) := by
        intro n29
        induction n29 with
        | zero =>
          intro ls x1 x3 x4 hl hf
          cases (show (none : Option _) = _ from hf)
        | succ n29 ih29 =>
          intro ls x1 x3 x4 hl hf
          have hf : fc_X9_digest_L29_c F σ (fc_X9_digest_L15 F σ n15) (fc_X9_digest_L29 F σ (fc_X9_digest_L15 F σ n15) n29) x1 x3 x4 = some r := hf
          unfold fc_X9_digest_L29_c at hf
          refine lv_iload C.1 C.2.1 dX9_digest_29 (lv_at hl 3 rfl) ?_
          refine lv_iconst (v := (4 : Int32)) C.1 C.2.1 dX9_digest_31 (by decide) ?_
          refine lv_icmp_ge (tgt := 59) C.1 C.2.1 dX9_digest_32 (by decide) (fun c32 => ?_) (fun c32 => ?_)
          · have hf := br_p c32 hf
            obtain ⟨x3_59, ex3_59, hf⟩ := lt_some hf
            refine lv_iinc (v := x3_59) (lv' := [(3, .int x3_59), (0, .ref (ad 0)), (1, .long x1), (4, .int x4)]) C.1 C.2.1 dX9_digest_59 hl (k := 2) rfl (by rw [ex3_59]; rfl) (by decide) rfl (fun ls hl => ?_)
            refine lv_goto (tgt := 15) C.1 C.2.1 dX9_digest_62 (by decide) ?_
            exact ih15 ls _ _ (lv_sub hl [1, 2, 0] rfl) hf
          · have hf := br_n c32 hf
            refine lv_ldc2 (v := (31 : Int64)) C.1 C.2.1 C.2.2.2.1 (C.2.2.2.2 _ wc_X9_264) dX9_digest_35 ?_
            refine lv_lload_n C.1 C.2.1 dX9_digest_38 rfl (lv_at hl 1 rfl) ?_
            refine lv_lmul C.1 C.2.1 dX9_digest_39 ?_
            refine lv_aload_n C.1 C.2.1 dX9_digest_40 rfl (lv_at hl 0 rfl) ?_
            refine gc_R_canvas C hK hP wf_X9_10 dX9_digest_41 ?_
            refine lv_iload_n C.1 C.2.1 dX9_digest_44 rfl (lv_at hl 2 rfl) ?_
            refine lv_iload C.1 C.2.1 dX9_digest_45 (lv_at hl 3 rfl) ?_
            obtain ⟨r47, hc47, hf⟩ := bd_some hf
            refine cV_go (runRVc (As := [_, _]) C hK hP hZ hS wv_X9_78 hl (kc_X1_edge l D cA ad _ η F _ _  r47 hc47) (rcC 1 2 hK hP rfl rfl) rfl rfl rfl (Nat.le_of_ble_eq_true rfl) ⟨Nat.le_refl _, Nat.le_refl _⟩ dX9_digest_47) ?_
            refine lv_i2l C.1 C.2.1 dX9_digest_50 rfl ?_
            refine lv_ladd C.1 C.2.1 dX9_digest_51 ?_
            obtain ⟨x1_52, ex1_52, hf⟩ := lt_some hf
            refine lv_topel ex1_52 ?_
            refine lv_lstore_n (lv' := [(1, .long x1_52), (0, .ref (ad 0)), (3, .int x3), (4, .int x4)]) C.1 C.2.1 dX9_digest_52 rfl hl (by decide) rfl (fun ls hl => ?_)
            obtain ⟨x4_53, ex4_53, hf⟩ := lt_some hf
            refine lv_iinc (v := x4_53) (lv' := [(4, .int x4_53), (1, .long x1_52), (0, .ref (ad 0)), (3, .int x3)]) C.1 C.2.1 dX9_digest_53 hl (k := 3) rfl (by rw [ex4_53]; rfl) (by decide) rfl (fun ls hl => ?_)
            refine lv_goto (tgt := 29) C.1 C.2.1 dX9_digest_56 (by decide) ?_
            exact ih29 ls _ _ _ (lv_sub hl [2, 1, 3, 0] rfl) hf
      intro ls x1 x3 hl hf
      have hf : fc_X9_digest_L15_c F σ (fc_X9_digest_L15 F σ n15) x1 x3 = some r := hf
      unfold fc_X9_digest_L15_c at hf
      refine lv_iload_n C.1 C.2.1 dX9_digest_15 rfl (lv_at hl 2 rfl) ?_
      refine lv_aload_n C.1 C.2.1 dX9_digest_16 rfl (lv_at hl 0 rfl) ?_
      refine gc_R_canvas C hK hP wf_X9_10 dX9_digest_17 ?_
      refine gc_cv_boxes C hK hP wf_X9_59 dX9_digest_20 ?_
      refine lv_icmp_ge (tgt := 65) C.1 C.2.1 dX9_digest_23 (by decide) (fun c23 => ?_) (fun c23 => ?_)
      · have hf := br_p c23 hf
        refine lv_ldc2 (v := (31 : Int64)) C.1 C.2.1 C.2.2.2.1 (C.2.2.2.2 _ wc_X9_264) dX9_digest_65 ?_
        refine lv_lload_n C.1 C.2.1 dX9_digest_68 rfl (lv_at hl 1 rfl) ?_
        refine lv_lmul C.1 C.2.1 dX9_digest_69 ?_
        refine lv_aload_n C.1 C.2.1 dX9_digest_70 rfl (lv_at hl 0 rfl) ?_
        refine gc_R_canvas C hK hP wf_X9_10 dX9_digest_71 ?_
        refine gc_cv_penalty C hK hP wf_X9_117 dX9_digest_74 ?_
        refine lv_i2l C.1 C.2.1 dX9_digest_77 rfl ?_
        refine lv_ladd C.1 C.2.1 dX9_digest_78 ?_
        obtain ⟨x1_79, ex1_79, hf⟩ := lt_some hf
        refine lv_topel ex1_79 ?_
        refine lv_lstore_n (lv' := [(1, .long x1_79), (0, .ref (ad 0)), (3, .int x3)]) C.1 C.2.1 dX9_digest_79 rfl hl (by decide) rfl (fun ls hl => ?_)
        refine lv_ldc2 (v := (31 : Int64)) C.1 C.2.1 C.2.2.2.1 (C.2.2.2.2 _ wc_X9_264) dX9_digest_80 ?_
        refine lv_lload_n C.1 C.2.1 dX9_digest_83 rfl (lv_at hl 0 rfl) ?_
        refine lv_lmul C.1 C.2.1 dX9_digest_84 ?_
        refine lv_aload_n C.1 C.2.1 dX9_digest_85 rfl (lv_at hl 1 rfl) ?_
        refine gc_R_canvas C hK hP wf_X9_10 dX9_digest_86 ?_
        refine gc_cv_connectors C hK hP wf_X9_100 dX9_digest_89 ?_
        refine lv_i2l C.1 C.2.1 dX9_digest_92 rfl ?_
        refine lv_ladd C.1 C.2.1 dX9_digest_93 ?_
        obtain ⟨x1_94, ex1_94, hf⟩ := lt_some hf
        refine lv_topel ex1_94 ?_
        refine lv_lstore_n (lv' := [(1, .long x1_94), (0, .ref (ad 0)), (3, .int x3)]) C.1 C.2.1 dX9_digest_94 rfl hl (by decide) rfl (fun ls hl => ?_)
        refine lv_iconst (v := (0 : Int32)) C.1 C.2.1 dX9_digest_95 (by decide) ?_
        refine lv_istore_n (lv' := [(3, .int (0 : Int32)), (1, .long x1_94), (0, .ref (ad 0))]) C.1 C.2.1 dX9_digest_96 rfl hl (by decide) rfl (fun ls hl => ?_)
        exact hB97 F ls _ _ (lv_sub hl [2, 1, 0] rfl) hf
      · have hf := br_n c23 hf
        refine lv_iconst (v := (0 : Int32)) C.1 C.2.1 dX9_digest_26 (by decide) ?_
        refine lv_istore (lv' := [(4, .int (0 : Int32)), (0, .ref (ad 0)), (1, .long x1), (3, .int x3)]) C.1 C.2.1 dX9_digest_27 hl (by decide) rfl (fun ls hl => ?_)
        exact hB29 F ls _ _ _ (lv_sub hl [1, 2, 3, 0] rfl) hf
  unfold fc_X9_digest at hf
  refine lv_ldc2 (v := (589 : Int64)) C.1 C.2.1 C.2.2.2.1 (C.2.2.2.2 _ wc_X9_262) dX9_digest_0 ?_
  refine lv_aload_n C.1 C.2.1 dX9_digest_3 rfl (lv_at hl 0 rfl) ?_
  refine gc_R_canvas C hK hP wf_X9_10 dX9_digest_4 ?_
  refine gc_cv_boxes C hK hP wf_X9_59 dX9_digest_7 ?_
  refine lv_i2l C.1 C.2.1 dX9_digest_10 rfl ?_
  refine lv_ladd C.1 C.2.1 dX9_digest_11 ?_
  obtain ⟨x1_12, ex1_12, hf⟩ := lt_some hf
  refine lv_topel ex1_12 ?_
  refine lv_lstore_n (lv' := [(1, .long x1_12), (0, .ref (ad 0))]) C.1 C.2.1 dX9_digest_12 rfl hl (by decide) rfl (fun ls hl => ?_)
  refine lv_iconst (v := (0 : Int32)) C.1 C.2.1 dX9_digest_13 (by decide) ?_
  refine lv_istore_n (lv' := [(3, .int (0 : Int32)), (1, .long x1_12), (0, .ref (ad 0))]) C.1 C.2.1 dX9_digest_14 rfl hl (by decide) rfl (fun ls hl => ?_)
  exact hB15 F ls _ _ (lv_sub hl [2, 1, 0] rfl) hf
