def fc_X9_connector_L142 (F : Nat) (σ : CSt) (s0 : Int32) : Option (Int32) :=
  some s0
def fc_X9_connector_L125 (F : Nat) (σ : CSt) (s0 : Int32) : Option (Int32) :=
  some s0
def fc_X9_connector (F : Nat) (σ : CSt) (x1 : Int32) (x2 : Int32) : Option (Int32) :=
  bd (fc_X1_hasConnector F σ x1) (fun r5 => if r5 = 0 then (some (-1001 : Int32)) else (bd (fc_X9_isWithin F σ x2 (0 : Int32) (11 : Int32)) (fun r19 => if r19 = 0 then (some (-1002 : Int32)) else (if x2 = (6 : Int32) then (bd (fc_X1_portX F σ x1 (0 : Int32)) (fun r74 => some r74)) else if x2 = (7 : Int32) then (bd (fc_X1_portY F σ x1 (0 : Int32)) (fun r84 => some r84)) else if x2 = (8 : Int32) then (bd (fc_X1_portX F σ x1 (1 : Int32)) (fun r94 => some r94)) else if x2 = (9 : Int32) then (bd (fc_X1_portY F σ x1 (1 : Int32)) (fun r104 => some r104)) else if x2 = (10 : Int32) then (gd (ix x1 10 = true) (mo (cs_cr σ x1.toNatClampNeg) (fc_X9_connector_L125 F σ (0 : Int32)) (fun v116 => fc_X9_connector_L125 F σ (1 : Int32)))) else if x2 = (11 : Int32) then (bd (fc_X1_isTouched F σ x1) (fun r131 => if r131 = 0 then (fc_X9_connector_L142 F σ (0 : Int32)) else (fc_X9_connector_L142 F σ (1 : Int32)))) else (bd (fc_X1_portDetail F σ x1 x2) (fun r149 => some r149))))))
set_option maxHeartbeats 4000000 in
set_option maxRecDepth 100000 in
theorem kc_X9_connector (l : Launch) (D : va_G) (cA : Nat → ClassId) (ad : Nat → Nat) (σ : CSt) (η : HS) (F : Nat) (z1 : Int32) (z2 : Int32) (r : Int32) (hf : fc_X9_connector F σ z1 z2 = some r) : KRc l D cA ad σ η yX9_connector cX9_connector 3 (some .int) (rmk 4 95) [.ref (ad 0), .int z1, .int z2] (QcV (.int r)) := by
  refine KRc.of (by decide) (Nat.le_of_ble_eq_true rfl) ?_
  intro p e s m below meth c C hr hlk hK hP hZ ls hl
  have hS : va_S NoA s.heap s.heap [] := va_S.rf
  have hl : lv_has ls 3 [(0, .ref (ad 0)), (1, .int z1), (2, .int z2)] := hl
  have hB142 : ∀ (ls : Array Slot) (s0 : Int32), lv_has ls 3 [] → fc_X9_connector_L142 F σ s0 = some r → WRc p l e 4 95 s m [.ref (ad 0), .int z1, .int z2] below meth c (QcV (.int r)) (F0 m 142 ls [.int s0]) := by
    intro ls s0 hl hf
    unfold fc_X9_connector_L142 at hf
    exact KRc.iret C hr hlk (Option.some.inj hf) dX9_connector_142
  have hB125 : ∀ (ls : Array Slot) (s0 : Int32), lv_has ls 3 [] → fc_X9_connector_L125 F σ s0 = some r → WRc p l e 4 95 s m [.ref (ad 0), .int z1, .int z2] below meth c (QcV (.int r)) (F0 m 125 ls [.int s0]) := by
    intro ls s0 hl hf
    unfold fc_X9_connector_L125 at hf
    exact KRc.iret C hr hlk (Option.some.inj hf) dX9_connector_125
  unfold fc_X9_connector at hf
  refine lv_aload_n C.1 C.2.1 dX9_connector_0 rfl (lv_at hl 0 rfl) ?_
  refine gc_R_canvas C hK hP wf_X9_10 dX9_connector_1 ?_
  refine lv_iload_n C.1 C.2.1 dX9_connector_4 rfl (lv_at hl 1 rfl) ?_
  obtain ⟨r5, hc5, hf⟩ := bd_some hf
  refine cV_go (runRVc (As := [_]) C hK hP hZ hS wv_X9_110 hl (kc_X1_hasConnector l D cA ad _ η F _  r5 hc5) (rcC 1 2 hK hP rfl rfl) rfl rfl rfl (Nat.le_of_ble_eq_true rfl) ⟨Nat.le_refl _, Nat.le_refl _⟩ dX9_connector_5) ?_
  refine lv_if_ne (tgt := 15) C.1 C.2.1 dX9_connector_8 (by decide) (fun c8 => ?_) (fun c8 => ?_)
  · have hf := br_n c8 hf
    refine lv_iload_n C.1 C.2.1 dX9_connector_15 rfl (lv_at hl 2 rfl) ?_
    refine lv_iconst (v := (0 : Int32)) C.1 C.2.1 dX9_connector_16 (by decide) ?_
    refine lv_bipush (v := (11 : Int32)) C.1 C.2.1 dX9_connector_17 (by decide) ?_
    obtain ⟨r19, hc19, hf⟩ := bd_some hf
    refine cV_go (runRSc (As := [_, _, _]) C hK hP hZ hS wv_X9_74 hl (kc_X9_isWithin l D cA ad _ η F _ _ _  r19 hc19) rfl rfl rfl (Nat.le_of_ble_eq_true rfl) ⟨Nat.le_refl _, Nat.le_refl _⟩ dX9_connector_19) ?_
    refine lv_if_ne (tgt := 29) C.1 C.2.1 dX9_connector_22 (by decide) (fun c22 => ?_) (fun c22 => ?_)
    · have hf := br_n c22 hf
      refine lv_iload_n C.1 C.2.1 dX9_connector_29 rfl (lv_at hl 2 rfl) ?_
      by_cases c30_6 : z2 = (6 : Int32)
      · have hf := br_p c30_6 hf
        refine lv_tableIn (tgt := 68) C.1 C.2.1 dX9_connector_30 (by rw [c30_6]; decide) (by rw [c30_6]; decide) (by rw [c30_6]; rfl) (by decide) ?_
        refine lv_aload_n C.1 C.2.1 dX9_connector_68 rfl (lv_at hl 0 rfl) ?_
        refine gc_R_canvas C hK hP wf_X9_10 dX9_connector_69 ?_
        refine lv_iload_n C.1 C.2.1 dX9_connector_72 rfl (lv_at hl 1 rfl) ?_
        refine lv_iconst (v := (0 : Int32)) C.1 C.2.1 dX9_connector_73 (by decide) ?_
        obtain ⟨r74, hc74, hf⟩ := bd_some hf
        refine cV_go (runRVc (As := [_, _]) C hK hP hZ hS wv_X9_126 hl (kc_X1_portX l D cA ad _ η F _ _  r74 hc74) (rcC 1 2 hK hP rfl rfl) rfl rfl rfl (Nat.le_of_ble_eq_true rfl) ⟨Nat.le_refl _, Nat.le_refl _⟩ dX9_connector_74) ?_
        exact KRc.iret C hr hlk (Option.some.inj hf) dX9_connector_77
      have hf := br_n c30_6 hf
      by_cases c30_7 : z2 = (7 : Int32)
      · have hf := br_p c30_7 hf
        refine lv_tableIn (tgt := 78) C.1 C.2.1 dX9_connector_30 (by rw [c30_7]; decide) (by rw [c30_7]; decide) (by rw [c30_7]; rfl) (by decide) ?_
        refine lv_aload_n C.1 C.2.1 dX9_connector_78 rfl (lv_at hl 0 rfl) ?_
        refine gc_R_canvas C hK hP wf_X9_10 dX9_connector_79 ?_
        refine lv_iload_n C.1 C.2.1 dX9_connector_82 rfl (lv_at hl 1 rfl) ?_
        refine lv_iconst (v := (0 : Int32)) C.1 C.2.1 dX9_connector_83 (by decide) ?_
        obtain ⟨r84, hc84, hf⟩ := bd_some hf
        refine cV_go (runRVc (As := [_, _]) C hK hP hZ hS wv_X9_129 hl (kc_X1_portY l D cA ad _ η F _ _  r84 hc84) (rcC 1 2 hK hP rfl rfl) rfl rfl rfl (Nat.le_of_ble_eq_true rfl) ⟨Nat.le_refl _, Nat.le_refl _⟩ dX9_connector_84) ?_
        exact KRc.iret C hr hlk (Option.some.inj hf) dX9_connector_87
      have hf := br_n c30_7 hf
      by_cases c30_8 : z2 = (8 : Int32)
      · have hf := br_p c30_8 hf
        refine lv_tableIn (tgt := 88) C.1 C.2.1 dX9_connector_30 (by rw [c30_8]; decide) (by rw [c30_8]; decide) (by rw [c30_8]; rfl) (by decide) ?_
        refine lv_aload_n C.1 C.2.1 dX9_connector_88 rfl (lv_at hl 0 rfl) ?_
        refine gc_R_canvas C hK hP wf_X9_10 dX9_connector_89 ?_
        refine lv_iload_n C.1 C.2.1 dX9_connector_92 rfl (lv_at hl 1 rfl) ?_
        refine lv_iconst (v := (1 : Int32)) C.1 C.2.1 dX9_connector_93 (by decide) ?_
        obtain ⟨r94, hc94, hf⟩ := bd_some hf
        refine cV_go (runRVc (As := [_, _]) C hK hP hZ hS wv_X9_126 hl (kc_X1_portX l D cA ad _ η F _ _  r94 hc94) (rcC 1 2 hK hP rfl rfl) rfl rfl rfl (Nat.le_of_ble_eq_true rfl) ⟨Nat.le_refl _, Nat.le_refl _⟩ dX9_connector_94) ?_
        exact KRc.iret C hr hlk (Option.some.inj hf) dX9_connector_97
      have hf := br_n c30_8 hf
      by_cases c30_9 : z2 = (9 : Int32)
      · have hf := br_p c30_9 hf
        refine lv_tableIn (tgt := 98) C.1 C.2.1 dX9_connector_30 (by rw [c30_9]; decide) (by rw [c30_9]; decide) (by rw [c30_9]; rfl) (by decide) ?_
        refine lv_aload_n C.1 C.2.1 dX9_connector_98 rfl (lv_at hl 0 rfl) ?_
        refine gc_R_canvas C hK hP wf_X9_10 dX9_connector_99 ?_
        refine lv_iload_n C.1 C.2.1 dX9_connector_102 rfl (lv_at hl 1 rfl) ?_
        refine lv_iconst (v := (1 : Int32)) C.1 C.2.1 dX9_connector_103 (by decide) ?_
        obtain ⟨r104, hc104, hf⟩ := bd_some hf
        refine cV_go (runRVc (As := [_, _]) C hK hP hZ hS wv_X9_129 hl (kc_X1_portY l D cA ad _ η F _ _  r104 hc104) (rcC 1 2 hK hP rfl rfl) rfl rfl rfl (Nat.le_of_ble_eq_true rfl) ⟨Nat.le_refl _, Nat.le_refl _⟩ dX9_connector_104) ?_
        exact KRc.iret C hr hlk (Option.some.inj hf) dX9_connector_107
      have hf := br_n c30_9 hf
      by_cases c30_10 : z2 = (10 : Int32)
      · have hf := br_p c30_10 hf
        refine lv_tableIn (tgt := 108) C.1 C.2.1 dX9_connector_30 (by rw [c30_10]; decide) (by rw [c30_10]; decide) (by rw [c30_10]; rfl) (by decide) ?_
        refine lv_aload_n C.1 C.2.1 dX9_connector_108 rfl (lv_at hl 0 rfl) ?_
        refine gc_R_canvas C hK hP wf_X9_10 dX9_connector_109 ?_
        refine gc_cv_routes C hK hP wf_X9_103 dX9_connector_112 ?_
        refine lv_iload_n C.1 C.2.1 dX9_connector_115 rfl (lv_at hl 1 rfl) ?_
        obtain ⟨hi116, hf⟩ := gd_some hf
        refine lr_cr C hK hP hi116 dX9_connector_116 (fun hn116 => ?_) (fun a116 v116 he116 hv116 => ?_)
        · have hf := mo_n hn116 hf
          refine lv_ifnullN (tgt := 124) C.1 C.2.1 dX9_connector_117 (by decide) ?_
          refine lv_iconst (v := (0 : Int32)) C.1 C.2.1 dX9_connector_124 (by decide) ?_
          exact hB125 ls _ (lv_sub hl [] rfl) hf
        · have hf := mo_s he116 hf
          refine lv_ifnull C.1 C.2.1 dX9_connector_117 ?_
          refine lv_iconst (v := (1 : Int32)) C.1 C.2.1 dX9_connector_120 (by decide) ?_
          refine lv_goto (tgt := 125) C.1 C.2.1 dX9_connector_121 (by decide) ?_
          exact hB125 ls _ (lv_sub hl [] rfl) hf
      have hf := br_n c30_10 hf
      by_cases c30_11 : z2 = (11 : Int32)
      · have hf := br_p c30_11 hf
        refine lv_tableIn (tgt := 126) C.1 C.2.1 dX9_connector_30 (by rw [c30_11]; decide) (by rw [c30_11]; decide) (by rw [c30_11]; rfl) (by decide) ?_
        refine lv_aload_n C.1 C.2.1 dX9_connector_126 rfl (lv_at hl 0 rfl) ?_
        refine gc_R_canvas C hK hP wf_X9_10 dX9_connector_127 ?_
        refine lv_iload_n C.1 C.2.1 dX9_connector_130 rfl (lv_at hl 1 rfl) ?_
        obtain ⟨r131, hc131, hf⟩ := bd_some hf
        refine cV_go (runRVc (As := [_]) C hK hP hZ hS wv_X9_132 hl (kc_X1_isTouched l D cA ad _ η F _  r131 hc131) (rcC 1 2 hK hP rfl rfl) rfl rfl rfl (Nat.le_of_ble_eq_true rfl) ⟨Nat.le_refl _, Nat.le_refl _⟩ dX9_connector_131) ?_
        refine lv_if_eq (tgt := 141) C.1 C.2.1 dX9_connector_134 (by decide) (fun c134 => ?_) (fun c134 => ?_)
        · have hf := br_p c134 hf
          refine lv_iconst (v := (0 : Int32)) C.1 C.2.1 dX9_connector_141 (by decide) ?_
          exact hB142 ls _ (lv_sub hl [] rfl) hf
        · have hf := br_n c134 hf
          refine lv_iconst (v := (1 : Int32)) C.1 C.2.1 dX9_connector_137 (by decide) ?_
          refine lv_goto (tgt := 142) C.1 C.2.1 dX9_connector_138 (by decide) ?_
          exact hB142 ls _ (lv_sub hl [] rfl) hf
      have hf := br_n c30_11 hf
      refine lv_tableOut (tgt := 143) C.1 C.2.1 dX9_connector_30 (by have q6 : ¬ z2.toInt = 6 := lv_neT c30_6 (by decide); have q7 : ¬ z2.toInt = 7 := lv_neT c30_7 (by decide); have q8 : ¬ z2.toInt = 8 := lv_neT c30_8 (by decide); have q9 : ¬ z2.toInt = 9 := lv_neT c30_9 (by decide); have q10 : ¬ z2.toInt = 10 := lv_neT c30_10 (by decide); have q11 : ¬ z2.toInt = 11 := lv_neT c30_11 (by decide); omega) (by decide) ?_
      refine lv_aload_n C.1 C.2.1 dX9_connector_143 rfl (lv_at hl 0 rfl) ?_
      refine gc_R_canvas C hK hP wf_X9_10 dX9_connector_144 ?_
      refine lv_iload_n C.1 C.2.1 dX9_connector_147 rfl (lv_at hl 1 rfl) ?_
      refine lv_iload_n C.1 C.2.1 dX9_connector_148 rfl (lv_at hl 2 rfl) ?_
      obtain ⟨r149, hc149, hf⟩ := bd_some hf
      refine cV_go (runRVc (As := [_, _]) C hK hP hZ hS wv_X9_135 hl (kc_X1_portDetail l D cA ad _ η F _ _  r149 hc149) (rcC 1 2 hK hP rfl rfl) rfl rfl rfl (Nat.le_of_ble_eq_true rfl) ⟨Nat.le_refl _, Nat.le_refl _⟩ dX9_connector_149) ?_
      exact KRc.iret C hr hlk (Option.some.inj hf) dX9_connector_152
    · have hf := br_p c22 hf
      refine lv_sipush (v := (-1002 : Int32)) C.1 C.2.1 dX9_connector_25 (by decide) ?_
      exact KRc.iret C hr hlk (Option.some.inj hf) dX9_connector_28
  · have hf := br_p c8 hf
    refine lv_sipush (v := (-1001 : Int32)) C.1 C.2.1 dX9_connector_11 (by decide) ?_
    exact KRc.iret C hr hlk (Option.some.inj hf) dX9_connector_14
def fc_X3_stepX (F : Nat) (σ : CSt) (x0 : Int32) : Option (Int32) :=
  gd (ix (x0 &&& (3 : Int32)) 4 = true) (some (tSX (x0 &&& (3 : Int32)).toNatClampNeg))
set_option maxHeartbeats 4000000 in
set_option maxRecDepth 100000 in
theorem kc_X3_stepX (l : Launch) (D : va_G) (cA : Nat → ClassId) (ad : Nat → Nat) (σ : CSt) (η : HS) (F : Nat) (z0 : Int32) (r : Int32) (hf : fc_X3_stepX F σ z0 = some r) : KRc l D cA ad σ η yX3_stepX cX3_stepX 1 (some .int) (rmk 0 0) [.int z0] (QcV (.int r)) := by
  refine KRc.of (by decide) (Nat.le_of_ble_eq_true rfl) ?_
  intro p e s m below meth c C hr hlk hK hP hZ ls hl
  have hS : va_S NoA s.heap s.heap [] := va_S.rf
  have hl : lv_has ls 1 [(0, .int z0)] := hl
  unfold fc_X3_stepX at hf
  refine va_gets C.1 C.2.1 hZ.1.1 hS C.2.2.2.1 (C.2.2.2.2 _ wf_X3_7) (fun _ h9 => h9) dX3_stepX_0 ?_
  refine lv_iload_n C.1 C.2.1 dX3_stepX_3 rfl (lv_at hl 0 rfl) ?_
  refine lv_iconst (v := (3 : Int32)) C.1 C.2.1 dX3_stepX_4 (by decide) ?_
  refine lv_iand C.1 C.2.1 dX3_stepX_5 ?_
  obtain ⟨hi6, hf⟩ := gd_some hf
  refine va_ti C.1 C.2.1 hZ.1.2 hS (ix_in hi6) rfl dX3_stepX_6 ?_
  exact KRc.iret C hr hlk (Option.some.inj hf) dX3_stepX_7
def fc_X3_stepY (F : Nat) (σ : CSt) (x0 : Int32) : Option (Int32) :=
  gd (ix (x0 &&& (3 : Int32)) 4 = true) (some (tSY (x0 &&& (3 : Int32)).toNatClampNeg))
set_option maxHeartbeats 4000000 in
set_option maxRecDepth 100000 in
theorem kc_X3_stepY (l : Launch) (D : va_G) (cA : Nat → ClassId) (ad : Nat → Nat) (σ : CSt) (η : HS) (F : Nat) (z0 : Int32) (r : Int32) (hf : fc_X3_stepY F σ z0 = some r) : KRc l D cA ad σ η yX3_stepY cX3_stepY 1 (some .int) (rmk 0 0) [.int z0] (QcV (.int r)) := by
  refine KRc.of (by decide) (Nat.le_of_ble_eq_true rfl) ?_
  intro p e s m below meth c C hr hlk hK hP hZ ls hl
  have hS : va_S NoA s.heap s.heap [] := va_S.rf
  have hl : lv_has ls 1 [(0, .int z0)] := hl
  unfold fc_X3_stepY at hf
  refine va_gets C.1 C.2.1 hZ.2.1.1 hS C.2.2.2.1 (C.2.2.2.2 _ wf_X3_13) (fun _ h9 => h9) dX3_stepY_0 ?_
  refine lv_iload_n C.1 C.2.1 dX3_stepY_3 rfl (lv_at hl 0 rfl) ?_
  refine lv_iconst (v := (3 : Int32)) C.1 C.2.1 dX3_stepY_4 (by decide) ?_
  refine lv_iand C.1 C.2.1 dX3_stepY_5 ?_
  obtain ⟨hi6, hf⟩ := gd_some hf
  refine va_ti C.1 C.2.1 hZ.2.1.2 hS (ix_in hi6) rfl dX3_stepY_6 ?_
  exact KRc.iret C hr hlk (Option.some.inj hf) dX3_stepY_7
def fc_X4_clear (F : Nat) (σ : CSt) : Option (CSt) :=
  lt (cs_gc_s σ (0 : Int32)) (fun σ2 => lt (cs_gr_s σ2 (0 : Int32)) (fun σ7 => some σ7))
set_option maxHeartbeats 4000000 in
set_option maxRecDepth 100000 in
theorem kc_X4_clear (l : Launch) (D : va_G) (cA : Nat → ClassId) (ad : Nat → Nat) (σ0 : CSt) (η : HS) (F : Nat)  (σr : CSt) (hf : fc_X4_clear F σ0 = some σr) : KC l D cA ad σ0 η yX4_clear cX4_clear 1 none (rmk 0 0) [.ref (ad 27)] none σr := by
  refine KC.of (by decide) (Nat.le_of_ble_eq_true rfl) ?_
  intro p e s m below meth c A hAe hA C hr hlk hK hP hD hS hZ ls hl
  have hl : lv_has ls 1 [(0, .ref (ad 27))] := hl
  unfold fc_X4_clear at hf
  refine lv_aload_n C.1 C.2.1 dX4_clear_0 rfl (lv_at hl 0 rfl) ?_
  refine lv_iconst (v := (0 : Int32)) C.1 C.2.1 dX4_clear_1 (by decide) ?_
  replace hf := lt_e hf
  refine pc_gd_columns C hK hP hD hS wf_X4_25 dX4_clear_2 (fun H locs hP hD hS => ?_)
  refine lv_aload_n C.1 C.2.1 dX4_clear_5 rfl (lv_at hl 0 rfl) ?_
  refine lv_iconst (v := (0 : Int32)) C.1 C.2.1 dX4_clear_6 (by decide) ?_
  replace hf := lt_e hf
  refine pc_gd_rows C hK hP hD hS wf_X4_29 dX4_clear_7 (fun H locs hP hD hS => ?_)
  obtain rfl := Option.some.inj hf
  exact KC.vret C hr hlk hK hAe hP hD hS rfl dX4_clear_10
def fc_X4_insert_28_L42 (F : Nat) (σ : CSt) (x1 : Int32) (x2 : Int32) (x3 : Int32) : Option (Int32 × CSt) :=
  gd (cpo x3 (x3 + (1 : Int32)) (x1 - x3) 18 18 = true) (lt (cs_gx_s σ (va_cpy (cs_gx σ) (cs_gx σ) x3.toNatClampNeg (x3 + (1 : Int32)).toNatClampNeg (x1 - x3).toNatClampNeg)) (fun σ51 => gd (ix x3 18 = true) (lt (sc_gx σ51 x3 x2) (fun σ57 => some ((x1 + (1 : Int32)), σ57)))))
def fc_X4_insert_28_L40 (F : Nat) (σ : CSt) (x1 : Int32) : Option (Int32 × CSt) :=
  some (x1, σ)
def fc_X4_insert_28_L21 (F : Nat) (σ : CSt) (x1 : Int32) (x2 : Int32) (x3 : Int32) : Option (Int32 × CSt) :=
  if (18 : Int32) ≤ x1 then (fc_X4_insert_28_L40 F σ x1) else (if x3 ≤ 0 then (fc_X4_insert_28_L42 F σ x1 x2 x3) else (gd (ix (x3 - (1 : Int32)) 18 = true) (if (cs_gx σ (x3 - (1 : Int32)).toNatClampNeg) = x2 then (fc_X4_insert_28_L40 F σ x1) else (fc_X4_insert_28_L42 F σ x1 x2 x3))))
def fc_X4_insert_28_L2_c (F : Nat) (k2 : CSt → Int32 → Int32 → Int32 → Option (Int32 × CSt)) (σ : CSt) (x1 : Int32) (x2 : Int32) (x3 : Int32) : Option (Int32 × CSt) :=
  if x3 ≤ 0 then (fc_X4_insert_28_L21 F σ x1 x2 x3) else (gd (ix (x3 - (1 : Int32)) 18 = true) (if (cs_gx σ (x3 - (1 : Int32)).toNatClampNeg) ≤ x2 then (fc_X4_insert_28_L21 F σ x1 x2 x3) else (lt (x3 + (-1 : Int32)) (fun x3_15 => k2 σ x1 x2 x3_15))))
def fc_X4_insert_28_L2 (F : Nat) (n : Nat) (σ : CSt) (x1 : Int32) (x2 : Int32) (x3 : Int32) : Option (Int32 × CSt) := lpN (fun (k : CSt × Int32 × Int32 × Int32 → Option (Int32 × CSt)) a => fc_X4_insert_28_L2_c F (fun σ x1 x2 x3 => k (σ, x1, x2, x3)) a.1 a.2.1 a.2.2.1 a.2.2.2) n (σ, x1, x2, x3)
def fc_X4_insert_28 (F : Nat) (σ : CSt) (x1 : Int32) (x2 : Int32) : Option (Int32 × CSt) :=
  fc_X4_insert_28_L2 F F σ x1 x2 x1
set_option maxHeartbeats 4000000 in
set_option maxRecDepth 100000 in
theorem kc_X4_insert_28 (l : Launch) (D : va_G) (cA : Nat → ClassId) (ad : Nat → Nat) (σ0 : CSt) (η : HS) (F : Nat) (z1 : Int32) (z2 : Int32) (r : Int32) (σr : CSt) (hf : fc_X4_insert_28 F σ0 z1 z2 = some (r, σr)) : KC l D cA ad σ0 η yX4_insert cX4_insert 4 (some .int) (rmk 1 40) [.ref (ad 28), .int z1, .int z2] (some (.int r)) σr := by
  refine KC.of (by decide) (Nat.le_of_ble_eq_true rfl) ?_
  intro p e s m below meth c A hAe hA C hr hlk hK hP hD hS hZ ls hl
  have hl : lv_has ls 4 [(0, .ref (ad 28)), (1, .int z1), (2, .int z2)] := hl
  have hB42 : ∀ (H : Heap) (locs : List Loc) (σ : CSt) (ls : Array Slot) (x1 : Int32) (x2 : Int32) (x3 : Int32), HC D cA ad σ η H → va_D A (wC cA ad σ η) → va_S A s.heap H locs → lv_has ls 4 [(0, .ref (ad 28)), (1, .int x1), (2, .int x2), (3, .int x3)] → fc_X4_insert_28_L42 F σ x1 x2 x3 = some (r, σr) → WC p l e 1 40 s m [.ref (ad 28), .int z1, .int z2] below meth c (some (.int r)) D cA ad σ0 η σr A H locs (F0 m 42 ls []) := by
    intro H locs σ ls x1 x2 x3 hP hD hS hl hf
    unfold fc_X4_insert_28_L42 at hf
    refine lv_aload_n C.1 C.2.1 dX4_insert_42 rfl (lv_at hl 0 rfl) ?_
    refine lv_iload_n C.1 C.2.1 dX4_insert_43 rfl (lv_at hl 3 rfl) ?_
    refine lv_aload_n C.1 C.2.1 dX4_insert_44 rfl (lv_at hl 0 rfl) ?_
    refine lv_iload_n C.1 C.2.1 dX4_insert_45 rfl (lv_at hl 3 rfl) ?_
    refine lv_iconst (v := (1 : Int32)) C.1 C.2.1 dX4_insert_46 (by decide) ?_
    refine lv_iadd C.1 C.2.1 dX4_insert_47 ?_
    refine lv_iload_n C.1 C.2.1 dX4_insert_48 rfl (lv_at hl 1 rfl) ?_
    refine lv_iload_n C.1 C.2.1 dX4_insert_49 rfl (lv_at hl 3 rfl) ?_
    refine lv_isub C.1 C.2.1 dX4_insert_50 ?_
    obtain ⟨hi51, hf⟩ := gd_some hf
    replace hf := lt_e hf
    refine cy_gx_gx C hK hP hD hS (by rw [C.2.2.1]; exact hl.1.symm) wy_X4_45 hi51 (Nat.le_of_ble_eq_true rfl) (Nat.le_of_ble_eq_true rfl) dX4_insert_51 (fun H locs hP hD hS => ?_)
    refine lv_aload_n C.1 C.2.1 dX4_insert_54 rfl (lv_at hl 0 rfl) ?_
    refine lv_iload_n C.1 C.2.1 dX4_insert_55 rfl (lv_at hl 3 rfl) ?_
    refine lv_iload_n C.1 C.2.1 dX4_insert_56 rfl (lv_at hl 2 rfl) ?_
    obtain ⟨hi57, hf⟩ := gd_some hf
    replace hf := lt_e hf
    refine uc_gx C hK hP hD hS hi57 dX4_insert_57 (fun H locs hP hD hS => ?_)
    refine lv_iload_n C.1 C.2.1 dX4_insert_58 rfl (lv_at hl 1 rfl) ?_
    refine lv_iconst (v := (1 : Int32)) C.1 C.2.1 dX4_insert_59 (by decide) ?_
    refine lv_iadd C.1 C.2.1 dX4_insert_60 ?_
    obtain ⟨rfl, rfl⟩ := Prod.mk.inj (Option.some.inj hf)
    exact KC.iret C hr hlk hK hAe hP hD hS rfl dX4_insert_61
  have hB40 : ∀ (H : Heap) (locs : List Loc) (σ : CSt) (ls : Array Slot) (x1 : Int32), HC D cA ad σ η H → va_D A (wC cA ad σ η) → va_S A s.heap H locs → lv_has ls 4 [(1, .int x1)] → fc_X4_insert_28_L40 F σ x1 = some (r, σr) → WC p l e 1 40 s m [.ref (ad 28), .int z1, .int z2] below meth c (some (.int r)) D cA ad σ0 η σr A H locs (F0 m 40 ls []) := by
    intro H locs σ ls x1 hP hD hS hl hf
    unfold fc_X4_insert_28_L40 at hf
    refine lv_iload_n C.1 C.2.1 dX4_insert_40 rfl (lv_at hl 0 rfl) ?_
    obtain ⟨rfl, rfl⟩ := Prod.mk.inj (Option.some.inj hf)
    exact KC.iret C hr hlk hK hAe hP hD hS rfl dX4_insert_41
  have hB21 : ∀ (H : Heap) (locs : List Loc) (σ : CSt) (ls : Array Slot) (x1 : Int32) (x2 : Int32) (x3 : Int32), HC D cA ad σ η H → va_D A (wC cA ad σ η) → va_S A s.heap H locs → lv_has ls 4 [(0, .ref (ad 28)), (1, .int x1), (2, .int x2), (3, .int x3)] → fc_X4_insert_28_L21 F σ x1 x2 x3 = some (r, σr) → WC p l e 1 40 s m [.ref (ad 28), .int z1, .int z2] below meth c (some (.int r)) D cA ad σ0 η σr A H locs (F0 m 21 ls []) := by
    intro H locs σ ls x1 x2 x3 hP hD hS hl hf
    unfold fc_X4_insert_28_L21 at hf
    refine lv_iload_n C.1 C.2.1 dX4_insert_21 rfl (lv_at hl 1 rfl) ?_
    refine lv_aload_n C.1 C.2.1 dX4_insert_22 rfl (lv_at hl 0 rfl) ?_
    refine nc_gx C hK hP dX4_insert_23 ?_
    refine lv_icmp_ge (tgt := 40) C.1 C.2.1 dX4_insert_24 (by decide) (fun c24 => ?_) (fun c24 => ?_)
    · have hf := br_p c24 hf
      exact hB40 _ _ _ ls _ hP hD hS (lv_sub hl [1] rfl) hf
    · have hf := br_n c24 hf
      refine lv_iload_n C.1 C.2.1 dX4_insert_27 rfl (lv_at hl 3 rfl) ?_
      refine lv_if_le (tgt := 42) C.1 C.2.1 dX4_insert_28 (by decide) (fun c28 => ?_) (fun c28 => ?_)
      · have hf := br_p c28 hf
        exact hB42 _ _ _ ls _ _ _ hP hD hS (lv_sub hl [0, 1, 2, 3] rfl) hf
      · have hf := br_n c28 hf
        refine lv_aload_n C.1 C.2.1 dX4_insert_31 rfl (lv_at hl 0 rfl) ?_
        refine lv_iload_n C.1 C.2.1 dX4_insert_32 rfl (lv_at hl 3 rfl) ?_
        refine lv_iconst (v := (1 : Int32)) C.1 C.2.1 dX4_insert_33 (by decide) ?_
        refine lv_isub C.1 C.2.1 dX4_insert_34 ?_
        obtain ⟨hi35, hf⟩ := gd_some hf
        refine lc_gx C hK hP hi35 dX4_insert_35 ?_
        refine lv_iload_n C.1 C.2.1 dX4_insert_36 rfl (lv_at hl 2 rfl) ?_
        refine lv_icmp_ne (tgt := 42) C.1 C.2.1 dX4_insert_37 (by decide) (fun c37 => ?_) (fun c37 => ?_)
        · have hf := br_n c37 hf
          exact hB42 _ _ _ ls _ _ _ hP hD hS (lv_sub hl [0, 1, 2, 3] rfl) hf
        · have hf := br_p c37 hf
          exact hB40 _ _ _ ls _ hP hD hS (lv_sub hl [1] rfl) hf
  have hB2 : ∀ (n2 : Nat) (H : Heap) (locs : List Loc) (σ : CSt) (ls : Array Slot) (x1 : Int32) (x2 : Int32) (x3 : Int32), HC D cA ad σ η H → va_D A (wC cA ad σ η) → va_S A s.heap H locs → lv_has ls 4 [(0, .ref (ad 28)), (1, .int x1), (2, .int x2), (3, .int x3)] → fc_X4_insert_28_L2 F n2 σ x1 x2 x3 = some (r, σr) → WC p l e 1 40 s m [.ref (ad 28), .int z1, .int z2] below meth c (some (.int r)) D cA ad σ0 η σr A H locs (F0 m 2 ls []) := by
    intro n2
    induction n2 with
    | zero =>
      intro H locs σ ls x1 x2 x3 hP hD hS hl hf
      cases (show (none : Option _) = _ from hf)
    | succ n2 ih2 =>
      intro H locs σ ls x1 x2 x3 hP hD hS hl hf
      have hf : fc_X4_insert_28_L2_c F (fc_X4_insert_28_L2 F n2) σ x1 x2 x3 = some (r, σr) := hf
      unfold fc_X4_insert_28_L2_c at hf
      refine lv_iload_n C.1 C.2.1 dX4_insert_2 rfl (lv_at hl 3 rfl) ?_
      refine lv_if_le (tgt := 21) C.1 C.2.1 dX4_insert_3 (by decide) (fun c3 => ?_) (fun c3 => ?_)
      · have hf := br_p c3 hf
        exact hB21 _ _ _ ls _ _ _ hP hD hS (lv_sub hl [0, 1, 2, 3] rfl) hf
      · have hf := br_n c3 hf
        refine lv_aload_n C.1 C.2.1 dX4_insert_6 rfl (lv_at hl 0 rfl) ?_
        refine lv_iload_n C.1 C.2.1 dX4_insert_7 rfl (lv_at hl 3 rfl) ?_
        refine lv_iconst (v := (1 : Int32)) C.1 C.2.1 dX4_insert_8 (by decide) ?_
        refine lv_isub C.1 C.2.1 dX4_insert_9 ?_
        obtain ⟨hi10, hf⟩ := gd_some hf
        refine lc_gx C hK hP hi10 dX4_insert_10 ?_
        refine lv_iload_n C.1 C.2.1 dX4_insert_11 rfl (lv_at hl 2 rfl) ?_
        refine lv_icmp_le (tgt := 21) C.1 C.2.1 dX4_insert_12 (by decide) (fun c12 => ?_) (fun c12 => ?_)
        · have hf := br_p c12 hf
          exact hB21 _ _ _ ls _ _ _ hP hD hS (lv_sub hl [0, 1, 2, 3] rfl) hf
        · have hf := br_n c12 hf
          obtain ⟨x3_15, ex3_15, hf⟩ := lt_some hf
          refine lv_iinc (v := x3_15) (lv' := [(3, .int x3_15), (0, .ref (ad 28)), (1, .int x1), (2, .int x2)]) C.1 C.2.1 dX4_insert_15 hl (k := 3) rfl (by rw [ex3_15]; rfl) (by decide) rfl (fun ls hl => ?_)
          refine lv_goto (tgt := 2) C.1 C.2.1 dX4_insert_18 (by decide) ?_
          exact ih2 _ _ _ ls _ _ _ hP hD hS (lv_sub hl [1, 2, 3, 0] rfl) hf
  unfold fc_X4_insert_28 at hf
  refine lv_iload_n C.1 C.2.1 dX4_insert_0 rfl (lv_at hl 1 rfl) ?_
  refine lv_istore_n (lv' := [(3, .int z1), (0, .ref (ad 28)), (1, .int z1), (2, .int z2)]) C.1 C.2.1 dX4_insert_1 rfl hl (by decide) rfl (fun ls hl => ?_)
  exact hB2 F _ _ _ ls _ _ _ hP hD hS (lv_sub hl [1, 2, 3, 0] rfl) hf
def fc_X4_insert_29_L42 (F : Nat) (σ : CSt) (x1 : Int32) (x2 : Int32) (x3 : Int32) : Option (Int32 × CSt) :=
  gd (cpo x3 (x3 + (1 : Int32)) (x1 - x3) 18 18 = true) (lt (cs_gy_s σ (va_cpy (cs_gy σ) (cs_gy σ) x3.toNatClampNeg (x3 + (1 : Int32)).toNatClampNeg (x1 - x3).toNatClampNeg)) (fun σ51 => gd (ix x3 18 = true) (lt (sc_gy σ51 x3 x2) (fun σ57 => some ((x1 + (1 : Int32)), σ57)))))
def fc_X4_insert_29_L40 (F : Nat) (σ : CSt) (x1 : Int32) : Option (Int32 × CSt) :=
  some (x1, σ)
def fc_X4_insert_29_L21 (F : Nat) (σ : CSt) (x1 : Int32) (x2 : Int32) (x3 : Int32) : Option (Int32 × CSt) :=
  if (18 : Int32) ≤ x1 then (fc_X4_insert_29_L40 F σ x1) else (if x3 ≤ 0 then (fc_X4_insert_29_L42 F σ x1 x2 x3) else (gd (ix (x3 - (1 : Int32)) 18 = true) (if (cs_gy σ (x3 - (1 : Int32)).toNatClampNeg) = x2 then (fc_X4_insert_29_L40 F σ x1) else (fc_X4_insert_29_L42 F σ x1 x2 x3))))
def fc_X4_insert_29_L2_c (F : Nat) (k2 : CSt → Int32 → Int32 → Int32 → Option (Int32 × CSt)) (σ : CSt) (x1 : Int32) (x2 : Int32) (x3 : Int32) : Option (Int32 × CSt) :=
  if x3 ≤ 0 then (fc_X4_insert_29_L21 F σ x1 x2 x3) else (gd (ix (x3 - (1 : Int32)) 18 = true) (if (cs_gy σ (x3 - (1 : Int32)).toNatClampNeg) ≤ x2 then (fc_X4_insert_29_L21 F σ x1 x2 x3) else (lt (x3 + (-1 : Int32)) (fun x3_15 => k2 σ x1 x2 x3_15))))
def fc_X4_insert_29_L2 (F : Nat) (n : Nat) (σ : CSt) (x1 : Int32) (x2 : Int32) (x3 : Int32) : Option (Int32 × CSt) := lpN (fun (k : CSt × Int32 × Int32 × Int32 → Option (Int32 × CSt)) a => fc_X4_insert_29_L2_c F (fun σ x1 x2 x3 => k (σ, x1, x2, x3)) a.1 a.2.1 a.2.2.1 a.2.2.2) n (σ, x1, x2, x3)
def fc_X4_insert_29 (F : Nat) (σ : CSt) (x1 : Int32) (x2 : Int32) : Option (Int32 × CSt) :=
  fc_X4_insert_29_L2 F F σ x1 x2 x1
set_option maxHeartbeats 4000000 in
set_option maxRecDepth 100000 in
theorem kc_X4_insert_29 (l : Launch) (D : va_G) (cA : Nat → ClassId) (ad : Nat → Nat) (σ0 : CSt) (η : HS) (F : Nat) (z1 : Int32) (z2 : Int32) (r : Int32) (σr : CSt) (hf : fc_X4_insert_29 F σ0 z1 z2 = some (r, σr)) : KC l D cA ad σ0 η yX4_insert cX4_insert 4 (some .int) (rmk 1 40) [.ref (ad 29), .int z1, .int z2] (some (.int r)) σr := by
  refine KC.of (by decide) (Nat.le_of_ble_eq_true rfl) ?_
  intro p e s m below meth c A hAe hA C hr hlk hK hP hD hS hZ ls hl
  have hl : lv_has ls 4 [(0, .ref (ad 29)), (1, .int z1), (2, .int z2)] := hl
  have hB42 : ∀ (H : Heap) (locs : List Loc) (σ : CSt) (ls : Array Slot) (x1 : Int32) (x2 : Int32) (x3 : Int32), HC D cA ad σ η H → va_D A (wC cA ad σ η) → va_S A s.heap H locs → lv_has ls 4 [(0, .ref (ad 29)), (1, .int x1), (2, .int x2), (3, .int x3)] → fc_X4_insert_29_L42 F σ x1 x2 x3 = some (r, σr) → WC p l e 1 40 s m [.ref (ad 29), .int z1, .int z2] below meth c (some (.int r)) D cA ad σ0 η σr A H locs (F0 m 42 ls []) := by
    intro H locs σ ls x1 x2 x3 hP hD hS hl hf
    unfold fc_X4_insert_29_L42 at hf
    refine lv_aload_n C.1 C.2.1 dX4_insert_42 rfl (lv_at hl 0 rfl) ?_
    refine lv_iload_n C.1 C.2.1 dX4_insert_43 rfl (lv_at hl 3 rfl) ?_
    refine lv_aload_n C.1 C.2.1 dX4_insert_44 rfl (lv_at hl 0 rfl) ?_
    refine lv_iload_n C.1 C.2.1 dX4_insert_45 rfl (lv_at hl 3 rfl) ?_
    refine lv_iconst (v := (1 : Int32)) C.1 C.2.1 dX4_insert_46 (by decide) ?_
    refine lv_iadd C.1 C.2.1 dX4_insert_47 ?_
    refine lv_iload_n C.1 C.2.1 dX4_insert_48 rfl (lv_at hl 1 rfl) ?_
    refine lv_iload_n C.1 C.2.1 dX4_insert_49 rfl (lv_at hl 3 rfl) ?_
    refine lv_isub C.1 C.2.1 dX4_insert_50 ?_
    obtain ⟨hi51, hf⟩ := gd_some hf
    replace hf := lt_e hf
    refine cy_gy_gy C hK hP hD hS (by rw [C.2.2.1]; exact hl.1.symm) wy_X4_45 hi51 (Nat.le_of_ble_eq_true rfl) (Nat.le_of_ble_eq_true rfl) dX4_insert_51 (fun H locs hP hD hS => ?_)
    refine lv_aload_n C.1 C.2.1 dX4_insert_54 rfl (lv_at hl 0 rfl) ?_
    refine lv_iload_n C.1 C.2.1 dX4_insert_55 rfl (lv_at hl 3 rfl) ?_
    refine lv_iload_n C.1 C.2.1 dX4_insert_56 rfl (lv_at hl 2 rfl) ?_
    obtain ⟨hi57, hf⟩ := gd_some hf
    replace hf := lt_e hf
    refine uc_gy C hK hP hD hS hi57 dX4_insert_57 (fun H locs hP hD hS => ?_)
    refine lv_iload_n C.1 C.2.1 dX4_insert_58 rfl (lv_at hl 1 rfl) ?_
    refine lv_iconst (v := (1 : Int32)) C.1 C.2.1 dX4_insert_59 (by decide) ?_
    refine lv_iadd C.1 C.2.1 dX4_insert_60 ?_
    obtain ⟨rfl, rfl⟩ := Prod.mk.inj (Option.some.inj hf)
    exact KC.iret C hr hlk hK hAe hP hD hS rfl dX4_insert_61
  have hB40 : ∀ (H : Heap) (locs : List Loc) (σ : CSt) (ls : Array Slot) (x1 : Int32), HC D cA ad σ η H → va_D A (wC cA ad σ η) → va_S A s.heap H locs → lv_has ls 4 [(1, .int x1)] → fc_X4_insert_29_L40 F σ x1 = some (r, σr) → WC p l e 1 40 s m [.ref (ad 29), .int z1, .int z2] below meth c (some (.int r)) D cA ad σ0 η σr A H locs (F0 m 40 ls []) := by
    intro H locs σ ls x1 hP hD hS hl hf
    unfold fc_X4_insert_29_L40 at hf
    refine lv_iload_n C.1 C.2.1 dX4_insert_40 rfl (lv_at hl 0 rfl) ?_
    obtain ⟨rfl, rfl⟩ := Prod.mk.inj (Option.some.inj hf)
    exact KC.iret C hr hlk hK hAe hP hD hS rfl dX4_insert_41
  have hB21 : ∀ (H : Heap) (locs : List Loc) (σ : CSt) (ls : Array Slot) (x1 : Int32) (x2 : Int32) (x3 : Int32), HC D cA ad σ η H → va_D A (wC cA ad σ η) → va_S A s.heap H locs → lv_has ls 4 [(0, .ref (ad 29)), (1, .int x1), (2, .int x2), (3, .int x3)] → fc_X4_insert_29_L21 F σ x1 x2 x3 = some (r, σr) → WC p l e 1 40 s m [.ref (ad 29), .int z1, .int z2] below meth c (some (.int r)) D cA ad σ0 η σr A H locs (F0 m 21 ls []) := by
    intro H locs σ ls x1 x2 x3 hP hD hS hl hf
    unfold fc_X4_insert_29_L21 at hf
    refine lv_iload_n C.1 C.2.1 dX4_insert_21 rfl (lv_at hl 1 rfl) ?_
    refine lv_aload_n C.1 C.2.1 dX4_insert_22 rfl (lv_at hl 0 rfl) ?_
    refine nc_gy C hK hP dX4_insert_23 ?_
    refine lv_icmp_ge (tgt := 40) C.1 C.2.1 dX4_insert_24 (by decide) (fun c24 => ?_) (fun c24 => ?_)
    · have hf := br_p c24 hf
      exact hB40 _ _ _ ls _ hP hD hS (lv_sub hl [1] rfl) hf
    · have hf := br_n c24 hf
      refine lv_iload_n C.1 C.2.1 dX4_insert_27 rfl (lv_at hl 3 rfl) ?_
      refine lv_if_le (tgt := 42) C.1 C.2.1 dX4_insert_28 (by decide) (fun c28 => ?_) (fun c28 => ?_)
      · have hf := br_p c28 hf
        exact hB42 _ _ _ ls _ _ _ hP hD hS (lv_sub hl [0, 1, 2, 3] rfl) hf
      · have hf := br_n c28 hf
        refine lv_aload_n C.1 C.2.1 dX4_insert_31 rfl (lv_at hl 0 rfl) ?_
        refine lv_iload_n C.1 C.2.1 dX4_insert_32 rfl (lv_at hl 3 rfl) ?_
        refine lv_iconst (v := (1 : Int32)) C.1 C.2.1 dX4_insert_33 (by decide) ?_
        refine lv_isub C.1 C.2.1 dX4_insert_34 ?_
        obtain ⟨hi35, hf⟩ := gd_some hf
        refine lc_gy C hK hP hi35 dX4_insert_35 ?_
        refine lv_iload_n C.1 C.2.1 dX4_insert_36 rfl (lv_at hl 2 rfl) ?_
        refine lv_icmp_ne (tgt := 42) C.1 C.2.1 dX4_insert_37 (by decide) (fun c37 => ?_) (fun c37 => ?_)
        · have hf := br_n c37 hf
          exact hB42 _ _ _ ls _ _ _ hP hD hS (lv_sub hl [0, 1, 2, 3] rfl) hf
        · have hf := br_p c37 hf
          exact hB40 _ _ _ ls _ hP hD hS (lv_sub hl [1] rfl) hf
  have hB2 : ∀ (n2 : Nat) (H : Heap) (locs : List Loc) (σ : CSt) (ls : Array Slot) (x1 : Int32) (x2 : Int32) (x3 : Int32), HC D cA ad σ η H → va_D A (wC cA ad σ η) → va_S A s.heap H locs → lv_has ls 4 [(0, .ref (ad 29)), (1, .int x1), (2, .int x2), (3, .int x3)] → fc_X4_insert_29_L2 F n2 σ x1 x2 x3 = some (r, σr) → WC p l e 1 40 s m [.ref (ad 29), .int z1, .int z2] below meth c (some (.int r)) D cA ad σ0 η σr A H locs (F0 m 2 ls []) := by
    intro n2
    induction n2 with
    | zero =>
      intro H locs σ ls x1 x2 x3 hP hD hS hl hf
      cases (show (none : Option _) = _ from hf)
    | succ n2 ih2 =>
      intro H locs σ ls x1 x2 x3 hP hD hS hl hf
      have hf : fc_X4_insert_29_L2_c F (fc_X4_insert_29_L2 F n2) σ x1 x2 x3 = some (r, σr) := hf
      unfold fc_X4_insert_29_L2_c at hf
      refine lv_iload_n C.1 C.2.1 dX4_insert_2 rfl (lv_at hl 3 rfl) ?_
      refine lv_if_le (tgt := 21) C.1 C.2.1 dX4_insert_3 (by decide) (fun c3 => ?_) (fun c3 => ?_)
      · have hf := br_p c3 hf
        exact hB21 _ _ _ ls _ _ _ hP hD hS (lv_sub hl [0, 1, 2, 3] rfl) hf
      · have hf := br_n c3 hf
        refine lv_aload_n C.1 C.2.1 dX4_insert_6 rfl (lv_at hl 0 rfl) ?_
        refine lv_iload_n C.1 C.2.1 dX4_insert_7 rfl (lv_at hl 3 rfl) ?_
        refine lv_iconst (v := (1 : Int32)) C.1 C.2.1 dX4_insert_8 (by decide) ?_
        refine lv_isub C.1 C.2.1 dX4_insert_9 ?_
        obtain ⟨hi10, hf⟩ := gd_some hf
        refine lc_gy C hK hP hi10 dX4_insert_10 ?_
        refine lv_iload_n C.1 C.2.1 dX4_insert_11 rfl (lv_at hl 2 rfl) ?_
        refine lv_icmp_le (tgt := 21) C.1 C.2.1 dX4_insert_12 (by decide) (fun c12 => ?_) (fun c12 => ?_)
        · have hf := br_p c12 hf
          exact hB21 _ _ _ ls _ _ _ hP hD hS (lv_sub hl [0, 1, 2, 3] rfl) hf
        · have hf := br_n c12 hf
          obtain ⟨x3_15, ex3_15, hf⟩ := lt_some hf
          refine lv_iinc (v := x3_15) (lv' := [(3, .int x3_15), (0, .ref (ad 29)), (1, .int x1), (2, .int x2)]) C.1 C.2.1 dX4_insert_15 hl (k := 3) rfl (by rw [ex3_15]; rfl) (by decide) rfl (fun ls hl => ?_)
          refine lv_goto (tgt := 2) C.1 C.2.1 dX4_insert_18 (by decide) ?_
          exact ih2 _ _ _ ls _ _ _ hP hD hS (lv_sub hl [1, 2, 3, 0] rfl) hf
  unfold fc_X4_insert_29 at hf
  refine lv_iload_n C.1 C.2.1 dX4_insert_0 rfl (lv_at hl 1 rfl) ?_
  refine lv_istore_n (lv' := [(3, .int z1), (0, .ref (ad 29)), (1, .int z1), (2, .int z2)]) C.1 C.2.1 dX4_insert_1 rfl hl (by decide) rfl (fun ls hl => ?_)
  exact hB2 F _ _ _ ls _ _ _ hP hD hS (lv_sub hl [1, 2, 3, 0] rfl) hf
def fc_X4_addLinesAround_L2_c (F : Nat) (k2 : CSt → Int32 → Option (CSt)) (σ : CSt) (x2 : Int32) : Option (CSt) :=
  if (cs_cb σ) ≤ x2 then (some σ) else (bd (fc_X1_edge F σ x2 (0 : Int32)) (fun r22 => bd2 (fc_X4_insert_28 F σ (cs_gc σ) (r22 - (1 : Int32))) (fun r27 σ27 => lt (cs_gc_s σ27 r27) (fun σ30 => bd (fc_X1_edge F σ30 x2 (2 : Int32)) (fun r45 => bd2 (fc_X4_insert_28 F σ30 (cs_gc σ30) (r45 + (1 : Int32))) (fun r50 σ50 => lt (cs_gc_s σ50 r50) (fun σ53 => bd (fc_X1_edge F σ53 x2 (1 : Int32)) (fun r68 => bd2 (fc_X4_insert_29 F σ53 (cs_gr σ53) (r68 - (1 : Int32))) (fun r73 σ73 => lt (cs_gr_s σ73 r73) (fun σ76 => bd (fc_X1_edge F σ76 x2 (3 : Int32)) (fun r91 => bd2 (fc_X4_insert_29 F σ76 (cs_gr σ76) (r91 + (1 : Int32))) (fun r96 σ96 => lt (cs_gr_s σ96 r96) (fun σ99 => lt (x2 + (1 : Int32)) (fun x2_102 => k2 σ99 x2_102))))))))))))))
def fc_X4_addLinesAround_L2 (F : Nat) (n : Nat) (σ : CSt) (x2 : Int32) : Option (CSt) := lpN (fun (k : CSt × Int32 → Option (CSt)) a => fc_X4_addLinesAround_L2_c F (fun σ x2 => k (σ, x2)) a.1 a.2) n (σ, x2)
def fc_X4_addLinesAround (F : Nat) (σ : CSt) : Option (CSt) :=
  fc_X4_addLinesAround_L2 F F σ (0 : Int32)
set_option maxHeartbeats 4000000 in
set_option maxRecDepth 100000 in
theorem kc_X4_addLinesAround (l : Launch) (D : va_G) (cA : Nat → ClassId) (ad : Nat → Nat) (σ0 : CSt) (η : HS) (F : Nat)  (σr : CSt) (hf : fc_X4_addLinesAround F σ0 = some σr) : KC l D cA ad σ0 η yX4_addLinesAround cX4_addLinesAround 3 none (rmk 2 63) [.ref (ad 27), .ref (ad 1)] none σr := by
  refine KC.of (by decide) (Nat.le_of_ble_eq_true rfl) ?_
  intro p e s m below meth c A hAe hA C hr hlk hK hP hD hS hZ ls hl
  have hl : lv_has ls 3 [(0, .ref (ad 27)), (1, .ref (ad 1))] := hl
  have hB2 : ∀ (n2 : Nat) (H : Heap) (locs : List Loc) (σ : CSt) (ls : Array Slot) (x2 : Int32), HC D cA ad σ η H → va_D A (wC cA ad σ η) → va_S A s.heap H locs → lv_has ls 3 [(0, .ref (ad 27)), (1, .ref (ad 1)), (2, .int x2)] → fc_X4_addLinesAround_L2 F n2 σ x2 = some σr → WC p l e 2 63 s m [.ref (ad 27), .ref (ad 1)] below meth c none D cA ad σ0 η σr A H locs (F0 m 2 ls []) := by
    intro n2
    induction n2 with
    | zero =>
      intro H locs σ ls x2 hP hD hS hl hf
      cases (show (none : Option _) = _ from hf)
    | succ n2 ih2 =>
      intro H locs σ ls x2 hP hD hS hl hf
      have hf : fc_X4_addLinesAround_L2_c F (fc_X4_addLinesAround_L2 F n2) σ x2 = some σr := hf
      unfold fc_X4_addLinesAround_L2_c at hf
      refine lv_iload_n C.1 C.2.1 dX4_addLinesAround_2 rfl (lv_at hl 2 rfl) ?_
      refine lv_aload_n C.1 C.2.1 dX4_addLinesAround_3 rfl (lv_at hl 1 rfl) ?_
      refine gc_cv_boxes C hK hP wf_X4_32 dX4_addLinesAround_4 ?_
      refine lv_icmp_ge (tgt := 108) C.1 C.2.1 dX4_addLinesAround_7 (by decide) (fun c7 => ?_) (fun c7 => ?_)
      · have hf := br_p c7 hf
        obtain rfl := Option.some.inj hf
        exact KC.vret C hr hlk hK hAe hP hD hS rfl dX4_addLinesAround_108
      · have hf := br_n c7 hf
        refine lv_aload_n C.1 C.2.1 dX4_addLinesAround_10 rfl (lv_at hl 0 rfl) ?_
        refine lv_aload_n C.1 C.2.1 dX4_addLinesAround_11 rfl (lv_at hl 0 rfl) ?_
        refine gc_gd_xs C hK hP wf_X4_11 dX4_addLinesAround_12 ?_
        refine lv_aload_n C.1 C.2.1 dX4_addLinesAround_15 rfl (lv_at hl 0 rfl) ?_
        refine gc_gd_columns C hK hP wf_X4_25 dX4_addLinesAround_16 ?_
        refine lv_aload_n C.1 C.2.1 dX4_addLinesAround_19 rfl (lv_at hl 1 rfl) ?_
        refine lv_iload_n C.1 C.2.1 dX4_addLinesAround_20 rfl (lv_at hl 2 rfl) ?_
        refine lv_iconst (v := (0 : Int32)) C.1 C.2.1 dX4_addLinesAround_21 (by decide) ?_
        obtain ⟨r22, hc22, hf⟩ := bd_some hf
        refine cV_go (runRVc (As := [_, _]) C hK hP hZ hS wv_X4_37 hl (kc_X1_edge l D cA ad _ η F _ _  r22 hc22) (rcC 1 2 hK hP rfl rfl) rfl rfl rfl (Nat.le_of_ble_eq_true rfl) ⟨Nat.le_refl _, Nat.le_refl _⟩ dX4_addLinesAround_22) ?_
        refine lv_iconst (v := (1 : Int32)) C.1 C.2.1 dX4_addLinesAround_25 (by decide) ?_
        refine lv_isub C.1 C.2.1 dX4_addLinesAround_26 ?_
        obtain ⟨r27, σ27, hc27, hf⟩ := bd2_some hf
        refine callCS (As := [_, _, _]) C hK hP hD hA hS hZ wv_X4_41 hl (kc_X4_insert_28 l D cA ad _ η F _ _  r27 σ27 hc27) rfl rfl rfl (Nat.le_of_ble_eq_true rfl) ⟨Nat.le_refl _, Nat.le_refl _⟩ dX4_addLinesAround_27 (fun H locs hP hD hS => ?_)
        replace hf := lt_e hf
        refine pc_gd_columns C hK hP hD hS wf_X4_25 dX4_addLinesAround_30 (fun H locs hP hD hS => ?_)
        refine lv_aload_n C.1 C.2.1 dX4_addLinesAround_33 rfl (lv_at hl 0 rfl) ?_
        refine lv_aload_n C.1 C.2.1 dX4_addLinesAround_34 rfl (lv_at hl 0 rfl) ?_
        refine gc_gd_xs C hK hP wf_X4_11 dX4_addLinesAround_35 ?_
        refine lv_aload_n C.1 C.2.1 dX4_addLinesAround_38 rfl (lv_at hl 0 rfl) ?_
        refine gc_gd_columns C hK hP wf_X4_25 dX4_addLinesAround_39 ?_
        refine lv_aload_n C.1 C.2.1 dX4_addLinesAround_42 rfl (lv_at hl 1 rfl) ?_
        refine lv_iload_n C.1 C.2.1 dX4_addLinesAround_43 rfl (lv_at hl 2 rfl) ?_
        refine lv_iconst (v := (2 : Int32)) C.1 C.2.1 dX4_addLinesAround_44 (by decide) ?_
        obtain ⟨r45, hc45, hf⟩ := bd_some hf
        refine cV_go (runRVc (As := [_, _]) C hK hP hZ hS wv_X4_37 hl (kc_X1_edge l D cA ad _ η F _ _  r45 hc45) (rcC 1 2 hK hP rfl rfl) rfl rfl rfl (Nat.le_of_ble_eq_true rfl) ⟨Nat.le_refl _, Nat.le_refl _⟩ dX4_addLinesAround_45) ?_
        refine lv_iconst (v := (1 : Int32)) C.1 C.2.1 dX4_addLinesAround_48 (by decide) ?_
        refine lv_iadd C.1 C.2.1 dX4_addLinesAround_49 ?_
        obtain ⟨r50, σ50, hc50, hf⟩ := bd2_some hf
        refine callCS (As := [_, _, _]) C hK hP hD hA hS hZ wv_X4_41 hl (kc_X4_insert_28 l D cA ad _ η F _ _  r50 σ50 hc50) rfl rfl rfl (Nat.le_of_ble_eq_true rfl) ⟨Nat.le_refl _, Nat.le_refl _⟩ dX4_addLinesAround_50 (fun H locs hP hD hS => ?_)
        replace hf := lt_e hf
        refine pc_gd_columns C hK hP hD hS wf_X4_25 dX4_addLinesAround_53 (fun H locs hP hD hS => ?_)
        refine lv_aload_n C.1 C.2.1 dX4_addLinesAround_56 rfl (lv_at hl 0 rfl) ?_
        refine lv_aload_n C.1 C.2.1 dX4_addLinesAround_57 rfl (lv_at hl 0 rfl) ?_
        refine gc_gd_ys C hK hP wf_X4_15 dX4_addLinesAround_58 ?_
        refine lv_aload_n C.1 C.2.1 dX4_addLinesAround_61 rfl (lv_at hl 0 rfl) ?_
        refine gc_gd_rows C hK hP wf_X4_29 dX4_addLinesAround_62 ?_
        refine lv_aload_n C.1 C.2.1 dX4_addLinesAround_65 rfl (lv_at hl 1 rfl) ?_
        refine lv_iload_n C.1 C.2.1 dX4_addLinesAround_66 rfl (lv_at hl 2 rfl) ?_
        refine lv_iconst (v := (1 : Int32)) C.1 C.2.1 dX4_addLinesAround_67 (by decide) ?_
        obtain ⟨r68, hc68, hf⟩ := bd_some hf
        refine cV_go (runRVc (As := [_, _]) C hK hP hZ hS wv_X4_37 hl (kc_X1_edge l D cA ad _ η F _ _  r68 hc68) (rcC 1 2 hK hP rfl rfl) rfl rfl rfl (Nat.le_of_ble_eq_true rfl) ⟨Nat.le_refl _, Nat.le_refl _⟩ dX4_addLinesAround_68) ?_
        refine lv_iconst (v := (1 : Int32)) C.1 C.2.1 dX4_addLinesAround_71 (by decide) ?_
        refine lv_isub C.1 C.2.1 dX4_addLinesAround_72 ?_
        obtain ⟨r73, σ73, hc73, hf⟩ := bd2_some hf
        refine callCS (As := [_, _, _]) C hK hP hD hA hS hZ wv_X4_41 hl (kc_X4_insert_29 l D cA ad _ η F _ _  r73 σ73 hc73) rfl rfl rfl (Nat.le_of_ble_eq_true rfl) ⟨Nat.le_refl _, Nat.le_refl _⟩ dX4_addLinesAround_73 (fun H locs hP hD hS => ?_)
        replace hf := lt_e hf
        refine pc_gd_rows C hK hP hD hS wf_X4_29 dX4_addLinesAround_76 (fun H locs hP hD hS => ?_)
        refine lv_aload_n C.1 C.2.1 dX4_addLinesAround_79 rfl (lv_at hl 0 rfl) ?_
        refine lv_aload_n C.1 C.2.1 dX4_addLinesAround_80 rfl (lv_at hl 0 rfl) ?_
        refine gc_gd_ys C hK hP wf_X4_15 dX4_addLinesAround_81 ?_
        refine lv_aload_n C.1 C.2.1 dX4_addLinesAround_84 rfl (lv_at hl 0 rfl) ?_
        refine gc_gd_rows C hK hP wf_X4_29 dX4_addLinesAround_85 ?_
        refine lv_aload_n C.1 C.2.1 dX4_addLinesAround_88 rfl (lv_at hl 1 rfl) ?_
        refine lv_iload_n C.1 C.2.1 dX4_addLinesAround_89 rfl (lv_at hl 2 rfl) ?_
        refine lv_iconst (v := (3 : Int32)) C.1 C.2.1 dX4_addLinesAround_90 (by decide) ?_
        obtain ⟨r91, hc91, hf⟩ := bd_some hf
        refine cV_go (runRVc (As := [_, _]) C hK hP hZ hS wv_X4_37 hl (kc_X1_edge l D cA ad _ η F _ _  r91 hc91) (rcC 1 2 hK hP rfl rfl) rfl rfl rfl (Nat.le_of_ble_eq_true rfl) ⟨Nat.le_refl _, Nat.le_refl _⟩ dX4_addLinesAround_91) ?_
        refine lv_iconst (v := (1 : Int32)) C.1 C.2.1 dX4_addLinesAround_94 (by decide) ?_
        refine lv_iadd C.1 C.2.1 dX4_addLinesAround_95 ?_
        obtain ⟨r96, σ96, hc96, hf⟩ := bd2_some hf
        refine callCS (As := [_, _, _]) C hK hP hD hA hS hZ wv_X4_41 hl (kc_X4_insert_29 l D cA ad _ η F _ _  r96 σ96 hc96) rfl rfl rfl (Nat.le_of_ble_eq_true rfl) ⟨Nat.le_refl _, Nat.le_refl _⟩ dX4_addLinesAround_96 (fun H locs hP hD hS => ?_)
        replace hf := lt_e hf
        refine pc_gd_rows C hK hP hD hS wf_X4_29 dX4_addLinesAround_99 (fun H locs hP hD hS => ?_)
        obtain ⟨x2_102, ex2_102, hf⟩ := lt_some hf
        refine lv_iinc (v := x2_102) (lv' := [(2, .int x2_102), (0, .ref (ad 27)), (1, .ref (ad 1))]) C.1 C.2.1 dX4_addLinesAround_102 hl (k := 2) rfl (by rw [ex2_102]; rfl) (by decide) rfl (fun ls hl => ?_)
        refine lv_goto (tgt := 2) C.1 C.2.1 dX4_addLinesAround_105 (by decide) ?_
        exact ih2 _ _ _ ls _ hP hD hS (lv_sub hl [1, 2, 0] rfl) hf
  unfold fc_X4_addLinesAround at hf
  refine lv_iconst (v := (0 : Int32)) C.1 C.2.1 dX4_addLinesAround_0 (by decide) ?_
  refine lv_istore_n (lv' := [(2, .int (0 : Int32)), (0, .ref (ad 27)), (1, .ref (ad 1))]) C.1 C.2.1 dX4_addLinesAround_1 rfl hl (by decide) rfl (fun ls hl => ?_)
  exact hB2 F _ _ _ ls _ hP hD hS (lv_sub hl [1, 2, 0] rfl) hf
def fc_X4_addLinesThrough (F : Nat) (σ : CSt) (x1 : Int32) (x2 : Int32) : Option (CSt) :=
  bd2 (fc_X4_insert_28 F σ (cs_gc σ) x1) (fun r10 σ10 => lt (cs_gc_s σ10 r10) (fun σ13 => bd2 (fc_X4_insert_29 F σ13 (cs_gr σ13) x2) (fun r26 σ26 => lt (cs_gr_s σ26 r26) (fun σ29 => some σ29))))
set_option maxHeartbeats 4000000 in
set_option maxRecDepth 100000 in
theorem kc_X4_addLinesThrough (l : Launch) (D : va_G) (cA : Nat → ClassId) (ad : Nat → Nat) (σ0 : CSt) (η : HS) (F : Nat) (z1 : Int32) (z2 : Int32) (σr : CSt) (hf : fc_X4_addLinesThrough F σ0 z1 z2 = some σr) : KC l D cA ad σ0 η yX4_addLinesThrough cX4_addLinesThrough 3 none (rmk 2 63) [.ref (ad 27), .int z1, .int z2] none σr := by
  refine KC.of (by decide) (Nat.le_of_ble_eq_true rfl) ?_
  intro p e s m below meth c A hAe hA C hr hlk hK hP hD hS hZ ls hl
  have hl : lv_has ls 3 [(0, .ref (ad 27)), (1, .int z1), (2, .int z2)] := hl
  unfold fc_X4_addLinesThrough at hf
  refine lv_aload_n C.1 C.2.1 dX4_addLinesThrough_0 rfl (lv_at hl 0 rfl) ?_
  refine lv_aload_n C.1 C.2.1 dX4_addLinesThrough_1 rfl (lv_at hl 0 rfl) ?_
  refine gc_gd_xs C hK hP wf_X4_11 dX4_addLinesThrough_2 ?_
  refine lv_aload_n C.1 C.2.1 dX4_addLinesThrough_5 rfl (lv_at hl 0 rfl) ?_
  refine gc_gd_columns C hK hP wf_X4_25 dX4_addLinesThrough_6 ?_
  refine lv_iload_n C.1 C.2.1 dX4_addLinesThrough_9 rfl (lv_at hl 1 rfl) ?_
  obtain ⟨r10, σ10, hc10, hf⟩ := bd2_some hf
  refine callCS (As := [_, _, _]) C hK hP hD hA hS hZ wv_X4_41 hl (kc_X4_insert_28 l D cA ad _ η F _ _  r10 σ10 hc10) rfl rfl rfl (Nat.le_of_ble_eq_true rfl) ⟨Nat.le_refl _, Nat.le_refl _⟩ dX4_addLinesThrough_10 (fun H locs hP hD hS => ?_)
  replace hf := lt_e hf
  refine pc_gd_columns C hK hP hD hS wf_X4_25 dX4_addLinesThrough_13 (fun H locs hP hD hS => ?_)
  refine lv_aload_n C.1 C.2.1 dX4_addLinesThrough_16 rfl (lv_at hl 0 rfl) ?_
  refine lv_aload_n C.1 C.2.1 dX4_addLinesThrough_17 rfl (lv_at hl 0 rfl) ?_
  refine gc_gd_ys C hK hP wf_X4_15 dX4_addLinesThrough_18 ?_
  refine lv_aload_n C.1 C.2.1 dX4_addLinesThrough_21 rfl (lv_at hl 0 rfl) ?_
  refine gc_gd_rows C hK hP wf_X4_29 dX4_addLinesThrough_22 ?_
  refine lv_iload_n C.1 C.2.1 dX4_addLinesThrough_25 rfl (lv_at hl 2 rfl) ?_
  obtain ⟨r26, σ26, hc26, hf⟩ := bd2_some hf
  refine callCS (As := [_, _, _]) C hK hP hD hA hS hZ wv_X4_41 hl (kc_X4_insert_29 l D cA ad _ η F _ _  r26 σ26 hc26) rfl rfl rfl (Nat.le_of_ble_eq_true rfl) ⟨Nat.le_refl _, Nat.le_refl _⟩ dX4_addLinesThrough_26 (fun H locs hP hD hS => ?_)
  replace hf := lt_e hf
  refine pc_gd_rows C hK hP hD hS wf_X4_29 dX4_addLinesThrough_29 (fun H locs hP hD hS => ?_)
  obtain rfl := Option.some.inj hf
  exact KC.vret C hr hlk hK hAe hP hD hS rfl dX4_addLinesThrough_32
def fc_X4_joinNodes_L131 (F : Nat) (k2 : CSt → Int32 → Option (CSt)) (k12 : CSt → Int32 → Int32 → Option (CSt)) (σ : CSt) (x2 : Int32) (x3 : Int32) (s0 : Int32) (s1 : Int32) : Option (CSt) :=
  gd (ix s1 324 = true) (gd (s0 = 0 ∨ s0 = 1) (lt (sc_goD σ s1 s0) (fun σ131 => lt (x3 + (1 : Int32)) (fun x3_132 => k12 σ131 x2 x3_132))))
def fc_X4_joinNodes_L130 (F : Nat) (k2 : CSt → Int32 → Option (CSt)) (k12 : CSt → Int32 → Int32 → Option (CSt)) (σ : CSt) (x2 : Int32) (x3 : Int32) (s0 : Int32) : Option (CSt) :=
  fc_X4_joinNodes_L131 F k2 k12 σ x2 x3 (0 : Int32) s0
def fc_X4_joinNodes_L87 (F : Nat) (k2 : CSt → Int32 → Option (CSt)) (k12 : CSt → Int32 → Int32 → Option (CSt)) (σ : CSt) (x2 : Int32) (x3 : Int32) (x4 : Int32) (x5 : Int32) (x6 : Int32) (s0 : Int32) (s1 : Int32) : Option (CSt) :=
  gd (ix s1 324 = true) (gd (s0 = 0 ∨ s0 = 1) (lt (sc_goR σ s1 s0) (fun σ87 => if (cs_gr σ87) ≤ (x2 + (1 : Int32)) then (fc_X4_joinNodes_L130 F k2 k12 σ87 x2 x3 x6) else (gd (ix (x2 + (1 : Int32)) 18 = true) (bd (fc_X1_firstBoxOn F σ87 x4 x5 x4 (cs_gy σ87 (x2 + (1 : Int32)).toNatClampNeg)) (fun r119 => if r119 = (-1 : Int32) then (fc_X4_joinNodes_L131 F k2 k12 σ87 x2 x3 (1 : Int32) x6) else (fc_X4_joinNodes_L130 F k2 k12 σ87 x2 x3 x6)))))))
def fc_X4_joinNodes_L86 (F : Nat) (k2 : CSt → Int32 → Option (CSt)) (k12 : CSt → Int32 → Int32 → Option (CSt)) (σ : CSt) (x2 : Int32) (x3 : Int32) (x4 : Int32) (x5 : Int32) (x6 : Int32) (s0 : Int32) : Option (CSt) :=
  fc_X4_joinNodes_L87 F k2 k12 σ x2 x3 x4 x5 x6 (0 : Int32) s0
def fc_X4_joinNodes_L12_c (F : Nat) (k2 : CSt → Int32 → Option (CSt)) (k12 : CSt → Int32 → Int32 → Option (CSt)) (σ : CSt) (x2 : Int32) (x3 : Int32) : Option (CSt) :=
  if (cs_gc σ) ≤ x3 then (lt (x2 + (1 : Int32)) (fun x2_138 => k2 σ x2_138)) else (gd (ix x3 18 = true) (lt (cs_gx σ x3.toNatClampNeg) (fun x4_26 => gd (ix x2 18 = true) (lt (cs_gy σ x2.toNatClampNeg) (fun x5_34 => lt ((x2 * (18 : Int32)) + x3) (fun x6_42 => if (cs_gc σ) ≤ (x3 + (1 : Int32)) then (fc_X4_joinNodes_L86 F k2 k12 σ x2 x3 x4_26 x5_34 x6_42 x6_42) else (gd (ix (x3 + (1 : Int32)) 18 = true) (bd (fc_X1_firstBoxOn F σ x4_26 x5_34 (cs_gx σ (x3 + (1 : Int32)).toNatClampNeg) x5_34) (fun r75 => if r75 = (-1 : Int32) then (fc_X4_joinNodes_L87 F k2 k12 σ x2 x3 x4_26 x5_34 x6_42 (1 : Int32) x6_42) else (fc_X4_joinNodes_L86 F k2 k12 σ x2 x3 x4_26 x5_34 x6_42 x6_42))))))))))
def fc_X4_joinNodes_L12 (F : Nat) (k2 : CSt → Int32 → Option (CSt)) (n : Nat) (σ : CSt) (x2 : Int32) (x3 : Int32) : Option (CSt) := lpN (fun (k : CSt × Int32 × Int32 → Option (CSt)) a => fc_X4_joinNodes_L12_c F k2 (fun σ x2 x3 => k (σ, x2, x3)) a.1 a.2.1 a.2.2) n (σ, x2, x3)
def fc_X4_joinNodes_L2_c (F : Nat) (k2 : CSt → Int32 → Option (CSt)) (σ : CSt) (x2 : Int32) : Option (CSt) :=
  if (cs_gr σ) ≤ x2 then (some σ) else (fc_X4_joinNodes_L12 F k2 F σ x2 (0 : Int32))
def fc_X4_joinNodes_L2 (F : Nat) (n : Nat) (σ : CSt) (x2 : Int32) : Option (CSt) := lpN (fun (k : CSt × Int32 → Option (CSt)) a => fc_X4_joinNodes_L2_c F (fun σ x2 => k (σ, x2)) a.1 a.2) n (σ, x2)
def fc_X4_joinNodes (F : Nat) (σ : CSt) : Option (CSt) :=
  fc_X4_joinNodes_L2 F F σ (0 : Int32)
set_option maxHeartbeats 4000000 in
set_option maxRecDepth 100000 in
theorem kc_X4_joinNodes (l : Launch) (D : va_G) (cA : Nat → ClassId) (ad : Nat → Nat) (σ0 : CSt) (η : HS) (F : Nat)  (σr : CSt) (hf : fc_X4_joinNodes F σ0 = some σr) : KC l D cA ad σ0 η yX4_joinNodes cX4_joinNodes 7 none (rmk 1 26) [.ref (ad 27), .ref (ad 1)] none σr := by
  refine KC.of (by decide) (Nat.le_of_ble_eq_true rfl) ?_
  intro p e s m below meth c A hAe hA C hr hlk hK hP hD hS hZ ls hl
  have hl : lv_has ls 7 [(0, .ref (ad 27)), (1, .ref (ad 1))] := hl
  have hB2 : ∀ (n2 : Nat) (H : Heap) (locs : List Loc) (σ : CSt) (ls : Array Slot) (x2 : Int32), HC D cA ad σ η H → va_D A (wC cA ad σ η) → va_S A s.heap H locs → lv_has ls 7 [(0, .ref (ad 27)), (1, .ref (ad 1)), (2, .int x2)] → fc_X4_joinNodes_L2 F n2 σ x2 = some σr → WC p l e 1 26 s m [.ref (ad 27), .ref (ad 1)] below meth c none D cA ad σ0 η σr A H locs (F0 m 2 ls []) := by
    intro n2
    induction n2 with
    | zero =>
      intro H locs σ ls x2 hP hD hS hl hf
      cases (show (none : Option _) = _ from hf)
    | succ n2 ih2 =>
      have hB12 : ∀ (n12 : Nat) (H : Heap) (locs : List Loc) (σ : CSt) (ls : Array Slot) (x2 : Int32) (x3 : Int32), HC D cA ad σ η H → va_D A (wC cA ad σ η) → va_S A s.heap H locs → lv_has ls 7 [(0, .ref (ad 27)), (1, .ref (ad 1)), (2, .int x2), (3, .int x3)] → fc_X4_joinNodes_L12 F (fc_X4_joinNodes_L2 F n2) n12 σ x2 x3 = some σr → WC p l e 1 26 s m [.ref (ad 27), .ref (ad 1)] below meth c none D cA ad σ0 η σr A H locs (F0 m 12 ls []) := by
        intro n12
        induction n12 with
        | zero =>
          intro H locs σ ls x2 x3 hP hD hS hl hf
          cases (show (none : Option _) = _ from hf)
        | succ n12 ih12 =>
          have hB131 : ∀ (H : Heap) (locs : List Loc) (σ : CSt) (ls : Array Slot) (x2 : Int32) (x3 : Int32) (s0 : Int32) (s1 : Int32), HC D cA ad σ η H → va_D A (wC cA ad σ η) → va_S A s.heap H locs → lv_has ls 7 [(0, .ref (ad 27)), (1, .ref (ad 1)), (2, .int x2), (3, .int x3)] → fc_X4_joinNodes_L131 F (fc_X4_joinNodes_L2 F n2) (fc_X4_joinNodes_L12 F (fc_X4_joinNodes_L2 F n2) n12) σ x2 x3 s0 s1 = some σr → WC p l e 1 26 s m [.ref (ad 27), .ref (ad 1)] below meth c none D cA ad σ0 η σr A H locs (F0 m 131 ls [.int s0, .int s1, .ref (ad 31)]) := by
            intro H locs σ ls x2 x3 s0 s1 hP hD hS hl hf
            unfold fc_X4_joinNodes_L131 at hf
            obtain ⟨hi131, hf⟩ := gd_some hf
            obtain ⟨hz131, hf⟩ := gd_some hf
            replace hf := lt_e hf
            refine uc_goD C hK hP hD hS hi131 hz131 dX4_joinNodes_131 (fun H locs hP hD hS => ?_)
            obtain ⟨x3_132, ex3_132, hf⟩ := lt_some hf
            refine lv_iinc (v := x3_132) (lv' := [(3, .int x3_132), (0, .ref (ad 27)), (1, .ref (ad 1)), (2, .int x2)]) C.1 C.2.1 dX4_joinNodes_132 hl (k := 3) rfl (by rw [ex3_132]; rfl) (by decide) rfl (fun ls hl => ?_)
            refine lv_goto (tgt := 12) C.1 C.2.1 dX4_joinNodes_135 (by decide) ?_
            exact ih12 _ _ _ ls _ _ hP hD hS (lv_sub hl [1, 2, 3, 0] rfl) hf
          have hB130 : ∀ (H : Heap) (locs : List Loc) (σ : CSt) (ls : Array Slot) (x2 : Int32) (x3 : Int32) (s0 : Int32), HC D cA ad σ η H → va_D A (wC cA ad σ η) → va_S A s.heap H locs → lv_has ls 7 [(0, .ref (ad 27)), (1, .ref (ad 1)), (2, .int x2), (3, .int x3)] → fc_X4_joinNodes_L130 F (fc_X4_joinNodes_L2 F n2) (fc_X4_joinNodes_L12 F (fc_X4_joinNodes_L2 F n2) n12) σ x2 x3 s0 = some σr → WC p l e 1 26 s m [.ref (ad 27), .ref (ad 1)] below meth c none D cA ad σ0 η σr A H locs (F0 m 130 ls [.int s0, .ref (ad 31)]) := by
            intro H locs σ ls x2 x3 s0 hP hD hS hl hf
            unfold fc_X4_joinNodes_L130 at hf
            refine lv_iconst (v := (0 : Int32)) C.1 C.2.1 dX4_joinNodes_130 (by decide) ?_
            exact hB131 _ _ _ ls _ _ _ _ hP hD hS (lv_sub hl [0, 1, 2, 3] rfl) hf
          have hB87 : ∀ (H : Heap) (locs : List Loc) (σ : CSt) (ls : Array Slot) (x2 : Int32) (x3 : Int32) (x4 : Int32) (x5 : Int32) (x6 : Int32) (s0 : Int32) (s1 : Int32), HC D cA ad σ η H → va_D A (wC cA ad σ η) → va_S A s.heap H locs → lv_has ls 7 [(0, .ref (ad 27)), (1, .ref (ad 1)), (2, .int x2), (3, .int x3), (4, .int x4), (5, .int x5), (6, .int x6)] → fc_X4_joinNodes_L87 F (fc_X4_joinNodes_L2 F n2) (fc_X4_joinNodes_L12 F (fc_X4_joinNodes_L2 F n2) n12) σ x2 x3 x4 x5 x6 s0 s1 = some σr → WC p l e 1 26 s m [.ref (ad 27), .ref (ad 1)] below meth c none D cA ad σ0 η σr A H locs (F0 m 87 ls [.int s0, .int s1, .ref (ad 30)]) := by
            intro H locs σ ls x2 x3 x4 x5 x6 s0 s1 hP hD hS hl hf
            unfold fc_X4_joinNodes_L87 at hf
            obtain ⟨hi87, hf⟩ := gd_some hf
            obtain ⟨hz87, hf⟩ := gd_some hf
            replace hf := lt_e hf
            refine uc_goR C hK hP hD hS hi87 hz87 dX4_joinNodes_87 (fun H locs hP hD hS => ?_)
            refine lv_aload_n C.1 C.2.1 dX4_joinNodes_88 rfl (lv_at hl 0 rfl) ?_
            refine gc_gd_opensDown C hK hP wf_X4_22 dX4_joinNodes_89 ?_
            refine lv_iload C.1 C.2.1 dX4_joinNodes_92 (lv_at hl 6 rfl) ?_
            refine lv_iload_n C.1 C.2.1 dX4_joinNodes_94 rfl (lv_at hl 2 rfl) ?_
            refine lv_iconst (v := (1 : Int32)) C.1 C.2.1 dX4_joinNodes_95 (by decide) ?_
            refine lv_iadd C.1 C.2.1 dX4_joinNodes_96 ?_
            refine lv_aload_n C.1 C.2.1 dX4_joinNodes_97 rfl (lv_at hl 0 rfl) ?_
            refine gc_gd_rows C hK hP wf_X4_29 dX4_joinNodes_98 ?_
            refine lv_icmp_ge (tgt := 130) C.1 C.2.1 dX4_joinNodes_101 (by decide) (fun c101 => ?_) (fun c101 => ?_)
            · have hf := br_p c101 hf
              exact hB130 _ _ _ ls _ _ _ hP hD hS (lv_sub hl [0, 1, 2, 3] rfl) hf
            · have hf := br_n c101 hf
              refine lv_aload_n C.1 C.2.1 dX4_joinNodes_104 rfl (lv_at hl 1 rfl) ?_
              refine lv_iload C.1 C.2.1 dX4_joinNodes_105 (lv_at hl 4 rfl) ?_
              refine lv_iload C.1 C.2.1 dX4_joinNodes_107 (lv_at hl 5 rfl) ?_
              refine lv_iload C.1 C.2.1 dX4_joinNodes_109 (lv_at hl 4 rfl) ?_
              refine lv_aload_n C.1 C.2.1 dX4_joinNodes_111 rfl (lv_at hl 0 rfl) ?_
              refine gc_gd_ys C hK hP wf_X4_15 dX4_joinNodes_112 ?_
              refine lv_iload_n C.1 C.2.1 dX4_joinNodes_115 rfl (lv_at hl 2 rfl) ?_
              refine lv_iconst (v := (1 : Int32)) C.1 C.2.1 dX4_joinNodes_116 (by decide) ?_
              refine lv_iadd C.1 C.2.1 dX4_joinNodes_117 ?_
              obtain ⟨hi118, hf⟩ := gd_some hf
              refine lc_gy C hK hP hi118 dX4_joinNodes_118 ?_
              obtain ⟨r119, hc119, hf⟩ := bd_some hf
              refine cV_go (runRVc (As := [_, _, _, _]) C hK hP hZ hS wv_X4_51 hl (kc_X1_firstBoxOn l D cA ad _ η F _ _ _ _  r119 hc119) (rcC 1 2 hK hP rfl rfl) rfl rfl rfl (Nat.le_of_ble_eq_true rfl) ⟨Nat.le_refl _, Nat.le_refl _⟩ dX4_joinNodes_119) ?_
              refine lv_iconst (v := (-1 : Int32)) C.1 C.2.1 dX4_joinNodes_122 (by decide) ?_
              refine lv_icmp_ne (tgt := 130) C.1 C.2.1 dX4_joinNodes_123 (by decide) (fun c123 => ?_) (fun c123 => ?_)
              · have hf := br_n c123 hf
                exact hB130 _ _ _ ls _ _ _ hP hD hS (lv_sub hl [0, 1, 2, 3] rfl) hf
              · have hf := br_p c123 hf
                refine lv_iconst (v := (1 : Int32)) C.1 C.2.1 dX4_joinNodes_126 (by decide) ?_
                refine lv_goto (tgt := 131) C.1 C.2.1 dX4_joinNodes_127 (by decide) ?_
                exact hB131 _ _ _ ls _ _ _ _ hP hD hS (lv_sub hl [0, 1, 2, 3] rfl) hf
          have hB86 : ∀ (H : Heap) (locs : List Loc) (σ : CSt) (ls : Array Slot) (x2 : Int32) (x3 : Int32) (x4 : Int32) (x5 : Int32) (x6 : Int32) (s0 : Int32), HC D cA ad σ η H → va_D A (wC cA ad σ η) → va_S A s.heap H locs → lv_has ls 7 [(0, .ref (ad 27)), (1, .ref (ad 1)), (2, .int x2), (3, .int x3), (4, .int x4), (5, .int x5), (6, .int x6)] → fc_X4_joinNodes_L86 F (fc_X4_joinNodes_L2 F n2) (fc_X4_joinNodes_L12 F (fc_X4_joinNodes_L2 F n2) n12) σ x2 x3 x4 x5 x6 s0 = some σr → WC p l e 1 26 s m [.ref (ad 27), .ref (ad 1)] below meth c none D cA ad σ0 η σr A H locs (F0 m 86 ls [.int s0, .ref (ad 30)]) := by
            intro H locs σ ls x2 x3 x4 x5 x6 s0 hP hD hS hl hf
            unfold fc_X4_joinNodes_L86 at hf
            refine lv_iconst (v := (0 : Int32)) C.1 C.2.1 dX4_joinNodes_86 (by decide) ?_
            exact hB87 _ _ _ ls _ _ _ _ _ _ _ hP hD hS (lv_sub hl [0, 1, 2, 3, 4, 5, 6] rfl) hf
          intro H locs σ ls x2 x3 hP hD hS hl hf
          have hf : fc_X4_joinNodes_L12_c F (fc_X4_joinNodes_L2 F n2) (fc_X4_joinNodes_L12 F (fc_X4_joinNodes_L2 F n2) n12) σ x2 x3 = some σr := hf
          unfold fc_X4_joinNodes_L12_c at hf
          refine lv_iload_n C.1 C.2.1 dX4_joinNodes_12 rfl (lv_at hl 3 rfl) ?_
          refine lv_aload_n C.1 C.2.1 dX4_joinNodes_13 rfl (lv_at hl 0 rfl) ?_
          refine gc_gd_columns C hK hP wf_X4_25 dX4_joinNodes_14 ?_
          refine lv_icmp_ge (tgt := 138) C.1 C.2.1 dX4_joinNodes_17 (by decide) (fun c17 => ?_) (fun c17 => ?_)
          · have hf := br_p c17 hf
            obtain ⟨x2_138, ex2_138, hf⟩ := lt_some hf
            refine lv_iinc (v := x2_138) (lv' := [(2, .int x2_138), (0, .ref (ad 27)), (1, .ref (ad 1)), (3, .int x3)]) C.1 C.2.1 dX4_joinNodes_138 hl (k := 2) rfl (by rw [ex2_138]; rfl) (by decide) rfl (fun ls hl => ?_)
            refine lv_goto (tgt := 2) C.1 C.2.1 dX4_joinNodes_141 (by decide) ?_
            exact ih2 _ _ _ ls _ hP hD hS (lv_sub hl [1, 2, 0] rfl) hf
          · have hf := br_n c17 hf
            refine lv_aload_n C.1 C.2.1 dX4_joinNodes_20 rfl (lv_at hl 0 rfl) ?_
            refine gc_gd_xs C hK hP wf_X4_11 dX4_joinNodes_21 ?_
            refine lv_iload_n C.1 C.2.1 dX4_joinNodes_24 rfl (lv_at hl 3 rfl) ?_
            obtain ⟨hi25, hf⟩ := gd_some hf
            refine lc_gx C hK hP hi25 dX4_joinNodes_25 ?_
            obtain ⟨x4_26, ex4_26, hf⟩ := lt_some hf
            refine lv_tope ex4_26 ?_
            refine lv_istore (lv' := [(4, .int x4_26), (0, .ref (ad 27)), (1, .ref (ad 1)), (2, .int x2), (3, .int x3)]) C.1 C.2.1 dX4_joinNodes_26 hl (by decide) rfl (fun ls hl => ?_)
            refine lv_aload_n C.1 C.2.1 dX4_joinNodes_28 rfl (lv_at hl 1 rfl) ?_
            refine gc_gd_ys C hK hP wf_X4_15 dX4_joinNodes_29 ?_
            refine lv_iload_n C.1 C.2.1 dX4_joinNodes_32 rfl (lv_at hl 3 rfl) ?_
            obtain ⟨hi33, hf⟩ := gd_some hf
            refine lc_gy C hK hP hi33 dX4_joinNodes_33 ?_
            obtain ⟨x5_34, ex5_34, hf⟩ := lt_some hf
            refine lv_tope ex5_34 ?_
            refine lv_istore (lv' := [(5, .int x5_34), (4, .int x4_26), (0, .ref (ad 27)), (1, .ref (ad 1)), (2, .int x2), (3, .int x3)]) C.1 C.2.1 dX4_joinNodes_34 hl (by decide) rfl (fun ls hl => ?_)
            refine lv_iload_n C.1 C.2.1 dX4_joinNodes_36 rfl (lv_at hl 4 rfl) ?_
            refine lv_bipush (v := (18 : Int32)) C.1 C.2.1 dX4_joinNodes_37 (by decide) ?_
            refine lv_imul C.1 C.2.1 dX4_joinNodes_39 ?_
            refine lv_iload_n C.1 C.2.1 dX4_joinNodes_40 rfl (lv_at hl 5 rfl) ?_
            refine lv_iadd C.1 C.2.1 dX4_joinNodes_41 ?_
            obtain ⟨x6_42, ex6_42, hf⟩ := lt_some hf
            refine lv_tope ex6_42 ?_
            refine lv_istore (lv' := [(6, .int x6_42), (5, .int x5_34), (4, .int x4_26), (0, .ref (ad 27)), (1, .ref (ad 1)), (2, .int x2), (3, .int x3)]) C.1 C.2.1 dX4_joinNodes_42 hl (by decide) rfl (fun ls hl => ?_)
            refine lv_aload_n C.1 C.2.1 dX4_joinNodes_44 rfl (lv_at hl 3 rfl) ?_
            refine gc_gd_opensRight C hK hP wf_X4_18 dX4_joinNodes_45 ?_
            refine lv_iload C.1 C.2.1 dX4_joinNodes_48 (lv_at hl 0 rfl) ?_
            refine lv_iload_n C.1 C.2.1 dX4_joinNodes_50 rfl (lv_at hl 6 rfl) ?_
            refine lv_iconst (v := (1 : Int32)) C.1 C.2.1 dX4_joinNodes_51 (by decide) ?_
            refine lv_iadd C.1 C.2.1 dX4_joinNodes_52 ?_
            refine lv_aload_n C.1 C.2.1 dX4_joinNodes_53 rfl (lv_at hl 3 rfl) ?_
            refine gc_gd_columns C hK hP wf_X4_25 dX4_joinNodes_54 ?_
            refine lv_icmp_ge (tgt := 86) C.1 C.2.1 dX4_joinNodes_57 (by decide) (fun c57 => ?_) (fun c57 => ?_)
            · have hf := br_p c57 hf
              exact hB86 _ _ _ ls _ _ _ _ _ _ hP hD hS (lv_sub hl [3, 4, 5, 6, 2, 1, 0] rfl) hf
            · have hf := br_n c57 hf
              refine lv_aload_n C.1 C.2.1 dX4_joinNodes_60 rfl (lv_at hl 4 rfl) ?_
              refine lv_iload C.1 C.2.1 dX4_joinNodes_61 (lv_at hl 2 rfl) ?_
              refine lv_iload C.1 C.2.1 dX4_joinNodes_63 (lv_at hl 1 rfl) ?_
              refine lv_aload_n C.1 C.2.1 dX4_joinNodes_65 rfl (lv_at hl 3 rfl) ?_
              refine gc_gd_xs C hK hP wf_X4_11 dX4_joinNodes_66 ?_
              refine lv_iload_n C.1 C.2.1 dX4_joinNodes_69 rfl (lv_at hl 6 rfl) ?_
              refine lv_iconst (v := (1 : Int32)) C.1 C.2.1 dX4_joinNodes_70 (by decide) ?_
              refine lv_iadd C.1 C.2.1 dX4_joinNodes_71 ?_
              obtain ⟨hi72, hf⟩ := gd_some hf
              refine lc_gx C hK hP hi72 dX4_joinNodes_72 ?_
              refine lv_iload C.1 C.2.1 dX4_joinNodes_73 (lv_at hl 1 rfl) ?_
              obtain ⟨r75, hc75, hf⟩ := bd_some hf
              refine cV_go (runRVc (As := [_, _, _, _]) C hK hP hZ hS wv_X4_51 hl (kc_X1_firstBoxOn l D cA ad _ η F _ _ _ _  r75 hc75) (rcC 1 2 hK hP rfl rfl) rfl rfl rfl (Nat.le_of_ble_eq_true rfl) ⟨Nat.le_refl _, Nat.le_refl _⟩ dX4_joinNodes_75) ?_
              refine lv_iconst (v := (-1 : Int32)) C.1 C.2.1 dX4_joinNodes_78 (by decide) ?_
              refine lv_icmp_ne (tgt := 86) C.1 C.2.1 dX4_joinNodes_79 (by decide) (fun c79 => ?_) (fun c79 => ?_)
              · have hf := br_n c79 hf
                exact hB86 _ _ _ ls _ _ _ _ _ _ hP hD hS (lv_sub hl [3, 4, 5, 6, 2, 1, 0] rfl) hf
              · have hf := br_p c79 hf
                refine lv_iconst (v := (1 : Int32)) C.1 C.2.1 dX4_joinNodes_82 (by decide) ?_
                refine lv_goto (tgt := 87) C.1 C.2.1 dX4_joinNodes_83 (by decide) ?_
                exact hB87 _ _ _ ls _ _ _ _ _ _ _ hP hD hS (lv_sub hl [3, 4, 5, 6, 2, 1, 0] rfl) hf
      intro H locs σ ls x2 hP hD hS hl hf
      have hf : fc_X4_joinNodes_L2_c F (fc_X4_joinNodes_L2 F n2) σ x2 = some σr := hf
      unfold fc_X4_joinNodes_L2_c at hf
      refine lv_iload_n C.1 C.2.1 dX4_joinNodes_2 rfl (lv_at hl 2 rfl) ?_
      refine lv_aload_n C.1 C.2.1 dX4_joinNodes_3 rfl (lv_at hl 0 rfl) ?_
      refine gc_gd_rows C hK hP wf_X4_29 dX4_joinNodes_4 ?_
      refine lv_icmp_ge (tgt := 144) C.1 C.2.1 dX4_joinNodes_7 (by decide) (fun c7 => ?_) (fun c7 => ?_)
      · have hf := br_p c7 hf
        obtain rfl := Option.some.inj hf
        exact KC.vret C hr hlk hK hAe hP hD hS rfl dX4_joinNodes_144
      · have hf := br_n c7 hf
        refine lv_iconst (v := (0 : Int32)) C.1 C.2.1 dX4_joinNodes_10 (by decide) ?_
        refine lv_istore_n (lv' := [(3, .int (0 : Int32)), (0, .ref (ad 27)), (1, .ref (ad 1)), (2, .int x2)]) C.1 C.2.1 dX4_joinNodes_11 rfl hl (by decide) rfl (fun ls hl => ?_)
        exact hB12 F _ _ _ ls _ _ hP hD hS (lv_sub hl [1, 2, 3, 0] rfl) hf
  unfold fc_X4_joinNodes at hf
  refine lv_iconst (v := (0 : Int32)) C.1 C.2.1 dX4_joinNodes_0 (by decide) ?_
  refine lv_istore_n (lv' := [(2, .int (0 : Int32)), (0, .ref (ad 27)), (1, .ref (ad 1))]) C.1 C.2.1 dX4_joinNodes_1 rfl hl (by decide) rfl (fun ls hl => ?_)
  exact hB2 F _ _ _ ls _ hP hD hS (lv_sub hl [1, 2, 0] rfl) hf
def fc_X4_indexOf_28_L22 (F : Nat) (σ : CSt) (x3 : Int32) : Option (Int32) :=
  some x3
def fc_X4_indexOf_28_L2_c (F : Nat) (σ : CSt) (k2 : Int32 → Int32 → Int32 → Option (Int32)) (x1 : Int32) (x2 : Int32) (x3 : Int32) : Option (Int32) :=
  if (x1 - (1 : Int32)) ≤ x3 then (fc_X4_indexOf_28_L22 F σ x3) else (gd (ix x3 18 = true) (if (cs_gx σ x3.toNatClampNeg) = x2 then (fc_X4_indexOf_28_L22 F σ x3) else (lt (x3 + (1 : Int32)) (fun x3_16 => k2 x1 x2 x3_16))))
def fc_X4_indexOf_28_L2 (F : Nat) (σ : CSt) (n : Nat) (x1 : Int32) (x2 : Int32) (x3 : Int32) : Option (Int32) := lpN (fun (k : Int32 × Int32 × Int32 → Option (Int32)) a => fc_X4_indexOf_28_L2_c F σ (fun x1 x2 x3 => k (x1, x2, x3)) a.1 a.2.1 a.2.2) n (x1, x2, x3)
def fc_X4_indexOf_28 (F : Nat) (σ : CSt) (x1 : Int32) (x2 : Int32) : Option (Int32) :=
  fc_X4_indexOf_28_L2 F σ F x1 x2 (0 : Int32)
set_option maxHeartbeats 4000000 in
set_option maxRecDepth 100000 in
theorem kc_X4_indexOf_28 (l : Launch) (D : va_G) (cA : Nat → ClassId) (ad : Nat → Nat) (σ : CSt) (η : HS) (F : Nat) (z1 : Int32) (z2 : Int32) (r : Int32) (hf : fc_X4_indexOf_28 F σ z1 z2 = some r) : KRc l D cA ad σ η yX4_indexOf cX4_indexOf 4 (some .int) (rmk 0 0) [.ref (ad 28), .int z1, .int z2] (QcV (.int r)) := by
  refine KRc.of (by decide) (Nat.le_of_ble_eq_true rfl) ?_
  intro p e s m below meth c C hr hlk hK hP hZ ls hl
  have hS : va_S NoA s.heap s.heap [] := va_S.rf
  have hl : lv_has ls 4 [(0, .ref (ad 28)), (1, .int z1), (2, .int z2)] := hl
  have hB22 : ∀ (ls : Array Slot) (x3 : Int32), lv_has ls 4 [(3, .int x3)] → fc_X4_indexOf_28_L22 F σ x3 = some r → WRc p l e 0 0 s m [.ref (ad 28), .int z1, .int z2] below meth c (QcV (.int r)) (F0 m 22 ls []) := by
    intro ls x3 hl hf
    unfold fc_X4_indexOf_28_L22 at hf
    refine lv_iload_n C.1 C.2.1 dX4_indexOf_22 rfl (lv_at hl 0 rfl) ?_
    exact KRc.iret C hr hlk (Option.some.inj hf) dX4_indexOf_23
  have hB2 : ∀ (n2 : Nat) (ls : Array Slot) (x1 : Int32) (x2 : Int32) (x3 : Int32), lv_has ls 4 [(0, .ref (ad 28)), (1, .int x1), (2, .int x2), (3, .int x3)] → fc_X4_indexOf_28_L2 F σ n2 x1 x2 x3 = some r → WRc p l e 0 0 s m [.ref (ad 28), .int z1, .int z2] below meth c (QcV (.int r)) (F0 m 2 ls []) := by
    intro n2
    induction n2 with
    | zero =>
      intro ls x1 x2 x3 hl hf
      cases (show (none : Option _) = _ from hf)
    | succ n2 ih2 =>
      intro ls x1 x2 x3 hl hf
      have hf : fc_X4_indexOf_28_L2_c F σ (fc_X4_indexOf_28_L2 F σ n2) x1 x2 x3 = some r := hf
      unfold fc_X4_indexOf_28_L2_c at hf
      refine lv_iload_n C.1 C.2.1 dX4_indexOf_2 rfl (lv_at hl 3 rfl) ?_
      refine lv_iload_n C.1 C.2.1 dX4_indexOf_3 rfl (lv_at hl 1 rfl) ?_
      refine lv_iconst (v := (1 : Int32)) C.1 C.2.1 dX4_indexOf_4 (by decide) ?_
      refine lv_isub C.1 C.2.1 dX4_indexOf_5 ?_
      refine lv_icmp_ge (tgt := 22) C.1 C.2.1 dX4_indexOf_6 (by decide) (fun c6 => ?_) (fun c6 => ?_)
      · have hf := br_p c6 hf
        exact hB22 ls _ (lv_sub hl [3] rfl) hf
      · have hf := br_n c6 hf
        refine lv_aload_n C.1 C.2.1 dX4_indexOf_9 rfl (lv_at hl 0 rfl) ?_
        refine lv_iload_n C.1 C.2.1 dX4_indexOf_10 rfl (lv_at hl 3 rfl) ?_
        obtain ⟨hi11, hf⟩ := gd_some hf
        refine lc_gx C hK hP hi11 dX4_indexOf_11 ?_
        refine lv_iload_n C.1 C.2.1 dX4_indexOf_12 rfl (lv_at hl 2 rfl) ?_
        refine lv_icmp_eq (tgt := 22) C.1 C.2.1 dX4_indexOf_13 (by decide) (fun c13 => ?_) (fun c13 => ?_)
        · have hf := br_p c13 hf
          exact hB22 ls _ (lv_sub hl [3] rfl) hf
        · have hf := br_n c13 hf
          obtain ⟨x3_16, ex3_16, hf⟩ := lt_some hf
          refine lv_iinc (v := x3_16) (lv' := [(3, .int x3_16), (0, .ref (ad 28)), (1, .int x1), (2, .int x2)]) C.1 C.2.1 dX4_indexOf_16 hl (k := 3) rfl (by rw [ex3_16]; rfl) (by decide) rfl (fun ls hl => ?_)
          refine lv_goto (tgt := 2) C.1 C.2.1 dX4_indexOf_19 (by decide) ?_
          exact ih2 ls _ _ _ (lv_sub hl [1, 2, 3, 0] rfl) hf
  unfold fc_X4_indexOf_28 at hf
  refine lv_iconst (v := (0 : Int32)) C.1 C.2.1 dX4_indexOf_0 (by decide) ?_
  refine lv_istore_n (lv' := [(3, .int (0 : Int32)), (0, .ref (ad 28)), (1, .int z1), (2, .int z2)]) C.1 C.2.1 dX4_indexOf_1 rfl hl (by decide) rfl (fun ls hl => ?_)
  exact hB2 F ls _ _ _ (lv_sub hl [1, 2, 3, 0] rfl) hf
def fc_X4_indexOf_29_L22 (F : Nat) (σ : CSt) (x3 : Int32) : Option (Int32) :=
  some x3
def fc_X4_indexOf_29_L2_c (F : Nat) (σ : CSt) (k2 : Int32 → Int32 → Int32 → Option (Int32)) (x1 : Int32) (x2 : Int32) (x3 : Int32) : Option (Int32) :=
  if (x1 - (1 : Int32)) ≤ x3 then (fc_X4_indexOf_29_L22 F σ x3) else (gd (ix x3 18 = true) (if (cs_gy σ x3.toNatClampNeg) = x2 then (fc_X4_indexOf_29_L22 F σ x3) else (lt (x3 + (1 : Int32)) (fun x3_16 => k2 x1 x2 x3_16))))
def fc_X4_indexOf_29_L2 (F : Nat) (σ : CSt) (n : Nat) (x1 : Int32) (x2 : Int32) (x3 : Int32) : Option (Int32) := lpN (fun (k : Int32 × Int32 × Int32 → Option (Int32)) a => fc_X4_indexOf_29_L2_c F σ (fun x1 x2 x3 => k (x1, x2, x3)) a.1 a.2.1 a.2.2) n (x1, x2, x3)
def fc_X4_indexOf_29 (F : Nat) (σ : CSt) (x1 : Int32) (x2 : Int32) : Option (Int32) :=
  fc_X4_indexOf_29_L2 F σ F x1 x2 (0 : Int32)
set_option maxHeartbeats 4000000 in
set_option maxRecDepth 100000 in
theorem kc_X4_indexOf_29 (l : Launch) (D : va_G) (cA : Nat → ClassId) (ad : Nat → Nat) (σ : CSt) (η : HS) (F : Nat) (z1 : Int32) (z2 : Int32) (r : Int32) (hf : fc_X4_indexOf_29 F σ z1 z2 = some r) : KRc l D cA ad σ η yX4_indexOf cX4_indexOf 4 (some .int) (rmk 0 0) [.ref (ad 29), .int z1, .int z2] (QcV (.int r)) := by
  refine KRc.of (by decide) (Nat.le_of_ble_eq_true rfl) ?_
  intro p e s m below meth c C hr hlk hK hP hZ ls hl
  have hS : va_S NoA s.heap s.heap [] := va_S.rf
  have hl : lv_has ls 4 [(0, .ref (ad 29)), (1, .int z1), (2, .int z2)] := hl
  have hB22 : ∀ (ls : Array Slot) (x3 : Int32), lv_has ls 4 [(3, .int x3)] → fc_X4_indexOf_29_L22 F σ x3 = some r → WRc p l e 0 0 s m [.ref (ad 29), .int z1, .int z2] below meth c (QcV (.int r)) (F0 m 22 ls []) := by
    intro ls x3 hl hf
    unfold fc_X4_indexOf_29_L22 at hf
    refine lv_iload_n C.1 C.2.1 dX4_indexOf_22 rfl (lv_at hl 0 rfl) ?_
    exact KRc.iret C hr hlk (Option.some.inj hf) dX4_indexOf_23
  have hB2 : ∀ (n2 : Nat) (ls : Array Slot) (x1 : Int32) (x2 : Int32) (x3 : Int32), lv_has ls 4 [(0, .ref (ad 29)), (1, .int x1), (2, .int x2), (3, .int x3)] → fc_X4_indexOf_29_L2 F σ n2 x1 x2 x3 = some r → WRc p l e 0 0 s m [.ref (ad 29), .int z1, .int z2] below meth c (QcV (.int r)) (F0 m 2 ls []) := by
    intro n2
    induction n2 with
    | zero =>
      intro ls x1 x2 x3 hl hf
      cases (show (none : Option _) = _ from hf)
    | succ n2 ih2 =>
      intro ls x1 x2 x3 hl hf
      have hf : fc_X4_indexOf_29_L2_c F σ (fc_X4_indexOf_29_L2 F σ n2) x1 x2 x3 = some r := hf
      unfold fc_X4_indexOf_29_L2_c at hf
      refine lv_iload_n C.1 C.2.1 dX4_indexOf_2 rfl (lv_at hl 3 rfl) ?_
      refine lv_iload_n C.1 C.2.1 dX4_indexOf_3 rfl (lv_at hl 1 rfl) ?_
      refine lv_iconst (v := (1 : Int32)) C.1 C.2.1 dX4_indexOf_4 (by decide) ?_
      refine lv_isub C.1 C.2.1 dX4_indexOf_5 ?_
      refine lv_icmp_ge (tgt := 22) C.1 C.2.1 dX4_indexOf_6 (by decide) (fun c6 => ?_) (fun c6 => ?_)
      · have hf := br_p c6 hf
        exact hB22 ls _ (lv_sub hl [3] rfl) hf
      · have hf := br_n c6 hf
        refine lv_aload_n C.1 C.2.1 dX4_indexOf_9 rfl (lv_at hl 0 rfl) ?_
        refine lv_iload_n C.1 C.2.1 dX4_indexOf_10 rfl (lv_at hl 3 rfl) ?_
        obtain ⟨hi11, hf⟩ := gd_some hf
        refine lc_gy C hK hP hi11 dX4_indexOf_11 ?_
        refine lv_iload_n C.1 C.2.1 dX4_indexOf_12 rfl (lv_at hl 2 rfl) ?_
        refine lv_icmp_eq (tgt := 22) C.1 C.2.1 dX4_indexOf_13 (by decide) (fun c13 => ?_) (fun c13 => ?_)
        · have hf := br_p c13 hf
          exact hB22 ls _ (lv_sub hl [3] rfl) hf
        · have hf := br_n c13 hf
          obtain ⟨x3_16, ex3_16, hf⟩ := lt_some hf
          refine lv_iinc (v := x3_16) (lv' := [(3, .int x3_16), (0, .ref (ad 29)), (1, .int x1), (2, .int x2)]) C.1 C.2.1 dX4_indexOf_16 hl (k := 3) rfl (by rw [ex3_16]; rfl) (by decide) rfl (fun ls hl => ?_)
          refine lv_goto (tgt := 2) C.1 C.2.1 dX4_indexOf_19 (by decide) ?_
          exact ih2 ls _ _ _ (lv_sub hl [1, 2, 3, 0] rfl) hf
  unfold fc_X4_indexOf_29 at hf
  refine lv_iconst (v := (0 : Int32)) C.1 C.2.1 dX4_indexOf_0 (by decide) ?_
  refine lv_istore_n (lv' := [(3, .int (0 : Int32)), (0, .ref (ad 29)), (1, .int z1), (2, .int z2)]) C.1 C.2.1 dX4_indexOf_1 rfl hl (by decide) rfl (fun ls hl => ?_)
  exact hB2 F ls _ _ _ (lv_sub hl [1, 2, 3, 0] rfl) hf
def fc_X4_nodeAt (F : Nat) (σ : CSt) (x1 : Int32) (x2 : Int32) : Option (Int32) :=
  bd (fc_X4_indexOf_29 F σ (cs_gr σ) x2) (fun r9 => bd (fc_X4_indexOf_28 F σ (cs_gc σ) x1) (fun r24 => some ((r9 * (18 : Int32)) + r24)))
set_option maxHeartbeats 4000000 in
set_option maxRecDepth 100000 in
theorem kc_X4_nodeAt (l : Launch) (D : va_G) (cA : Nat → ClassId) (ad : Nat → Nat) (σ : CSt) (η : HS) (F : Nat) (z1 : Int32) (z2 : Int32) (r : Int32) (hf : fc_X4_nodeAt F σ z1 z2 = some r) : KRc l D cA ad σ η yX4_nodeAt cX4_nodeAt 3 (some .int) (rmk 1 23) [.ref (ad 27), .int z1, .int z2] (QcV (.int r)) := by
  refine KRc.of (by decide) (Nat.le_of_ble_eq_true rfl) ?_
  intro p e s m below meth c C hr hlk hK hP hZ ls hl
  have hS : va_S NoA s.heap s.heap [] := va_S.rf
  have hl : lv_has ls 3 [(0, .ref (ad 27)), (1, .int z1), (2, .int z2)] := hl
  unfold fc_X4_nodeAt at hf
  refine lv_aload_n C.1 C.2.1 dX4_nodeAt_0 rfl (lv_at hl 0 rfl) ?_
  refine gc_gd_ys C hK hP wf_X4_15 dX4_nodeAt_1 ?_
  refine lv_aload_n C.1 C.2.1 dX4_nodeAt_4 rfl (lv_at hl 0 rfl) ?_
  refine gc_gd_rows C hK hP wf_X4_29 dX4_nodeAt_5 ?_
  refine lv_iload_n C.1 C.2.1 dX4_nodeAt_8 rfl (lv_at hl 2 rfl) ?_
  obtain ⟨r9, hc9, hf⟩ := bd_some hf
  refine cV_go (runRSc (As := [_, _, _]) C hK hP hZ hS wv_X4_55 hl (kc_X4_indexOf_29 l D cA ad _ η F _ _  r9 hc9) rfl rfl rfl (Nat.le_of_ble_eq_true rfl) ⟨Nat.le_refl _, Nat.le_refl _⟩ dX4_nodeAt_9) ?_
  refine lv_bipush (v := (18 : Int32)) C.1 C.2.1 dX4_nodeAt_12 (by decide) ?_
  refine lv_imul C.1 C.2.1 dX4_nodeAt_14 ?_
  refine lv_aload_n C.1 C.2.1 dX4_nodeAt_15 rfl (lv_at hl 0 rfl) ?_
  refine gc_gd_xs C hK hP wf_X4_11 dX4_nodeAt_16 ?_
  refine lv_aload_n C.1 C.2.1 dX4_nodeAt_19 rfl (lv_at hl 0 rfl) ?_
  refine gc_gd_columns C hK hP wf_X4_25 dX4_nodeAt_20 ?_
  refine lv_iload_n C.1 C.2.1 dX4_nodeAt_23 rfl (lv_at hl 1 rfl) ?_
  obtain ⟨r24, hc24, hf⟩ := bd_some hf
  refine cV_go (runRSc (As := [_, _, _]) C hK hP hZ hS wv_X4_55 hl (kc_X4_indexOf_28 l D cA ad _ η F _ _  r24 hc24) rfl rfl rfl (Nat.le_of_ble_eq_true rfl) ⟨Nat.le_refl _, Nat.le_refl _⟩ dX4_nodeAt_24) ?_
  refine lv_iadd C.1 C.2.1 dX4_nodeAt_27 ?_
  exact KRc.iret C hr hlk (Option.some.inj hf) dX4_nodeAt_28
def fc_X8_stateOf (F : Nat) (σ : CSt) (x0 : Int32) (x1 : Int32) : Option (Int32) :=
  some ((x0 * (4 : Int32)) + x1)
set_option maxHeartbeats 4000000 in
set_option maxRecDepth 100000 in
theorem kc_X8_stateOf (l : Launch) (D : va_G) (cA : Nat → ClassId) (ad : Nat → Nat) (σ : CSt) (η : HS) (F : Nat) (z0 : Int32) (z1 : Int32) (r : Int32) (hf : fc_X8_stateOf F σ z0 z1 = some r) : KRc l D cA ad σ η yX8_stateOf cX8_stateOf 2 (some .int) (rmk 0 0) [.int z0, .int z1] (QcV (.int r)) := by
  refine KRc.of (by decide) (Nat.le_of_ble_eq_true rfl) ?_
  intro p e s m below meth c C hr hlk hK hP hZ ls hl
  have hS : va_S NoA s.heap s.heap [] := va_S.rf
  have hl : lv_has ls 2 [(0, .int z0), (1, .int z1)] := hl
  unfold fc_X8_stateOf at hf
  refine lv_iload_n C.1 C.2.1 dX8_stateOf_0 rfl (lv_at hl 0 rfl) ?_
  refine lv_iconst (v := (4 : Int32)) C.1 C.2.1 dX8_stateOf_1 (by decide) ?_
  refine lv_imul C.1 C.2.1 dX8_stateOf_2 ?_
  refine lv_iload_n C.1 C.2.1 dX8_stateOf_3 rfl (lv_at hl 1 rfl) ?_
  refine lv_iadd C.1 C.2.1 dX8_stateOf_4 ?_
  exact KRc.iret C hr hlk (Option.some.inj hf) dX8_stateOf_5
def fc_X3_opposite (F : Nat) (σ : CSt) (x0 : Int32) : Option (Int32) :=
  some (x0 ^^^ (2 : Int32))
set_option maxHeartbeats 4000000 in
set_option maxRecDepth 100000 in
theorem kc_X3_opposite (l : Launch) (D : va_G) (cA : Nat → ClassId) (ad : Nat → Nat) (σ : CSt) (η : HS) (F : Nat) (z0 : Int32) (r : Int32) (hf : fc_X3_opposite F σ z0 = some r) : KRc l D cA ad σ η yX3_opposite cX3_opposite 1 (some .int) (rmk 0 0) [.int z0] (QcV (.int r)) := by
  refine KRc.of (by decide) (Nat.le_of_ble_eq_true rfl) ?_
  intro p e s m below meth c C hr hlk hK hP hZ ls hl
  have hS : va_S NoA s.heap s.heap [] := va_S.rf
  have hl : lv_has ls 1 [(0, .int z0)] := hl
  unfold fc_X3_opposite at hf
  refine lv_iload_n C.1 C.2.1 dX3_opposite_0 rfl (lv_at hl 0 rfl) ?_
  refine lv_iconst (v := (2 : Int32)) C.1 C.2.1 dX3_opposite_1 (by decide) ?_
  refine lv_ixor C.1 C.2.1 dX3_opposite_2 ?_
  exact KRc.iret C hr hlk (Option.some.inj hf) dX3_opposite_3
def fc_X8_restAtGoal_L30 (F : Nat) (σ : CSt) (s0 : Int32) : Option (Int32) :=
  some s0
def fc_X8_restAtGoal (F : Nat) (σ : CSt) (x1 : Int32) : Option (Int32) :=
  if x1 = (cs_fgs σ) then (some (1000000 : Int32)) else (bd (fc_X3_opposite F σ (cs_fgs σ)) (fun r16 => if x1 = r16 then (fc_X8_restAtGoal_L30 F σ (0 : Int32)) else (fc_X8_restAtGoal_L30 F σ (cs_fpen σ))))
set_option maxHeartbeats 4000000 in
set_option maxRecDepth 100000 in
theorem kc_X8_restAtGoal (l : Launch) (D : va_G) (cA : Nat → ClassId) (ad : Nat → Nat) (σ : CSt) (η : HS) (F : Nat) (z1 : Int32) (r : Int32) (hf : fc_X8_restAtGoal F σ z1 = some r) : KRc l D cA ad σ η yX8_restAtGoal cX8_restAtGoal 2 (some .int) (rmk 1 20) [.ref (ad 23), .int z1] (QcV (.int r)) := by
  refine KRc.of (by decide) (Nat.le_of_ble_eq_true rfl) ?_
  intro p e s m below meth c C hr hlk hK hP hZ ls hl
  have hS : va_S NoA s.heap s.heap [] := va_S.rf
  have hl : lv_has ls 2 [(0, .ref (ad 23)), (1, .int z1)] := hl
  have hB30 : ∀ (ls : Array Slot) (s0 : Int32), lv_has ls 2 [] → fc_X8_restAtGoal_L30 F σ s0 = some r → WRc p l e 1 20 s m [.ref (ad 23), .int z1] below meth c (QcV (.int r)) (F0 m 30 ls [.int s0]) := by
    intro ls s0 hl hf
    unfold fc_X8_restAtGoal_L30 at hf
    exact KRc.iret C hr hlk (Option.some.inj hf) dX8_restAtGoal_30
  unfold fc_X8_restAtGoal at hf
  refine lv_iload_n C.1 C.2.1 dX8_restAtGoal_0 rfl (lv_at hl 1 rfl) ?_
  refine lv_aload_n C.1 C.2.1 dX8_restAtGoal_1 rfl (lv_at hl 0 rfl) ?_
  refine gc_fi_goalSide C hK hP wf_X8_82 dX8_restAtGoal_2 ?_
  refine lv_icmp_ne (tgt := 11) C.1 C.2.1 dX8_restAtGoal_5 (by decide) (fun c5 => ?_) (fun c5 => ?_)
  · have hf := br_n c5 hf
    refine lv_iload_n C.1 C.2.1 dX8_restAtGoal_11 rfl (lv_at hl 1 rfl) ?_
    refine lv_aload_n C.1 C.2.1 dX8_restAtGoal_12 rfl (lv_at hl 0 rfl) ?_
    refine gc_fi_goalSide C hK hP wf_X8_82 dX8_restAtGoal_13 ?_
    obtain ⟨r16, hc16, hf⟩ := bd_some hf
    refine cV_go (runRSc (As := [_]) C hK hP hZ hS wv_X8_120 hl (kc_X3_opposite l D cA ad _ η F _  r16 hc16) rfl rfl rfl (Nat.le_of_ble_eq_true rfl) ⟨Nat.le_refl _, Nat.le_refl _⟩ dX8_restAtGoal_16) ?_
    refine lv_icmp_ne (tgt := 26) C.1 C.2.1 dX8_restAtGoal_19 (by decide) (fun c19 => ?_) (fun c19 => ?_)
    · have hf := br_n c19 hf
      refine lv_aload_n C.1 C.2.1 dX8_restAtGoal_26 rfl (lv_at hl 0 rfl) ?_
      refine gc_fi_penalty C hK hP wf_X8_78 dX8_restAtGoal_27 ?_
      exact hB30 ls _ (lv_sub hl [] rfl) hf
    · have hf := br_p c19 hf
      refine lv_iconst (v := (0 : Int32)) C.1 C.2.1 dX8_restAtGoal_22 (by decide) ?_
      refine lv_goto (tgt := 30) C.1 C.2.1 dX8_restAtGoal_23 (by decide) ?_
      exact hB30 ls _ (lv_sub hl [] rfl) hf
  · have hf := br_p c5 hf
    refine lv_ldc (v := (1000000 : Int32)) C.1 C.2.1 C.2.2.2.1 (C.2.2.2.2 _ wc_X8_72) dX8_restAtGoal_8 ?_
    exact KRc.iret C hr hlk (Option.some.inj hf) dX8_restAtGoal_10
def fc_X7_remove_L54 (F : Nat) (σ : CSt) : Option (CSt) :=
  some σ
def fc_X7_remove_L27 (F : Nat) (σ : CSt) (x2 : Int32) (x3 : Int32) (x4 : Int32) : Option (CSt) :=
  if x4 < 0 then (gd (ix (x2 &&& (255 : Int32)) 256 = true) (lt (sc_whd σ (x2 &&& (255 : Int32)) x3) (fun σ53 => fc_X7_remove_L54 F σ53))) else (gd (ix x4 1296 = true) (lt (sc_wnx σ x4 x3) (fun σ39 => fc_X7_remove_L54 F σ39)))
def fc_X7_remove (F : Nat) (σ : CSt) (x1 : Int32) (x2 : Int32) : Option (CSt) :=
  gd (ix x1 1296 = true) (lt (cs_wnx σ x1.toNatClampNeg) (fun x3_6 => gd (ix x1 1296 = true) (lt (cs_wpv σ x1.toNatClampNeg) (fun x4_13 => if x3_6 < 0 then (fc_X7_remove_L27 F σ x2 x3_6 x4_13) else (gd (ix x3_6 1296 = true) (lt (sc_wpv σ x3_6 x4_13) (fun σ26 => fc_X7_remove_L27 F σ26 x2 x3_6 x4_13)))))))
set_option maxHeartbeats 4000000 in
set_option maxRecDepth 100000 in
theorem kc_X7_remove (l : Launch) (D : va_G) (cA : Nat → ClassId) (ad : Nat → Nat) (σ0 : CSt) (η : HS) (F : Nat) (z1 : Int32) (z2 : Int32) (σr : CSt) (hf : fc_X7_remove F σ0 z1 z2 = some σr) : KC l D cA ad σ0 η yX7_remove cX7_remove 5 none (rmk 0 0) [.ref (ad 32), .int z1, .int z2] none σr := by
  refine KC.of (by decide) (Nat.le_of_ble_eq_true rfl) ?_
  intro p e s m below meth c A hAe hA C hr hlk hK hP hD hS hZ ls hl
  have hl : lv_has ls 5 [(0, .ref (ad 32)), (1, .int z1), (2, .int z2)] := hl
  have hB54 : ∀ (H : Heap) (locs : List Loc) (σ : CSt) (ls : Array Slot), HC D cA ad σ η H → va_D A (wC cA ad σ η) → va_S A s.heap H locs → lv_has ls 5 [] → fc_X7_remove_L54 F σ = some σr → WC p l e 0 0 s m [.ref (ad 32), .int z1, .int z2] below meth c none D cA ad σ0 η σr A H locs (F0 m 54 ls []) := by
    intro H locs σ ls hP hD hS hl hf
    unfold fc_X7_remove_L54 at hf
    obtain rfl := Option.some.inj hf
    exact KC.vret C hr hlk hK hAe hP hD hS rfl dX7_remove_54
  have hB27 : ∀ (H : Heap) (locs : List Loc) (σ : CSt) (ls : Array Slot) (x2 : Int32) (x3 : Int32) (x4 : Int32), HC D cA ad σ η H → va_D A (wC cA ad σ η) → va_S A s.heap H locs → lv_has ls 5 [(0, .ref (ad 32)), (2, .int x2), (3, .int x3), (4, .int x4)] → fc_X7_remove_L27 F σ x2 x3 x4 = some σr → WC p l e 0 0 s m [.ref (ad 32), .int z1, .int z2] below meth c none D cA ad σ0 η σr A H locs (F0 m 27 ls []) := by
    intro H locs σ ls x2 x3 x4 hP hD hS hl hf
    unfold fc_X7_remove_L27 at hf
    refine lv_iload C.1 C.2.1 dX7_remove_27 (lv_at hl 3 rfl) ?_
    refine lv_if_lt (tgt := 43) C.1 C.2.1 dX7_remove_29 (by decide) (fun c29 => ?_) (fun c29 => ?_)
    · have hf := br_p c29 hf
      refine lv_aload_n C.1 C.2.1 dX7_remove_43 rfl (lv_at hl 0 rfl) ?_
      refine gc_wa_heads C hK hP wf_X7_11 dX7_remove_44 ?_
      refine lv_iload_n C.1 C.2.1 dX7_remove_47 rfl (lv_at hl 1 rfl) ?_
      refine lv_sipush (v := (255 : Int32)) C.1 C.2.1 dX7_remove_48 (by decide) ?_
      refine lv_iand C.1 C.2.1 dX7_remove_51 ?_
      refine lv_iload_n C.1 C.2.1 dX7_remove_52 rfl (lv_at hl 2 rfl) ?_
      obtain ⟨hi53, hf⟩ := gd_some hf
      replace hf := lt_e hf
      refine uc_whd C hK hP hD hS hi53 dX7_remove_53 (fun H locs hP hD hS => ?_)
      exact hB54 _ _ _ ls hP hD hS (lv_sub hl [] rfl) hf
    · have hf := br_n c29 hf
      refine lv_aload_n C.1 C.2.1 dX7_remove_32 rfl (lv_at hl 0 rfl) ?_
      refine gc_wa_next C hK hP wf_X7_15 dX7_remove_33 ?_
      refine lv_iload C.1 C.2.1 dX7_remove_36 (lv_at hl 3 rfl) ?_
      refine lv_iload_n C.1 C.2.1 dX7_remove_38 rfl (lv_at hl 2 rfl) ?_
      obtain ⟨hi39, hf⟩ := gd_some hf
      replace hf := lt_e hf
      refine uc_wnx C hK hP hD hS hi39 dX7_remove_39 (fun H locs hP hD hS => ?_)
      refine lv_goto (tgt := 54) C.1 C.2.1 dX7_remove_40 (by decide) ?_
      exact hB54 _ _ _ ls hP hD hS (lv_sub hl [] rfl) hf
  unfold fc_X7_remove at hf
  refine lv_aload_n C.1 C.2.1 dX7_remove_0 rfl (lv_at hl 0 rfl) ?_
  refine gc_wa_next C hK hP wf_X7_15 dX7_remove_1 ?_
  refine lv_iload_n C.1 C.2.1 dX7_remove_4 rfl (lv_at hl 1 rfl) ?_
  obtain ⟨hi5, hf⟩ := gd_some hf
  refine lc_wnx C hK hP hi5 dX7_remove_5 ?_
  obtain ⟨x3_6, ex3_6, hf⟩ := lt_some hf
  refine lv_tope ex3_6 ?_
  refine lv_istore_n (lv' := [(3, .int x3_6), (0, .ref (ad 32)), (1, .int z1), (2, .int z2)]) C.1 C.2.1 dX7_remove_6 rfl hl (by decide) rfl (fun ls hl => ?_)
  refine lv_aload_n C.1 C.2.1 dX7_remove_7 rfl (lv_at hl 1 rfl) ?_
  refine gc_wa_previous C hK hP wf_X7_18 dX7_remove_8 ?_
  refine lv_iload_n C.1 C.2.1 dX7_remove_11 rfl (lv_at hl 2 rfl) ?_
  obtain ⟨hi12, hf⟩ := gd_some hf
  refine lc_wpv C hK hP hi12 dX7_remove_12 ?_
  obtain ⟨x4_13, ex4_13, hf⟩ := lt_some hf
  refine lv_tope ex4_13 ?_
  refine lv_istore (lv' := [(4, .int x4_13), (3, .int x3_6), (0, .ref (ad 32)), (1, .int z1), (2, .int z2)]) C.1 C.2.1 dX7_remove_13 hl (by decide) rfl (fun ls hl => ?_)
  refine lv_iload_n C.1 C.2.1 dX7_remove_15 rfl (lv_at hl 1 rfl) ?_
  refine lv_if_lt (tgt := 27) C.1 C.2.1 dX7_remove_16 (by decide) (fun c16 => ?_) (fun c16 => ?_)
  · have hf := br_p c16 hf
    exact hB27 _ _ _ ls _ _ _ hP hD hS (lv_sub hl [2, 4, 1, 0] rfl) hf
  · have hf := br_n c16 hf
    refine lv_aload_n C.1 C.2.1 dX7_remove_19 rfl (lv_at hl 2 rfl) ?_
    refine gc_wa_previous C hK hP wf_X7_18 dX7_remove_20 ?_
    refine lv_iload_n C.1 C.2.1 dX7_remove_23 rfl (lv_at hl 1 rfl) ?_
    refine lv_iload C.1 C.2.1 dX7_remove_24 (lv_at hl 0 rfl) ?_
    obtain ⟨hi26, hf⟩ := gd_some hf
    replace hf := lt_e hf
    refine uc_wpv C hK hP hD hS hi26 dX7_remove_26 (fun H locs hP hD hS => ?_)
    exact hB27 _ _ _ ls _ _ _ hP hD hS (lv_sub hl [2, 4, 1, 0] rfl) hf
def fc_X7_put_L42 (F : Nat) (σ : CSt) (x1 : Int32) (x3 : Int32) : Option (CSt) :=
  gd (ix x3 256 = true) (lt (sc_whd σ x3 x1) (fun σ48 => some σ48))
def fc_X7_put (F : Nat) (σ : CSt) (x1 : Int32) (x2 : Int32) : Option (CSt) :=
  lt (x2 &&& (255 : Int32)) (fun x3_5 => gd (ix x3_5 256 = true) (lt (cs_whd σ x3_5.toNatClampNeg) (fun x4_12 => gd (ix x1 1296 = true) (lt (sc_wnx σ x1 x4_12) (fun σ21 => gd (ix x1 1296 = true) (lt (sc_wpv σ21 x1 (-1 : Int32)) (fun σ28 => if x4_12 < 0 then (fc_X7_put_L42 F σ28 x1 x3_5) else (gd (ix x4_12 1296 = true) (lt (sc_wpv σ28 x4_12 x1) (fun σ41 => fc_X7_put_L42 F σ41 x1 x3_5))))))))))
set_option maxHeartbeats 4000000 in
set_option maxRecDepth 100000 in
theorem kc_X7_put (l : Launch) (D : va_G) (cA : Nat → ClassId) (ad : Nat → Nat) (σ0 : CSt) (η : HS) (F : Nat) (z1 : Int32) (z2 : Int32) (σr : CSt) (hf : fc_X7_put F σ0 z1 z2 = some σr) : KC l D cA ad σ0 η yX7_put cX7_put 5 none (rmk 0 0) [.ref (ad 32), .int z1, .int z2] none σr := by
  refine KC.of (by decide) (Nat.le_of_ble_eq_true rfl) ?_
  intro p e s m below meth c A hAe hA C hr hlk hK hP hD hS hZ ls hl
  have hl : lv_has ls 5 [(0, .ref (ad 32)), (1, .int z1), (2, .int z2)] := hl
  have hB42 : ∀ (H : Heap) (locs : List Loc) (σ : CSt) (ls : Array Slot) (x1 : Int32) (x3 : Int32), HC D cA ad σ η H → va_D A (wC cA ad σ η) → va_S A s.heap H locs → lv_has ls 5 [(0, .ref (ad 32)), (1, .int x1), (3, .int x3)] → fc_X7_put_L42 F σ x1 x3 = some σr → WC p l e 0 0 s m [.ref (ad 32), .int z1, .int z2] below meth c none D cA ad σ0 η σr A H locs (F0 m 42 ls []) := by
    intro H locs σ ls x1 x3 hP hD hS hl hf
    unfold fc_X7_put_L42 at hf
    refine lv_aload_n C.1 C.2.1 dX7_put_42 rfl (lv_at hl 0 rfl) ?_
    refine gc_wa_heads C hK hP wf_X7_11 dX7_put_43 ?_
    refine lv_iload_n C.1 C.2.1 dX7_put_46 rfl (lv_at hl 2 rfl) ?_
    refine lv_iload_n C.1 C.2.1 dX7_put_47 rfl (lv_at hl 1 rfl) ?_
    obtain ⟨hi48, hf⟩ := gd_some hf
    replace hf := lt_e hf
    refine uc_whd C hK hP hD hS hi48 dX7_put_48 (fun H locs hP hD hS => ?_)
    obtain rfl := Option.some.inj hf
    exact KC.vret C hr hlk hK hAe hP hD hS rfl dX7_put_49
  unfold fc_X7_put at hf
  refine lv_iload_n C.1 C.2.1 dX7_put_0 rfl (lv_at hl 2 rfl) ?_
  refine lv_sipush (v := (255 : Int32)) C.1 C.2.1 dX7_put_1 (by decide) ?_
  refine lv_iand C.1 C.2.1 dX7_put_4 ?_
  obtain ⟨x3_5, ex3_5, hf⟩ := lt_some hf
  refine lv_tope ex3_5 ?_
  refine lv_istore_n (lv' := [(3, .int x3_5), (0, .ref (ad 32)), (1, .int z1), (2, .int z2)]) C.1 C.2.1 dX7_put_5 rfl hl (by decide) rfl (fun ls hl => ?_)
  refine lv_aload_n C.1 C.2.1 dX7_put_6 rfl (lv_at hl 1 rfl) ?_
  refine gc_wa_heads C hK hP wf_X7_11 dX7_put_7 ?_
  refine lv_iload_n C.1 C.2.1 dX7_put_10 rfl (lv_at hl 0 rfl) ?_
  obtain ⟨hi11, hf⟩ := gd_some hf
  refine lc_whd C hK hP hi11 dX7_put_11 ?_
  obtain ⟨x4_12, ex4_12, hf⟩ := lt_some hf
  refine lv_tope ex4_12 ?_
  refine lv_istore (lv' := [(4, .int x4_12), (3, .int x3_5), (0, .ref (ad 32)), (1, .int z1), (2, .int z2)]) C.1 C.2.1 dX7_put_12 hl (by decide) rfl (fun ls hl => ?_)
  refine lv_aload_n C.1 C.2.1 dX7_put_14 rfl (lv_at hl 2 rfl) ?_
  refine gc_wa_next C hK hP wf_X7_15 dX7_put_15 ?_
  refine lv_iload_n C.1 C.2.1 dX7_put_18 rfl (lv_at hl 3 rfl) ?_
  refine lv_iload C.1 C.2.1 dX7_put_19 (lv_at hl 0 rfl) ?_
  obtain ⟨hi21, hf⟩ := gd_some hf
  replace hf := lt_e hf
  refine uc_wnx C hK hP hD hS hi21 dX7_put_21 (fun H locs hP hD hS => ?_)
  refine lv_aload_n C.1 C.2.1 dX7_put_22 rfl (lv_at hl 2 rfl) ?_
  refine gc_wa_previous C hK hP wf_X7_18 dX7_put_23 ?_
  refine lv_iload_n C.1 C.2.1 dX7_put_26 rfl (lv_at hl 3 rfl) ?_
  refine lv_iconst (v := (-1 : Int32)) C.1 C.2.1 dX7_put_27 (by decide) ?_
  obtain ⟨hi28, hf⟩ := gd_some hf
  replace hf := lt_e hf
  refine uc_wpv C hK hP hD hS hi28 dX7_put_28 (fun H locs hP hD hS => ?_)
  refine lv_iload C.1 C.2.1 dX7_put_29 (lv_at hl 0 rfl) ?_
  refine lv_if_lt (tgt := 42) C.1 C.2.1 dX7_put_31 (by decide) (fun c31 => ?_) (fun c31 => ?_)
  · have hf := br_p c31 hf
    exact hB42 _ _ _ ls _ _ hP hD hS (lv_sub hl [2, 3, 1] rfl) hf
  · have hf := br_n c31 hf
    refine lv_aload_n C.1 C.2.1 dX7_put_34 rfl (lv_at hl 2 rfl) ?_
    refine gc_wa_previous C hK hP wf_X7_18 dX7_put_35 ?_
    refine lv_iload C.1 C.2.1 dX7_put_38 (lv_at hl 0 rfl) ?_
    refine lv_iload_n C.1 C.2.1 dX7_put_40 rfl (lv_at hl 3 rfl) ?_
    obtain ⟨hi41, hf⟩ := gd_some hf
    replace hf := lt_e hf
    refine uc_wpv C hK hP hD hS hi41 dX7_put_41 (fun H locs hP hD hS => ?_)
    exact hB42 _ _ _ ls _ _ hP hD hS (lv_sub hl [2, 3, 1] rfl) hf
def fc_X8_offer_L36 (F : Nat) (σ : CSt) (x1 : Int32) (x2 : Int32) : Option (CSt) :=
  gd (ix x1 1296 = true) (lt (sc_frests σ x1 x2) (fun σ42 => bd (fc_X7_put F σ42 x1 x2) (fun σ49 => some σ49)))
def fc_X8_offer (F : Nat) (σ : CSt) (x1 : Int32) (x2 : Int32) : Option (CSt) :=
  gd (ix x1 1296 = true) (if x2 < (cs_frests σ x1.toNatClampNeg) then (gd (ix x1 1296 = true) (if (1000000 : Int32) ≤ (cs_frests σ x1.toNatClampNeg) then (fc_X8_offer_L36 F σ x1 x2) else (gd (ix x1 1296 = true) (bd (fc_X7_remove F σ x1 (cs_frests σ x1.toNatClampNeg)) (fun σ33 => fc_X8_offer_L36 F σ33 x1 x2))))) else (some σ))
set_option maxHeartbeats 4000000 in
set_option maxRecDepth 100000 in
theorem kc_X8_offer (l : Launch) (D : va_G) (cA : Nat → ClassId) (ad : Nat → Nat) (σ0 : CSt) (η : HS) (F : Nat) (z1 : Int32) (z2 : Int32) (σr : CSt) (hf : fc_X8_offer F σ0 z1 z2 = some σr) : KC l D cA ad σ0 η yX8_offer cX8_offer 3 none (rmk 1 24) [.ref (ad 23), .int z1, .int z2] none σr := by
  refine KC.of (by decide) (Nat.le_of_ble_eq_true rfl) ?_
  intro p e s m below meth c A hAe hA C hr hlk hK hP hD hS hZ ls hl
  have hl : lv_has ls 3 [(0, .ref (ad 23)), (1, .int z1), (2, .int z2)] := hl
  have hB36 : ∀ (H : Heap) (locs : List Loc) (σ : CSt) (ls : Array Slot) (x1 : Int32) (x2 : Int32), HC D cA ad σ η H → va_D A (wC cA ad σ η) → va_S A s.heap H locs → lv_has ls 3 [(0, .ref (ad 23)), (1, .int x1), (2, .int x2)] → fc_X8_offer_L36 F σ x1 x2 = some σr → WC p l e 1 24 s m [.ref (ad 23), .int z1, .int z2] below meth c none D cA ad σ0 η σr A H locs (F0 m 36 ls []) := by
    intro H locs σ ls x1 x2 hP hD hS hl hf
    unfold fc_X8_offer_L36 at hf
    refine lv_aload_n C.1 C.2.1 dX8_offer_36 rfl (lv_at hl 0 rfl) ?_
    refine gc_fi_rests C hK hP wf_X8_29 dX8_offer_37 ?_
    refine lv_iload_n C.1 C.2.1 dX8_offer_40 rfl (lv_at hl 1 rfl) ?_
    refine lv_iload_n C.1 C.2.1 dX8_offer_41 rfl (lv_at hl 2 rfl) ?_
    obtain ⟨hi42, hf⟩ := gd_some hf
    replace hf := lt_e hf
    refine uc_frests C hK hP hD hS hi42 dX8_offer_42 (fun H locs hP hD hS => ?_)
    refine lv_aload_n C.1 C.2.1 dX8_offer_43 rfl (lv_at hl 0 rfl) ?_
    refine gc_fi_waiting C hK hP wf_X8_25 dX8_offer_44 ?_
    refine lv_iload_n C.1 C.2.1 dX8_offer_47 rfl (lv_at hl 1 rfl) ?_
    refine lv_iload_n C.1 C.2.1 dX8_offer_48 rfl (lv_at hl 2 rfl) ?_
    obtain ⟨σ49, hc49, hf⟩ := bd_some hf
    refine callCV (As := [_, _]) C hK hP hD hA hS hZ wv_X8_126 hl (kc_X7_put l D cA ad _ η F _ _  σ49 hc49) (rcC 32 7 hK hP rfl rfl) rfl rfl rfl (Nat.le_of_ble_eq_true rfl) ⟨Nat.le_refl _, Nat.le_refl _⟩ dX8_offer_49 (fun H locs hP hD hS => ?_)
    obtain rfl := Option.some.inj hf
    exact KC.vret C hr hlk hK hAe hP hD hS rfl dX8_offer_52
  unfold fc_X8_offer at hf
  refine lv_iload_n C.1 C.2.1 dX8_offer_0 rfl (lv_at hl 2 rfl) ?_
  refine lv_aload_n C.1 C.2.1 dX8_offer_1 rfl (lv_at hl 0 rfl) ?_
  refine gc_fi_rests C hK hP wf_X8_29 dX8_offer_2 ?_
  refine lv_iload_n C.1 C.2.1 dX8_offer_5 rfl (lv_at hl 1 rfl) ?_
  obtain ⟨hi6, hf⟩ := gd_some hf
  refine lc_frests C hK hP hi6 dX8_offer_6 ?_
  refine lv_icmp_lt (tgt := 11) C.1 C.2.1 dX8_offer_7 (by decide) (fun c7 => ?_) (fun c7 => ?_)
  · have hf := br_p c7 hf
    refine lv_aload_n C.1 C.2.1 dX8_offer_11 rfl (lv_at hl 0 rfl) ?_
    refine gc_fi_rests C hK hP wf_X8_29 dX8_offer_12 ?_
    refine lv_iload_n C.1 C.2.1 dX8_offer_15 rfl (lv_at hl 1 rfl) ?_
    obtain ⟨hi16, hf⟩ := gd_some hf
    refine lc_frests C hK hP hi16 dX8_offer_16 ?_
    refine lv_ldc (v := (1000000 : Int32)) C.1 C.2.1 C.2.2.2.1 (C.2.2.2.2 _ wc_X8_72) dX8_offer_17 ?_
    refine lv_icmp_ge (tgt := 36) C.1 C.2.1 dX8_offer_19 (by decide) (fun c19 => ?_) (fun c19 => ?_)
    · have hf := br_p c19 hf
      exact hB36 _ _ _ ls _ _ hP hD hS (lv_sub hl [0, 1, 2] rfl) hf
    · have hf := br_n c19 hf
      refine lv_aload_n C.1 C.2.1 dX8_offer_22 rfl (lv_at hl 0 rfl) ?_
      refine gc_fi_waiting C hK hP wf_X8_25 dX8_offer_23 ?_
      refine lv_iload_n C.1 C.2.1 dX8_offer_26 rfl (lv_at hl 1 rfl) ?_
      refine lv_aload_n C.1 C.2.1 dX8_offer_27 rfl (lv_at hl 0 rfl) ?_
      refine gc_fi_rests C hK hP wf_X8_29 dX8_offer_28 ?_
      refine lv_iload_n C.1 C.2.1 dX8_offer_31 rfl (lv_at hl 1 rfl) ?_
      obtain ⟨hi32, hf⟩ := gd_some hf
      refine lc_frests C hK hP hi32 dX8_offer_32 ?_
      obtain ⟨σ33, hc33, hf⟩ := bd_some hf
      refine callCV (As := [_, _]) C hK hP hD hA hS hZ wv_X8_123 hl (kc_X7_remove l D cA ad _ η F _ _  σ33 hc33) (rcC 32 7 hK hP rfl rfl) rfl rfl rfl (Nat.le_of_ble_eq_true rfl) ⟨Nat.le_refl _, Nat.le_refl _⟩ dX8_offer_33 (fun H locs hP hD hS => ?_)
      exact hB36 _ _ _ ls _ _ hP hD hS (lv_sub hl [0, 1, 2] rfl) hf
  · have hf := br_n c7 hf
    obtain rfl := Option.some.inj hf
    exact KC.vret C hr hlk hK hAe hP hD hS rfl dX8_offer_10
def fc_X7_takeCheapest_L2_c (F : Nat) (k2 : CSt → Int32 → Option (Int32 × CSt)) (σ : CSt) (x1 : Int32) : Option (Int32 × CSt) :=
  if (256 : Int32) ≤ x1 then (some ((-1 : Int32), σ)) else (lt ((cs_wre σ) + x1) (fun x2_15 => gd (ix (x2_15 &&& (255 : Int32)) 256 = true) (lt (cs_whd σ (x2_15 &&& (255 : Int32)).toNatClampNeg) (fun x3_26 => if x3_26 < 0 then (lt (x1 + (1 : Int32)) (fun x1_44 => k2 σ x1_44)) else (lt (cs_wre_s σ x2_15) (fun σ33 => bd (fc_X7_remove F σ33 x3_26 x2_15) (fun σ39 => some (x3_26, σ39))))))))
def fc_X7_takeCheapest_L2 (F : Nat) (n : Nat) (σ : CSt) (x1 : Int32) : Option (Int32 × CSt) := lpN (fun (k : CSt × Int32 → Option (Int32 × CSt)) a => fc_X7_takeCheapest_L2_c F (fun σ x1 => k (σ, x1)) a.1 a.2) n (σ, x1)
def fc_X7_takeCheapest (F : Nat) (σ : CSt) : Option (Int32 × CSt) :=
  fc_X7_takeCheapest_L2 F F σ (0 : Int32)
set_option maxHeartbeats 4000000 in
set_option maxRecDepth 100000 in
theorem kc_X7_takeCheapest (l : Launch) (D : va_G) (cA : Nat → ClassId) (ad : Nat → Nat) (σ0 : CSt) (η : HS) (F : Nat)  (r : Int32) (σr : CSt) (hf : fc_X7_takeCheapest F σ0 = some (r, σr)) : KC l D cA ad σ0 η yX7_takeCheapest cX7_takeCheapest 4 (some .int) (rmk 1 24) [.ref (ad 32)] (some (.int r)) σr := by
  refine KC.of (by decide) (Nat.le_of_ble_eq_true rfl) ?_
  intro p e s m below meth c A hAe hA C hr hlk hK hP hD hS hZ ls hl
  have hl : lv_has ls 4 [(0, .ref (ad 32))] := hl
  have hB2 : ∀ (n2 : Nat) (H : Heap) (locs : List Loc) (σ : CSt) (ls : Array Slot) (x1 : Int32), HC D cA ad σ η H → va_D A (wC cA ad σ η) → va_S A s.heap H locs → lv_has ls 4 [(0, .ref (ad 32)), (1, .int x1)] → fc_X7_takeCheapest_L2 F n2 σ x1 = some (r, σr) → WC p l e 1 24 s m [.ref (ad 32)] below meth c (some (.int r)) D cA ad σ0 η σr A H locs (F0 m 2 ls []) := by
    intro n2
    induction n2 with
    | zero =>
      intro H locs σ ls x1 hP hD hS hl hf
      cases (show (none : Option _) = _ from hf)
    | succ n2 ih2 =>
      intro H locs σ ls x1 hP hD hS hl hf
      have hf : fc_X7_takeCheapest_L2_c F (fc_X7_takeCheapest_L2 F n2) σ x1 = some (r, σr) := hf
      unfold fc_X7_takeCheapest_L2_c at hf
      refine lv_iload_n C.1 C.2.1 dX7_takeCheapest_2 rfl (lv_at hl 1 rfl) ?_
      refine lv_sipush (v := (256 : Int32)) C.1 C.2.1 dX7_takeCheapest_3 (by decide) ?_
      refine lv_icmp_ge (tgt := 50) C.1 C.2.1 dX7_takeCheapest_6 (by decide) (fun c6 => ?_) (fun c6 => ?_)
      · have hf := br_p c6 hf
        refine lv_iconst (v := (-1 : Int32)) C.1 C.2.1 dX7_takeCheapest_50 (by decide) ?_
        obtain ⟨rfl, rfl⟩ := Prod.mk.inj (Option.some.inj hf)
        exact KC.iret C hr hlk hK hAe hP hD hS rfl dX7_takeCheapest_51
      · have hf := br_n c6 hf
        refine lv_aload_n C.1 C.2.1 dX7_takeCheapest_9 rfl (lv_at hl 0 rfl) ?_
        refine gc_wa_reached C hK hP wf_X7_21 dX7_takeCheapest_10 ?_
        refine lv_iload_n C.1 C.2.1 dX7_takeCheapest_13 rfl (lv_at hl 1 rfl) ?_
        refine lv_iadd C.1 C.2.1 dX7_takeCheapest_14 ?_
        obtain ⟨x2_15, ex2_15, hf⟩ := lt_some hf
        refine lv_tope ex2_15 ?_
        refine lv_istore_n (lv' := [(2, .int x2_15), (0, .ref (ad 32)), (1, .int x1)]) C.1 C.2.1 dX7_takeCheapest_15 rfl hl (by decide) rfl (fun ls hl => ?_)
        refine lv_aload_n C.1 C.2.1 dX7_takeCheapest_16 rfl (lv_at hl 1 rfl) ?_
        refine gc_wa_heads C hK hP wf_X7_11 dX7_takeCheapest_17 ?_
        refine lv_iload_n C.1 C.2.1 dX7_takeCheapest_20 rfl (lv_at hl 0 rfl) ?_
        refine lv_sipush (v := (255 : Int32)) C.1 C.2.1 dX7_takeCheapest_21 (by decide) ?_
        refine lv_iand C.1 C.2.1 dX7_takeCheapest_24 ?_
        obtain ⟨hi25, hf⟩ := gd_some hf
        refine lc_whd C hK hP hi25 dX7_takeCheapest_25 ?_
        obtain ⟨x3_26, ex3_26, hf⟩ := lt_some hf
        refine lv_tope ex3_26 ?_
        refine lv_istore_n (lv' := [(3, .int x3_26), (2, .int x2_15), (0, .ref (ad 32)), (1, .int x1)]) C.1 C.2.1 dX7_takeCheapest_26 rfl hl (by decide) rfl (fun ls hl => ?_)
        refine lv_iload_n C.1 C.2.1 dX7_takeCheapest_27 rfl (lv_at hl 0 rfl) ?_
        refine lv_if_lt (tgt := 44) C.1 C.2.1 dX7_takeCheapest_28 (by decide) (fun c28 => ?_) (fun c28 => ?_)
        · have hf := br_p c28 hf
          obtain ⟨x1_44, ex1_44, hf⟩ := lt_some hf
          refine lv_iinc (v := x1_44) (lv' := [(1, .int x1_44), (3, .int x3_26), (2, .int x2_15), (0, .ref (ad 32))]) C.1 C.2.1 dX7_takeCheapest_44 hl (k := 3) rfl (by rw [ex1_44]; rfl) (by decide) rfl (fun ls hl => ?_)
          refine lv_goto (tgt := 2) C.1 C.2.1 dX7_takeCheapest_47 (by decide) ?_
          exact ih2 _ _ _ ls _ hP hD hS (lv_sub hl [3, 0] rfl) hf
        · have hf := br_n c28 hf
          refine lv_aload_n C.1 C.2.1 dX7_takeCheapest_31 rfl (lv_at hl 2 rfl) ?_
          refine lv_iload_n C.1 C.2.1 dX7_takeCheapest_32 rfl (lv_at hl 1 rfl) ?_
          replace hf := lt_e hf
          refine pc_wa_reached C hK hP hD hS wf_X7_21 dX7_takeCheapest_33 (fun H locs hP hD hS => ?_)
          refine lv_aload_n C.1 C.2.1 dX7_takeCheapest_36 rfl (lv_at hl 2 rfl) ?_
          refine lv_iload_n C.1 C.2.1 dX7_takeCheapest_37 rfl (lv_at hl 0 rfl) ?_
          refine lv_iload_n C.1 C.2.1 dX7_takeCheapest_38 rfl (lv_at hl 1 rfl) ?_
          obtain ⟨σ39, hc39, hf⟩ := bd_some hf
          refine callCV (As := [_, _]) C hK hP hD hA hS hZ wv_X7_31 hl (kc_X7_remove l D cA ad _ η F _ _  σ39 hc39) (rcC 32 7 hK hP rfl rfl) rfl rfl rfl (Nat.le_of_ble_eq_true rfl) ⟨Nat.le_refl _, Nat.le_refl _⟩ dX7_takeCheapest_39 (fun H locs hP hD hS => ?_)
          refine lv_iload_n C.1 C.2.1 dX7_takeCheapest_42 rfl (lv_at hl 0 rfl) ?_
          obtain ⟨rfl, rfl⟩ := Prod.mk.inj (Option.some.inj hf)
          exact KC.iret C hr hlk hK hAe hP hD hS rfl dX7_takeCheapest_43
  unfold fc_X7_takeCheapest at hf
  refine lv_iconst (v := (0 : Int32)) C.1 C.2.1 dX7_takeCheapest_0 (by decide) ?_
  refine lv_istore_n (lv' := [(1, .int (0 : Int32)), (0, .ref (ad 32))]) C.1 C.2.1 dX7_takeCheapest_1 rfl hl (by decide) rfl (fun ls hl => ?_)
  exact hB2 F _ _ _ ls _ hP hD hS (lv_sub hl [1, 0] rfl) hf
def fc_X4_neighbour_L113 (F : Nat) (σ : CSt) (s0 : Int32) : Option (Int32) :=
  some s0
def fc_X4_neighbour_L112 (F : Nat) (σ : CSt) : Option (Int32) :=
  fc_X4_neighbour_L113 F σ (-1 : Int32)
def fc_X4_neighbour_L89 (F : Nat) (σ : CSt) (s0 : Int32) : Option (Int32) :=
  some s0
def fc_X4_neighbour_L71 (F : Nat) (σ : CSt) (s0 : Int32) : Option (Int32) :=
  some s0
def fc_X4_neighbour_L54 (F : Nat) (σ : CSt) (s0 : Int32) : Option (Int32) :=
  some s0
def fc_X4_neighbour_L53 (F : Nat) (σ : CSt) : Option (Int32) :=
  fc_X4_neighbour_L54 F σ (-1 : Int32)
def fc_X4_neighbour (F : Nat) (σ : CSt) (x1 : Int32) (x2 : Int32) : Option (Int32) :=
  if x2 = (0 : Int32) then (if x1 < (18 : Int32) then (fc_X4_neighbour_L53 F σ) else (gd (ix (x1 - (18 : Int32)) 324 = true) (if (cs_goD σ (x1 - (18 : Int32)).toNatClampNeg) = 0 then (fc_X4_neighbour_L53 F σ) else (fc_X4_neighbour_L54 F σ (x1 - (18 : Int32)))))) else if x2 = (1 : Int32) then (gd (ix x1 324 = true) (if (cs_goR σ x1.toNatClampNeg) = 0 then (fc_X4_neighbour_L71 F σ (-1 : Int32)) else (fc_X4_neighbour_L71 F σ (x1 + (1 : Int32))))) else if x2 = (2 : Int32) then (gd (ix x1 324 = true) (if (cs_goD σ x1.toNatClampNeg) = 0 then (fc_X4_neighbour_L89 F σ (-1 : Int32)) else (fc_X4_neighbour_L89 F σ (x1 + (18 : Int32))))) else (if x1 < (1 : Int32) then (fc_X4_neighbour_L112 F σ) else (gd (ix (x1 - (1 : Int32)) 324 = true) (if (cs_goR σ (x1 - (1 : Int32)).toNatClampNeg) = 0 then (fc_X4_neighbour_L112 F σ) else (fc_X4_neighbour_L113 F σ (x1 - (1 : Int32))))))
set_option maxHeartbeats 4000000 in
set_option maxRecDepth 100000 in
theorem kc_X4_neighbour (l : Launch) (D : va_G) (cA : Nat → ClassId) (ad : Nat → Nat) (σ : CSt) (η : HS) (F : Nat) (z1 : Int32) (z2 : Int32) (r : Int32) (hf : fc_X4_neighbour F σ z1 z2 = some r) : KRc l D cA ad σ η yX4_neighbour cX4_neighbour 3 (some .int) (rmk 0 0) [.ref (ad 27), .int z1, .int z2] (QcV (.int r)) := by
  refine KRc.of (by decide) (Nat.le_of_ble_eq_true rfl) ?_
  intro p e s m below meth c C hr hlk hK hP hZ ls hl
  have hS : va_S NoA s.heap s.heap [] := va_S.rf
  have hl : lv_has ls 3 [(0, .ref (ad 27)), (1, .int z1), (2, .int z2)] := hl
  have hB113 : ∀ (ls : Array Slot) (s0 : Int32), lv_has ls 3 [] → fc_X4_neighbour_L113 F σ s0 = some r → WRc p l e 0 0 s m [.ref (ad 27), .int z1, .int z2] below meth c (QcV (.int r)) (F0 m 113 ls [.int s0]) := by
    intro ls s0 hl hf
    unfold fc_X4_neighbour_L113 at hf
    exact KRc.iret C hr hlk (Option.some.inj hf) dX4_neighbour_113
  have hB112 : ∀ (ls : Array Slot), lv_has ls 3 [] → fc_X4_neighbour_L112 F σ = some r → WRc p l e 0 0 s m [.ref (ad 27), .int z1, .int z2] below meth c (QcV (.int r)) (F0 m 112 ls []) := by
    intro ls hl hf
    unfold fc_X4_neighbour_L112 at hf
    refine lv_iconst (v := (-1 : Int32)) C.1 C.2.1 dX4_neighbour_112 (by decide) ?_
    exact hB113 ls _ (lv_sub hl [] rfl) hf
  have hB89 : ∀ (ls : Array Slot) (s0 : Int32), lv_has ls 3 [] → fc_X4_neighbour_L89 F σ s0 = some r → WRc p l e 0 0 s m [.ref (ad 27), .int z1, .int z2] below meth c (QcV (.int r)) (F0 m 89 ls [.int s0]) := by
    intro ls s0 hl hf
    unfold fc_X4_neighbour_L89 at hf
    exact KRc.iret C hr hlk (Option.some.inj hf) dX4_neighbour_89
  have hB71 : ∀ (ls : Array Slot) (s0 : Int32), lv_has ls 3 [] → fc_X4_neighbour_L71 F σ s0 = some r → WRc p l e 0 0 s m [.ref (ad 27), .int z1, .int z2] below meth c (QcV (.int r)) (F0 m 71 ls [.int s0]) := by
    intro ls s0 hl hf
    unfold fc_X4_neighbour_L71 at hf
    exact KRc.iret C hr hlk (Option.some.inj hf) dX4_neighbour_71
  have hB54 : ∀ (ls : Array Slot) (s0 : Int32), lv_has ls 3 [] → fc_X4_neighbour_L54 F σ s0 = some r → WRc p l e 0 0 s m [.ref (ad 27), .int z1, .int z2] below meth c (QcV (.int r)) (F0 m 54 ls [.int s0]) := by
    intro ls s0 hl hf
    unfold fc_X4_neighbour_L54 at hf
    exact KRc.iret C hr hlk (Option.some.inj hf) dX4_neighbour_54
  have hB53 : ∀ (ls : Array Slot), lv_has ls 3 [] → fc_X4_neighbour_L53 F σ = some r → WRc p l e 0 0 s m [.ref (ad 27), .int z1, .int z2] below meth c (QcV (.int r)) (F0 m 53 ls []) := by
    intro ls hl hf
    unfold fc_X4_neighbour_L53 at hf
    refine lv_iconst (v := (-1 : Int32)) C.1 C.2.1 dX4_neighbour_53 (by decide) ?_
    exact hB54 ls _ (lv_sub hl [] rfl) hf
  unfold fc_X4_neighbour at hf
  refine lv_iload_n C.1 C.2.1 dX4_neighbour_0 rfl (lv_at hl 2 rfl) ?_
  by_cases c1_0 : z2 = (0 : Int32)
  · have hf := br_p c1_0 hf
    refine lv_tableIn (tgt := 28) C.1 C.2.1 dX4_neighbour_1 (by rw [c1_0]; decide) (by rw [c1_0]; decide) (by rw [c1_0]; rfl) (by decide) ?_
    refine lv_iload_n C.1 C.2.1 dX4_neighbour_28 rfl (lv_at hl 1 rfl) ?_
    refine lv_bipush (v := (18 : Int32)) C.1 C.2.1 dX4_neighbour_29 (by decide) ?_
    refine lv_icmp_lt (tgt := 53) C.1 C.2.1 dX4_neighbour_31 (by decide) (fun c31 => ?_) (fun c31 => ?_)
    · have hf := br_p c31 hf
      exact hB53 ls (lv_sub hl [] rfl) hf
    · have hf := br_n c31 hf
      refine lv_aload_n C.1 C.2.1 dX4_neighbour_34 rfl (lv_at hl 0 rfl) ?_
      refine gc_gd_opensDown C hK hP wf_X4_22 dX4_neighbour_35 ?_
      refine lv_iload_n C.1 C.2.1 dX4_neighbour_38 rfl (lv_at hl 1 rfl) ?_
      refine lv_bipush (v := (18 : Int32)) C.1 C.2.1 dX4_neighbour_39 (by decide) ?_
      refine lv_isub C.1 C.2.1 dX4_neighbour_41 ?_
      obtain ⟨hi42, hf⟩ := gd_some hf
      refine lc_goD C hK hP hi42 dX4_neighbour_42 ?_
      refine lv_if_eq (tgt := 53) C.1 C.2.1 dX4_neighbour_43 (by decide) (fun c43 => ?_) (fun c43 => ?_)
      · have hf := br_p c43 hf
        exact hB53 ls (lv_sub hl [] rfl) hf
      · have hf := br_n c43 hf
        refine lv_iload_n C.1 C.2.1 dX4_neighbour_46 rfl (lv_at hl 1 rfl) ?_
        refine lv_bipush (v := (18 : Int32)) C.1 C.2.1 dX4_neighbour_47 (by decide) ?_
        refine lv_isub C.1 C.2.1 dX4_neighbour_49 ?_
        refine lv_goto (tgt := 54) C.1 C.2.1 dX4_neighbour_50 (by decide) ?_
        exact hB54 ls _ (lv_sub hl [] rfl) hf
  have hf := br_n c1_0 hf
  by_cases c1_1 : z2 = (1 : Int32)
  · have hf := br_p c1_1 hf
    refine lv_tableIn (tgt := 55) C.1 C.2.1 dX4_neighbour_1 (by rw [c1_1]; decide) (by rw [c1_1]; decide) (by rw [c1_1]; rfl) (by decide) ?_
    refine lv_aload_n C.1 C.2.1 dX4_neighbour_55 rfl (lv_at hl 0 rfl) ?_
    refine gc_gd_opensRight C hK hP wf_X4_18 dX4_neighbour_56 ?_
    refine lv_iload_n C.1 C.2.1 dX4_neighbour_59 rfl (lv_at hl 1 rfl) ?_
    obtain ⟨hi60, hf⟩ := gd_some hf
    refine lc_goR C hK hP hi60 dX4_neighbour_60 ?_
    refine lv_if_eq (tgt := 70) C.1 C.2.1 dX4_neighbour_61 (by decide) (fun c61 => ?_) (fun c61 => ?_)
    · have hf := br_p c61 hf
      refine lv_iconst (v := (-1 : Int32)) C.1 C.2.1 dX4_neighbour_70 (by decide) ?_
      exact hB71 ls _ (lv_sub hl [] rfl) hf
    · have hf := br_n c61 hf
      refine lv_iload_n C.1 C.2.1 dX4_neighbour_64 rfl (lv_at hl 1 rfl) ?_
      refine lv_iconst (v := (1 : Int32)) C.1 C.2.1 dX4_neighbour_65 (by decide) ?_
      refine lv_iadd C.1 C.2.1 dX4_neighbour_66 ?_
      refine lv_goto (tgt := 71) C.1 C.2.1 dX4_neighbour_67 (by decide) ?_
      exact hB71 ls _ (lv_sub hl [] rfl) hf
  have hf := br_n c1_1 hf
  by_cases c1_2 : z2 = (2 : Int32)
  · have hf := br_p c1_2 hf
    refine lv_tableIn (tgt := 72) C.1 C.2.1 dX4_neighbour_1 (by rw [c1_2]; decide) (by rw [c1_2]; decide) (by rw [c1_2]; rfl) (by decide) ?_
    refine lv_aload_n C.1 C.2.1 dX4_neighbour_72 rfl (lv_at hl 0 rfl) ?_
    refine gc_gd_opensDown C hK hP wf_X4_22 dX4_neighbour_73 ?_
    refine lv_iload_n C.1 C.2.1 dX4_neighbour_76 rfl (lv_at hl 1 rfl) ?_
    obtain ⟨hi77, hf⟩ := gd_some hf
    refine lc_goD C hK hP hi77 dX4_neighbour_77 ?_
    refine lv_if_eq (tgt := 88) C.1 C.2.1 dX4_neighbour_78 (by decide) (fun c78 => ?_) (fun c78 => ?_)
    · have hf := br_p c78 hf
      refine lv_iconst (v := (-1 : Int32)) C.1 C.2.1 dX4_neighbour_88 (by decide) ?_
      exact hB89 ls _ (lv_sub hl [] rfl) hf
    · have hf := br_n c78 hf
      refine lv_iload_n C.1 C.2.1 dX4_neighbour_81 rfl (lv_at hl 1 rfl) ?_
      refine lv_bipush (v := (18 : Int32)) C.1 C.2.1 dX4_neighbour_82 (by decide) ?_
      refine lv_iadd C.1 C.2.1 dX4_neighbour_84 ?_
      refine lv_goto (tgt := 89) C.1 C.2.1 dX4_neighbour_85 (by decide) ?_
      exact hB89 ls _ (lv_sub hl [] rfl) hf
  have hf := br_n c1_2 hf
  refine lv_tableOut (tgt := 90) C.1 C.2.1 dX4_neighbour_1 (by have q0 : ¬ z2.toInt = 0 := lv_neT c1_0 (by decide); have q1 : ¬ z2.toInt = 1 := lv_neT c1_1 (by decide); have q2 : ¬ z2.toInt = 2 := lv_neT c1_2 (by decide); omega) (by decide) ?_
  refine lv_iload_n C.1 C.2.1 dX4_neighbour_90 rfl (lv_at hl 1 rfl) ?_
  refine lv_iconst (v := (1 : Int32)) C.1 C.2.1 dX4_neighbour_91 (by decide) ?_
  refine lv_icmp_lt (tgt := 112) C.1 C.2.1 dX4_neighbour_92 (by decide) (fun c92 => ?_) (fun c92 => ?_)
  · have hf := br_p c92 hf
    exact hB112 ls (lv_sub hl [] rfl) hf
  · have hf := br_n c92 hf
    refine lv_aload_n C.1 C.2.1 dX4_neighbour_95 rfl (lv_at hl 0 rfl) ?_
    refine gc_gd_opensRight C hK hP wf_X4_18 dX4_neighbour_96 ?_
    refine lv_iload_n C.1 C.2.1 dX4_neighbour_99 rfl (lv_at hl 1 rfl) ?_
    refine lv_iconst (v := (1 : Int32)) C.1 C.2.1 dX4_neighbour_100 (by decide) ?_
    refine lv_isub C.1 C.2.1 dX4_neighbour_101 ?_
    obtain ⟨hi102, hf⟩ := gd_some hf
    refine lc_goR C hK hP hi102 dX4_neighbour_102 ?_
    refine lv_if_eq (tgt := 112) C.1 C.2.1 dX4_neighbour_103 (by decide) (fun c103 => ?_) (fun c103 => ?_)
    · have hf := br_p c103 hf
      exact hB112 ls (lv_sub hl [] rfl) hf
    · have hf := br_n c103 hf
      refine lv_iload_n C.1 C.2.1 dX4_neighbour_106 rfl (lv_at hl 1 rfl) ?_
      refine lv_iconst (v := (1 : Int32)) C.1 C.2.1 dX4_neighbour_107 (by decide) ?_
      refine lv_isub C.1 C.2.1 dX4_neighbour_108 ?_
      refine lv_goto (tgt := 113) C.1 C.2.1 dX4_neighbour_109 (by decide) ?_
      exact hB113 ls _ (lv_sub hl [] rfl) hf
def fc_X4_distance (F : Nat) (σ : CSt) (x1 : Int32) (x2 : Int32) : Option (Int32) :=
  gd (ix (x1 - x1 / (18 : Int32) * (18 : Int32)) 18 = true) (gd (ix (x2 - x2 / (18 : Int32) * (18 : Int32)) 18 = true) (lt ((cs_gx σ (x1 - x1 / (18 : Int32) * (18 : Int32)).toNatClampNeg) - (cs_gx σ (x2 - x2 / (18 : Int32) * (18 : Int32)).toNatClampNeg)) (fun x3_19 => gd (ix (x1 / (18 : Int32)) 18 = true) (gd (ix (x2 / (18 : Int32)) 18 = true) (lt ((cs_gy σ (x1 / (18 : Int32)).toNatClampNeg) - (cs_gy σ (x2 / (18 : Int32)).toNatClampNeg)) (fun x4_39 => some ((if 0 ≤ x3_19 then x3_19 else 0 - x3_19) + (if 0 ≤ x4_39 then x4_39 else 0 - x4_39))))))))
set_option maxHeartbeats 4000000 in
set_option maxRecDepth 100000 in
theorem kc_X4_distance (l : Launch) (D : va_G) (cA : Nat → ClassId) (ad : Nat → Nat) (σ : CSt) (η : HS) (F : Nat) (z1 : Int32) (z2 : Int32) (r : Int32) (hf : fc_X4_distance F σ z1 z2 = some r) : KRc l D cA ad σ η yX4_distance cX4_distance 5 (some .int) (rmk 1 21) [.ref (ad 27), .int z1, .int z2] (QcV (.int r)) := by
  refine KRc.of (by decide) (Nat.le_of_ble_eq_true rfl) ?_
  intro p e s m below meth c C hr hlk hK hP hZ ls hl
  have hS : va_S NoA s.heap s.heap [] := va_S.rf
  have hl : lv_has ls 5 [(0, .ref (ad 27)), (1, .int z1), (2, .int z2)] := hl
  unfold fc_X4_distance at hf
  refine lv_aload_n C.1 C.2.1 dX4_distance_0 rfl (lv_at hl 0 rfl) ?_
  refine gc_gd_xs C hK hP wf_X4_11 dX4_distance_1 ?_
  refine lv_iload_n C.1 C.2.1 dX4_distance_4 rfl (lv_at hl 1 rfl) ?_
  refine lv_bipush (v := (18 : Int32)) C.1 C.2.1 dX4_distance_5 (by decide) ?_
  refine lv_irem C.1 C.2.1 dX4_distance_7 (by decide) ?_
  obtain ⟨hi8, hf⟩ := gd_some hf
  refine lc_gx C hK hP hi8 dX4_distance_8 ?_
  refine lv_aload_n C.1 C.2.1 dX4_distance_9 rfl (lv_at hl 0 rfl) ?_
  refine gc_gd_xs C hK hP wf_X4_11 dX4_distance_10 ?_
  refine lv_iload_n C.1 C.2.1 dX4_distance_13 rfl (lv_at hl 2 rfl) ?_
  refine lv_bipush (v := (18 : Int32)) C.1 C.2.1 dX4_distance_14 (by decide) ?_
  refine lv_irem C.1 C.2.1 dX4_distance_16 (by decide) ?_
  obtain ⟨hi17, hf⟩ := gd_some hf
  refine lc_gx C hK hP hi17 dX4_distance_17 ?_
  refine lv_isub C.1 C.2.1 dX4_distance_18 ?_
  obtain ⟨x3_19, ex3_19, hf⟩ := lt_some hf
  refine lv_tope ex3_19 ?_
  refine lv_istore_n (lv' := [(3, .int x3_19), (0, .ref (ad 27)), (1, .int z1), (2, .int z2)]) C.1 C.2.1 dX4_distance_19 rfl hl (by decide) rfl (fun ls hl => ?_)
  refine lv_aload_n C.1 C.2.1 dX4_distance_20 rfl (lv_at hl 1 rfl) ?_
  refine gc_gd_ys C hK hP wf_X4_15 dX4_distance_21 ?_
  refine lv_iload_n C.1 C.2.1 dX4_distance_24 rfl (lv_at hl 2 rfl) ?_
  refine lv_bipush (v := (18 : Int32)) C.1 C.2.1 dX4_distance_25 (by decide) ?_
  refine lv_idiv C.1 C.2.1 dX4_distance_27 (by decide) ?_
  obtain ⟨hi28, hf⟩ := gd_some hf
  refine lc_gy C hK hP hi28 dX4_distance_28 ?_
  refine lv_aload_n C.1 C.2.1 dX4_distance_29 rfl (lv_at hl 1 rfl) ?_
  refine gc_gd_ys C hK hP wf_X4_15 dX4_distance_30 ?_
  refine lv_iload_n C.1 C.2.1 dX4_distance_33 rfl (lv_at hl 3 rfl) ?_
  refine lv_bipush (v := (18 : Int32)) C.1 C.2.1 dX4_distance_34 (by decide) ?_
  refine lv_idiv C.1 C.2.1 dX4_distance_36 (by decide) ?_
  obtain ⟨hi37, hf⟩ := gd_some hf
  refine lc_gy C hK hP hi37 dX4_distance_37 ?_
  refine lv_isub C.1 C.2.1 dX4_distance_38 ?_
  obtain ⟨x4_39, ex4_39, hf⟩ := lt_some hf
  refine lv_tope ex4_39 ?_
  refine lv_istore (lv' := [(4, .int x4_39), (3, .int x3_19), (0, .ref (ad 27)), (1, .int z1), (2, .int z2)]) C.1 C.2.1 dX4_distance_39 hl (by decide) rfl (fun ls hl => ?_)
  refine lv_iload_n C.1 C.2.1 dX4_distance_41 rfl (lv_at hl 1 rfl) ?_
  refine va_mabs C.1 C.2.1 (by rw [C.2.2.1]; exact hl.1.symm) C.2.2.2.1 (C.2.2.2.2 _ wm_X4_58.1) (C.2.2.2.2 _ wm_X4_58.2.1) (C.2.2.2.2 _ wm_X4_58.2.2.1) (C.2.2.2.2 _ wm_X4_58.2.2.2) (Nat.le_of_ble_eq_true rfl) (Nat.le_of_ble_eq_true rfl) (Nat.le_refl _) (Nat.le_refl _) dX4_distance_42 ?_
  refine lv_iload C.1 C.2.1 dX4_distance_45 (lv_at hl 0 rfl) ?_
  refine va_mabs C.1 C.2.1 (by rw [C.2.2.1]; exact hl.1.symm) C.2.2.2.1 (C.2.2.2.2 _ wm_X4_58.1) (C.2.2.2.2 _ wm_X4_58.2.1) (C.2.2.2.2 _ wm_X4_58.2.2.1) (C.2.2.2.2 _ wm_X4_58.2.2.2) (Nat.le_of_ble_eq_true rfl) (Nat.le_of_ble_eq_true rfl) (Nat.le_refl _) (Nat.le_refl _) dX4_distance_47 ?_
  refine lv_iadd C.1 C.2.1 dX4_distance_50 ?_
  exact KRc.iret C hr hlk (Option.some.inj hf) dX4_distance_51
def fc_X8_goBackFrom_L97 (F : Nat) (k55 : CSt → Int32 → Int32 → Int32 → Int32 → Int32 → Option (CSt)) (σ : CSt) (x3 : Int32) (x4 : Int32) (x5 : Int32) (x6 : Int32) (x7 : Int32) : Option (CSt) :=
  lt (x7 + (1 : Int32)) (fun x7_97 => k55 σ x3 x4 x5 x6 x7_97)
def fc_X8_goBackFrom_L94 (F : Nat) (k55 : CSt → Int32 → Int32 → Int32 → Int32 → Int32 → Option (CSt)) (σ : CSt) (x3 : Int32) (x4 : Int32) (x5 : Int32) (x6 : Int32) (x7 : Int32) (s0 : Int32) (s1 : Int32) : Option (CSt) :=
  bd (fc_X8_offer F σ s1 s0) (fun σ94 => fc_X8_goBackFrom_L97 F k55 σ94 x3 x4 x5 x6 x7)
def fc_X8_goBackFrom_L55_c (F : Nat) (k55 : CSt → Int32 → Int32 → Int32 → Int32 → Int32 → Option (CSt)) (σ : CSt) (x3 : Int32) (x4 : Int32) (x5 : Int32) (x6 : Int32) (x7 : Int32) : Option (CSt) :=
  if (4 : Int32) ≤ x7 then (some σ) else (if x7 = x4 then (fc_X8_goBackFrom_L97 F k55 σ x3 x4 x5 x6 x7) else (bd (fc_X8_stateOf F σ x5 x7) (fun r73 => if x7 = x3 then (fc_X8_goBackFrom_L94 F k55 σ x3 x4 x5 x6 x7 x6 r73) else (fc_X8_goBackFrom_L94 F k55 σ x3 x4 x5 x6 x7 (x6 + (cs_fpen σ)) r73))))
def fc_X8_goBackFrom_L55 (F : Nat) (n : Nat) (σ : CSt) (x3 : Int32) (x4 : Int32) (x5 : Int32) (x6 : Int32) (x7 : Int32) : Option (CSt) := lpN (fun (k : CSt × Int32 × Int32 × Int32 × Int32 × Int32 → Option (CSt)) a => fc_X8_goBackFrom_L55_c F (fun σ x3 x4 x5 x6 x7 => k (σ, x3, x4, x5, x6, x7)) a.1 a.2.1 a.2.2.1 a.2.2.2.1 a.2.2.2.2.1 a.2.2.2.2.2) n (σ, x3, x4, x5, x6, x7)
def fc_X8_goBackFrom (F : Nat) (σ : CSt) (x1 : Int32) : Option (CSt) :=
  lt (x1 / (4 : Int32)) (fun x2_3 => lt (x1 - x1 / (4 : Int32) * (4 : Int32)) (fun x3_7 => bd (fc_X3_opposite F σ x3_7) (fun r9 => bd (fc_X4_neighbour F σ x2_3 r9) (fun r21 => if r21 = (-1 : Int32) then (some σ) else (gd (ix x1 1296 = true) (bd (fc_X4_distance F σ r21 x2_3) (fun r46 => lt ((cs_frests σ x1.toNatClampNeg) + r46) (fun x6_50 => fc_X8_goBackFrom_L55 F F σ x3_7 r9 r21 x6_50 (0 : Int32)))))))))
set_option maxHeartbeats 4000000 in
set_option maxRecDepth 100000 in
theorem kc_X8_goBackFrom (l : Launch) (D : va_G) (cA : Nat → ClassId) (ad : Nat → Nat) (σ0 : CSt) (η : HS) (F : Nat) (z1 : Int32) (σr : CSt) (hf : fc_X8_goBackFrom F σ0 z1 = some σr) : KC l D cA ad σ0 η yX8_goBackFrom cX8_goBackFrom 8 none (rmk 2 46) [.ref (ad 23), .int z1] none σr := by
  refine KC.of (by decide) (Nat.le_of_ble_eq_true rfl) ?_
  intro p e s m below meth c A hAe hA C hr hlk hK hP hD hS hZ ls hl
  have hl : lv_has ls 8 [(0, .ref (ad 23)), (1, .int z1)] := hl
  have hB55 : ∀ (n55 : Nat) (H : Heap) (locs : List Loc) (σ : CSt) (ls : Array Slot) (x3 : Int32) (x4 : Int32) (x5 : Int32) (x6 : Int32) (x7 : Int32), HC D cA ad σ η H → va_D A (wC cA ad σ η) → va_S A s.heap H locs → lv_has ls 8 [(0, .ref (ad 23)), (3, .int x3), (4, .int x4), (5, .int x5), (6, .int x6), (7, .int x7)] → fc_X8_goBackFrom_L55 F n55 σ x3 x4 x5 x6 x7 = some σr → WC p l e 2 46 s m [.ref (ad 23), .int z1] below meth c none D cA ad σ0 η σr A H locs (F0 m 55 ls []) := by
    intro n55
    induction n55 with
    | zero =>
      intro H locs σ ls x3 x4 x5 x6 x7 hP hD hS hl hf
      cases (show (none : Option _) = _ from hf)
    | succ n55 ih55 =>
      have hB97 : ∀ (H : Heap) (locs : List Loc) (σ : CSt) (ls : Array Slot) (x3 : Int32) (x4 : Int32) (x5 : Int32) (x6 : Int32) (x7 : Int32), HC D cA ad σ η H → va_D A (wC cA ad σ η) → va_S A s.heap H locs → lv_has ls 8 [(0, .ref (ad 23)), (3, .int x3), (4, .int x4), (5, .int x5), (6, .int x6), (7, .int x7)] → fc_X8_goBackFrom_L97 F (fc_X8_goBackFrom_L55 F n55) σ x3 x4 x5 x6 x7 = some σr → WC p l e 2 46 s m [.ref (ad 23), .int z1] below meth c none D cA ad σ0 η σr A H locs (F0 m 97 ls []) := by
        intro H locs σ ls x3 x4 x5 x6 x7 hP hD hS hl hf
        unfold fc_X8_goBackFrom_L97 at hf
        obtain ⟨x7_97, ex7_97, hf⟩ := lt_some hf
        refine lv_iinc (v := x7_97) (lv' := [(7, .int x7_97), (0, .ref (ad 23)), (3, .int x3), (4, .int x4), (5, .int x5), (6, .int x6)]) C.1 C.2.1 dX8_goBackFrom_97 hl (k := 5) rfl (by rw [ex7_97]; rfl) (by decide) rfl (fun ls hl => ?_)
        refine lv_goto (tgt := 55) C.1 C.2.1 dX8_goBackFrom_100 (by decide) ?_
        exact ih55 _ _ _ ls _ _ _ _ _ hP hD hS (lv_sub hl [1, 2, 3, 4, 5, 0] rfl) hf
      have hB94 : ∀ (H : Heap) (locs : List Loc) (σ : CSt) (ls : Array Slot) (x3 : Int32) (x4 : Int32) (x5 : Int32) (x6 : Int32) (x7 : Int32) (s0 : Int32) (s1 : Int32), HC D cA ad σ η H → va_D A (wC cA ad σ η) → va_S A s.heap H locs → lv_has ls 8 [(0, .ref (ad 23)), (3, .int x3), (4, .int x4), (5, .int x5), (6, .int x6), (7, .int x7)] → fc_X8_goBackFrom_L94 F (fc_X8_goBackFrom_L55 F n55) σ x3 x4 x5 x6 x7 s0 s1 = some σr → WC p l e 2 46 s m [.ref (ad 23), .int z1] below meth c none D cA ad σ0 η σr A H locs (F0 m 94 ls [.int s0, .int s1, .ref (ad 23)]) := by
        intro H locs σ ls x3 x4 x5 x6 x7 s0 s1 hP hD hS hl hf
        unfold fc_X8_goBackFrom_L94 at hf
        obtain ⟨σ94, hc94, hf⟩ := bd_some hf
        refine callCV (As := [_, _]) C hK hP hD hA hS hZ wv_X8_61 hl (kc_X8_offer l D cA ad _ η F _ _  σ94 hc94) (rcC 23 8 hK hP rfl rfl) rfl rfl rfl (Nat.le_of_ble_eq_true rfl) ⟨Nat.le_refl _, Nat.le_refl _⟩ dX8_goBackFrom_94 (fun H locs hP hD hS => ?_)
        exact hB97 _ _ _ ls _ _ _ _ _ hP hD hS (lv_sub hl [0, 1, 2, 3, 4, 5] rfl) hf
      intro H locs σ ls x3 x4 x5 x6 x7 hP hD hS hl hf
      have hf : fc_X8_goBackFrom_L55_c F (fc_X8_goBackFrom_L55 F n55) σ x3 x4 x5 x6 x7 = some σr := hf
      unfold fc_X8_goBackFrom_L55_c at hf
      refine lv_iload C.1 C.2.1 dX8_goBackFrom_55 (lv_at hl 5 rfl) ?_
      refine lv_iconst (v := (4 : Int32)) C.1 C.2.1 dX8_goBackFrom_57 (by decide) ?_
      refine lv_icmp_ge (tgt := 103) C.1 C.2.1 dX8_goBackFrom_58 (by decide) (fun c58 => ?_) (fun c58 => ?_)
      · have hf := br_p c58 hf
        obtain rfl := Option.some.inj hf
        exact KC.vret C hr hlk hK hAe hP hD hS rfl dX8_goBackFrom_103
      · have hf := br_n c58 hf
        refine lv_iload C.1 C.2.1 dX8_goBackFrom_61 (lv_at hl 5 rfl) ?_
        refine lv_iload C.1 C.2.1 dX8_goBackFrom_63 (lv_at hl 2 rfl) ?_
        refine lv_icmp_eq (tgt := 97) C.1 C.2.1 dX8_goBackFrom_65 (by decide) (fun c65 => ?_) (fun c65 => ?_)
        · have hf := br_p c65 hf
          exact hB97 _ _ _ ls _ _ _ _ _ hP hD hS (lv_sub hl [0, 1, 2, 3, 4, 5] rfl) hf
        · have hf := br_n c65 hf
          refine lv_aload_n C.1 C.2.1 dX8_goBackFrom_68 rfl (lv_at hl 0 rfl) ?_
          refine lv_iload C.1 C.2.1 dX8_goBackFrom_69 (lv_at hl 3 rfl) ?_
          refine lv_iload C.1 C.2.1 dX8_goBackFrom_71 (lv_at hl 5 rfl) ?_
          obtain ⟨r73, hc73, hf⟩ := bd_some hf
          refine cV_go (runRSc (As := [_, _]) C hK hP hZ hS wv_X8_50 hl (kc_X8_stateOf l D cA ad _ η F _ _  r73 hc73) rfl rfl rfl (Nat.le_of_ble_eq_true rfl) ⟨Nat.le_refl _, Nat.le_refl _⟩ dX8_goBackFrom_73) ?_
          refine lv_iload C.1 C.2.1 dX8_goBackFrom_76 (lv_at hl 5 rfl) ?_
          refine lv_iload_n C.1 C.2.1 dX8_goBackFrom_78 rfl (lv_at hl 1 rfl) ?_
          refine lv_icmp_ne (tgt := 87) C.1 C.2.1 dX8_goBackFrom_79 (by decide) (fun c79 => ?_) (fun c79 => ?_)
          · have hf := br_n c79 hf
            refine lv_iload C.1 C.2.1 dX8_goBackFrom_87 (lv_at hl 4 rfl) ?_
            refine lv_aload_n C.1 C.2.1 dX8_goBackFrom_89 rfl (lv_at hl 0 rfl) ?_
            refine gc_fi_penalty C hK hP wf_X8_78 dX8_goBackFrom_90 ?_
            refine lv_iadd C.1 C.2.1 dX8_goBackFrom_93 ?_
            exact hB94 _ _ _ ls _ _ _ _ _ _ _ hP hD hS (lv_sub hl [0, 1, 2, 3, 4, 5] rfl) hf
          · have hf := br_p c79 hf
            refine lv_iload C.1 C.2.1 dX8_goBackFrom_82 (lv_at hl 4 rfl) ?_
            refine lv_goto (tgt := 94) C.1 C.2.1 dX8_goBackFrom_84 (by decide) ?_
            exact hB94 _ _ _ ls _ _ _ _ _ _ _ hP hD hS (lv_sub hl [0, 1, 2, 3, 4, 5] rfl) hf
  unfold fc_X8_goBackFrom at hf
  refine lv_iload_n C.1 C.2.1 dX8_goBackFrom_0 rfl (lv_at hl 1 rfl) ?_
  refine lv_iconst (v := (4 : Int32)) C.1 C.2.1 dX8_goBackFrom_1 (by decide) ?_
  refine lv_idiv C.1 C.2.1 dX8_goBackFrom_2 (by decide) ?_
  obtain ⟨x2_3, ex2_3, hf⟩ := lt_some hf
  refine lv_tope ex2_3 ?_
  refine lv_istore_n (lv' := [(2, .int x2_3), (0, .ref (ad 23)), (1, .int z1)]) C.1 C.2.1 dX8_goBackFrom_3 rfl hl (by decide) rfl (fun ls hl => ?_)
  refine lv_iload_n C.1 C.2.1 dX8_goBackFrom_4 rfl (lv_at hl 2 rfl) ?_
  refine lv_iconst (v := (4 : Int32)) C.1 C.2.1 dX8_goBackFrom_5 (by decide) ?_
  refine lv_irem C.1 C.2.1 dX8_goBackFrom_6 (by decide) ?_
  obtain ⟨x3_7, ex3_7, hf⟩ := lt_some hf
  refine lv_tope ex3_7 ?_
  refine lv_istore_n (lv' := [(3, .int x3_7), (2, .int x2_3), (0, .ref (ad 23)), (1, .int z1)]) C.1 C.2.1 dX8_goBackFrom_7 rfl hl (by decide) rfl (fun ls hl => ?_)
  refine lv_iload_n C.1 C.2.1 dX8_goBackFrom_8 rfl (lv_at hl 0 rfl) ?_
  obtain ⟨r9, hc9, hf⟩ := bd_some hf
  refine cV_go (runRSc (As := [_]) C hK hP hZ hS wv_X8_120 hl (kc_X3_opposite l D cA ad _ η F _  r9 hc9) rfl rfl rfl (Nat.le_of_ble_eq_true rfl) ⟨Nat.le_refl _, Nat.le_refl _⟩ dX8_goBackFrom_9) ?_
  refine lv_istore (lv' := [(4, .int r9), (3, .int x3_7), (2, .int x2_3), (0, .ref (ad 23)), (1, .int z1)]) C.1 C.2.1 dX8_goBackFrom_12 hl (by decide) rfl (fun ls hl => ?_)
  refine lv_aload_n C.1 C.2.1 dX8_goBackFrom_14 rfl (lv_at hl 3 rfl) ?_
  refine gc_fi_grid C hK hP wf_X8_14 dX8_goBackFrom_15 ?_
  refine lv_iload_n C.1 C.2.1 dX8_goBackFrom_18 rfl (lv_at hl 2 rfl) ?_
  refine lv_iload C.1 C.2.1 dX8_goBackFrom_19 (lv_at hl 0 rfl) ?_
  obtain ⟨r21, hc21, hf⟩ := bd_some hf
  refine cV_go (runRVc (As := [_, _]) C hK hP hZ hS wv_X8_129 hl (kc_X4_neighbour l D cA ad _ η F _ _  r21 hc21) (rcC 27 4 hK hP rfl rfl) rfl rfl rfl (Nat.le_of_ble_eq_true rfl) ⟨Nat.le_refl _, Nat.le_refl _⟩ dX8_goBackFrom_21) ?_
  refine lv_istore (lv' := [(5, .int r21), (4, .int r9), (3, .int x3_7), (2, .int x2_3), (0, .ref (ad 23)), (1, .int z1)]) C.1 C.2.1 dX8_goBackFrom_24 hl (by decide) rfl (fun ls hl => ?_)
  refine lv_iload C.1 C.2.1 dX8_goBackFrom_26 (lv_at hl 0 rfl) ?_
  refine lv_iconst (v := (-1 : Int32)) C.1 C.2.1 dX8_goBackFrom_28 (by decide) ?_
  refine lv_icmp_ne (tgt := 33) C.1 C.2.1 dX8_goBackFrom_29 (by decide) (fun c29 => ?_) (fun c29 => ?_)
  · have hf := br_n c29 hf
    refine lv_aload_n C.1 C.2.1 dX8_goBackFrom_33 rfl (lv_at hl 4 rfl) ?_
    refine gc_fi_rests C hK hP wf_X8_29 dX8_goBackFrom_34 ?_
    refine lv_iload_n C.1 C.2.1 dX8_goBackFrom_37 rfl (lv_at hl 5 rfl) ?_
    obtain ⟨hi38, hf⟩ := gd_some hf
    refine lc_frests C hK hP hi38 dX8_goBackFrom_38 ?_
    refine lv_aload_n C.1 C.2.1 dX8_goBackFrom_39 rfl (lv_at hl 4 rfl) ?_
    refine gc_fi_grid C hK hP wf_X8_14 dX8_goBackFrom_40 ?_
    refine lv_iload C.1 C.2.1 dX8_goBackFrom_43 (lv_at hl 0 rfl) ?_
    refine lv_iload_n C.1 C.2.1 dX8_goBackFrom_45 rfl (lv_at hl 3 rfl) ?_
    obtain ⟨r46, hc46, hf⟩ := bd_some hf
    refine cV_go (runRVc (As := [_, _]) C hK hP hZ hS wv_X8_132 hl (kc_X4_distance l D cA ad _ η F _ _  r46 hc46) (rcC 27 4 hK hP rfl rfl) rfl rfl rfl (Nat.le_of_ble_eq_true rfl) ⟨Nat.le_refl _, Nat.le_refl _⟩ dX8_goBackFrom_46) ?_
    refine lv_iadd C.1 C.2.1 dX8_goBackFrom_49 ?_
    obtain ⟨x6_50, ex6_50, hf⟩ := lt_some hf
    refine lv_tope ex6_50 ?_
    refine lv_istore (lv' := [(6, .int x6_50), (5, .int r21), (4, .int r9), (3, .int x3_7), (2, .int x2_3), (0, .ref (ad 23)), (1, .int z1)]) C.1 C.2.1 dX8_goBackFrom_50 hl (by decide) rfl (fun ls hl => ?_)
    refine lv_iconst (v := (0 : Int32)) C.1 C.2.1 dX8_goBackFrom_52 (by decide) ?_
    refine lv_istore (lv' := [(7, .int (0 : Int32)), (6, .int x6_50), (5, .int r21), (4, .int r9), (3, .int x3_7), (2, .int x2_3), (0, .ref (ad 23)), (1, .int z1)]) C.1 C.2.1 dX8_goBackFrom_53 hl (by decide) rfl (fun ls hl => ?_)
    exact hB55 F _ _ _ ls _ _ _ _ _ hP hD hS (lv_sub hl [6, 4, 3, 2, 1, 0] rfl) hf
  · have hf := br_p c29 hf
    obtain rfl := Option.some.inj hf
    exact KC.vret C hr hlk hK hAe hP hD hS rfl dX8_goBackFrom_32
def fc_X4_xOf (F : Nat) (σ : CSt) (x1 : Int32) : Option (Int32) :=
  gd (ix (x1 - x1 / (18 : Int32) * (18 : Int32)) 18 = true) (some (cs_gx σ (x1 - x1 / (18 : Int32) * (18 : Int32)).toNatClampNeg))
set_option maxHeartbeats 4000000 in
set_option maxRecDepth 100000 in
theorem kc_X4_xOf (l : Launch) (D : va_G) (cA : Nat → ClassId) (ad : Nat → Nat) (σ : CSt) (η : HS) (F : Nat) (z1 : Int32) (r : Int32) (hf : fc_X4_xOf F σ z1 = some r) : KRc l D cA ad σ η yX4_xOf cX4_xOf 2 (some .int) (rmk 0 0) [.ref (ad 27), .int z1] (QcV (.int r)) := by
  refine KRc.of (by decide) (Nat.le_of_ble_eq_true rfl) ?_
  intro p e s m below meth c C hr hlk hK hP hZ ls hl
  have hS : va_S NoA s.heap s.heap [] := va_S.rf
  have hl : lv_has ls 2 [(0, .ref (ad 27)), (1, .int z1)] := hl
  unfold fc_X4_xOf at hf
  refine lv_aload_n C.1 C.2.1 dX4_xOf_0 rfl (lv_at hl 0 rfl) ?_
  refine gc_gd_xs C hK hP wf_X4_11 dX4_xOf_1 ?_
  refine lv_iload_n C.1 C.2.1 dX4_xOf_4 rfl (lv_at hl 1 rfl) ?_
  refine lv_bipush (v := (18 : Int32)) C.1 C.2.1 dX4_xOf_5 (by decide) ?_
  refine lv_irem C.1 C.2.1 dX4_xOf_7 (by decide) ?_
  obtain ⟨hi8, hf⟩ := gd_some hf
  refine lc_gx C hK hP hi8 dX4_xOf_8 ?_
  exact KRc.iret C hr hlk (Option.some.inj hf) dX4_xOf_9
def fc_X4_yOf (F : Nat) (σ : CSt) (x1 : Int32) : Option (Int32) :=
  gd (ix (x1 / (18 : Int32)) 18 = true) (some (cs_gy σ (x1 / (18 : Int32)).toNatClampNeg))
set_option maxHeartbeats 4000000 in
set_option maxRecDepth 100000 in
theorem kc_X4_yOf (l : Launch) (D : va_G) (cA : Nat → ClassId) (ad : Nat → Nat) (σ : CSt) (η : HS) (F : Nat) (z1 : Int32) (r : Int32) (hf : fc_X4_yOf F σ z1 = some r) : KRc l D cA ad σ η yX4_yOf cX4_yOf 2 (some .int) (rmk 0 0) [.ref (ad 27), .int z1] (QcV (.int r)) := by
  refine KRc.of (by decide) (Nat.le_of_ble_eq_true rfl) ?_
  intro p e s m below meth c C hr hlk hK hP hZ ls hl
  have hS : va_S NoA s.heap s.heap [] := va_S.rf
  have hl : lv_has ls 2 [(0, .ref (ad 27)), (1, .int z1)] := hl
  unfold fc_X4_yOf at hf
  refine lv_aload_n C.1 C.2.1 dX4_yOf_0 rfl (lv_at hl 0 rfl) ?_
  refine gc_gd_ys C hK hP wf_X4_15 dX4_yOf_1 ?_
  refine lv_iload_n C.1 C.2.1 dX4_yOf_4 rfl (lv_at hl 1 rfl) ?_
  refine lv_bipush (v := (18 : Int32)) C.1 C.2.1 dX4_yOf_5 (by decide) ?_
  refine lv_idiv C.1 C.2.1 dX4_yOf_7 (by decide) ?_
  obtain ⟨hi8, hf⟩ := gd_some hf
  refine lc_gy C hK hP hi8 dX4_yOf_8 ?_
  exact KRc.iret C hr hlk (Option.some.inj hf) dX4_yOf_9
def fc_X8_addCorner_L40 (F : Nat) (σ : CSt) : Option (CSt) :=
  some σ
def fc_X8_addCorner (F : Nat) (σ : CSt) (x1 : Int32) (x2 : Int32) : Option (CSt) :=
  if (326 : Int32) ≤ (cs_fcn σ) then (fc_X8_addCorner_L40 F σ) else (gd (ix (cs_fcn σ) 326 = true) (lt (sc_fcx σ (cs_fcn σ) x1) (fun σ19 => gd (ix (cs_fcn σ19) 326 = true) (lt (sc_fcy σ19 (cs_fcn σ19) x2) (fun σ29 => lt (cs_fcn_s σ29 ((cs_fcn σ29) + (1 : Int32))) (fun σ37 => fc_X8_addCorner_L40 F σ37))))))
set_option maxHeartbeats 4000000 in
set_option maxRecDepth 100000 in
theorem kc_X8_addCorner (l : Launch) (D : va_G) (cA : Nat → ClassId) (ad : Nat → Nat) (σ0 : CSt) (η : HS) (F : Nat) (z1 : Int32) (z2 : Int32) (σr : CSt) (hf : fc_X8_addCorner F σ0 z1 z2 = some σr) : KC l D cA ad σ0 η yX8_addCorner cX8_addCorner 3 none (rmk 0 0) [.ref (ad 23), .int z1, .int z2] none σr := by
  refine KC.of (by decide) (Nat.le_of_ble_eq_true rfl) ?_
  intro p e s m below meth c A hAe hA C hr hlk hK hP hD hS hZ ls hl
  have hl : lv_has ls 3 [(0, .ref (ad 23)), (1, .int z1), (2, .int z2)] := hl
  have hB40 : ∀ (H : Heap) (locs : List Loc) (σ : CSt) (ls : Array Slot), HC D cA ad σ η H → va_D A (wC cA ad σ η) → va_S A s.heap H locs → lv_has ls 3 [] → fc_X8_addCorner_L40 F σ = some σr → WC p l e 0 0 s m [.ref (ad 23), .int z1, .int z2] below meth c none D cA ad σ0 η σr A H locs (F0 m 40 ls []) := by
    intro H locs σ ls hP hD hS hl hf
    unfold fc_X8_addCorner_L40 at hf
    obtain rfl := Option.some.inj hf
    exact KC.vret C hr hlk hK hAe hP hD hS rfl dX8_addCorner_40
  unfold fc_X8_addCorner at hf
  refine lv_aload_n C.1 C.2.1 dX8_addCorner_0 rfl (lv_at hl 0 rfl) ?_
  refine gc_fi_corners C hK hP wf_X8_135 dX8_addCorner_1 ?_
  refine lv_sipush (v := (326 : Int32)) C.1 C.2.1 dX8_addCorner_4 (by decide) ?_
  refine lv_icmp_ge (tgt := 40) C.1 C.2.1 dX8_addCorner_7 (by decide) (fun c7 => ?_) (fun c7 => ?_)
  · have hf := br_p c7 hf
    exact hB40 _ _ _ ls hP hD hS (lv_sub hl [] rfl) hf
  · have hf := br_n c7 hf
    refine lv_aload_n C.1 C.2.1 dX8_addCorner_10 rfl (lv_at hl 0 rfl) ?_
    refine gc_fi_cornerXs C hK hP wf_X8_33 dX8_addCorner_11 ?_
    refine lv_aload_n C.1 C.2.1 dX8_addCorner_14 rfl (lv_at hl 0 rfl) ?_
    refine gc_fi_corners C hK hP wf_X8_135 dX8_addCorner_15 ?_
    refine lv_iload_n C.1 C.2.1 dX8_addCorner_18 rfl (lv_at hl 1 rfl) ?_
    obtain ⟨hi19, hf⟩ := gd_some hf
    replace hf := lt_e hf
    refine uc_fcx C hK hP hD hS hi19 dX8_addCorner_19 (fun H locs hP hD hS => ?_)
    refine lv_aload_n C.1 C.2.1 dX8_addCorner_20 rfl (lv_at hl 0 rfl) ?_
    refine gc_fi_cornerYs C hK hP wf_X8_36 dX8_addCorner_21 ?_
    refine lv_aload_n C.1 C.2.1 dX8_addCorner_24 rfl (lv_at hl 0 rfl) ?_
    refine gc_fi_corners C hK hP wf_X8_135 dX8_addCorner_25 ?_
    refine lv_iload_n C.1 C.2.1 dX8_addCorner_28 rfl (lv_at hl 2 rfl) ?_
    obtain ⟨hi29, hf⟩ := gd_some hf
    replace hf := lt_e hf
    refine uc_fcy C hK hP hD hS hi29 dX8_addCorner_29 (fun H locs hP hD hS => ?_)
    refine lv_aload_n C.1 C.2.1 dX8_addCorner_30 rfl (lv_at hl 0 rfl) ?_
    refine lv_dup C.1 C.2.1 dX8_addCorner_31 rfl ?_
    refine gc_fi_corners C hK hP wf_X8_135 dX8_addCorner_32 ?_
    refine lv_iconst (v := (1 : Int32)) C.1 C.2.1 dX8_addCorner_35 (by decide) ?_
    refine lv_iadd C.1 C.2.1 dX8_addCorner_36 ?_
    replace hf := lt_e hf
    refine pc_fi_corners C hK hP hD hS wf_X8_135 dX8_addCorner_37 (fun H locs hP hD hS => ?_)
    exact hB40 _ _ _ ls hP hD hS (lv_sub hl [] rfl) hf
def fc_X8_nextDirection_L122 (F : Nat) (σ : CSt) (k33 : Int32 → Int32 → Int32 → Int32 → Option (Int32)) (x1 : Int32) (x2 : Int32) (x3 : Int32) (x4 : Int32) : Option (Int32) :=
  lt (x4 + (1 : Int32)) (fun x4_122 => k33 x1 x2 x3 x4_122)
def fc_X8_nextDirection_L87 (F : Nat) (σ : CSt) (k33 : Int32 → Int32 → Int32 → Int32 → Option (Int32)) (x1 : Int32) (x2 : Int32) (x3 : Int32) (x4 : Int32) (x5 : Int32) (s0 : Int32) : Option (Int32) :=
  bd (fc_X4_distance F σ x1 x5) (fun r96 => bd (fc_X8_stateOf F σ x5 x4) (fun r110 => gd (ix r110 1296 = true) (if ((r96 + s0) + (cs_frests σ r110.toNatClampNeg)) = x3 then (some x4) else (fc_X8_nextDirection_L122 F σ k33 x1 x2 x3 x4))))
def fc_X8_nextDirection_L62 (F : Nat) (σ : CSt) (k33 : Int32 → Int32 → Int32 → Int32 → Option (Int32)) (x1 : Int32) (x2 : Int32) (x3 : Int32) (x4 : Int32) (s0 : Int32) : Option (Int32) :=
  if s0 = (-1 : Int32) then (fc_X8_nextDirection_L122 F σ k33 x1 x2 x3 x4) else (if x4 = x2 then (fc_X8_nextDirection_L87 F σ k33 x1 x2 x3 x4 s0 (0 : Int32)) else (fc_X8_nextDirection_L87 F σ k33 x1 x2 x3 x4 s0 (cs_fpen σ)))
def fc_X8_nextDirection_L33_c (F : Nat) (σ : CSt) (k33 : Int32 → Int32 → Int32 → Int32 → Option (Int32)) (x1 : Int32) (x2 : Int32) (x3 : Int32) (x4 : Int32) : Option (Int32) :=
  if (4 : Int32) ≤ x4 then (some (-1 : Int32)) else (bd (fc_X3_opposite F σ x2) (fun r42 => if x4 = r42 then (fc_X8_nextDirection_L62 F σ k33 x1 x2 x3 x4 (-1 : Int32)) else (bd (fc_X4_neighbour F σ x1 x4) (fun r59 => fc_X8_nextDirection_L62 F σ k33 x1 x2 x3 x4 r59))))
def fc_X8_nextDirection_L33 (F : Nat) (σ : CSt) (n : Nat) (x1 : Int32) (x2 : Int32) (x3 : Int32) (x4 : Int32) : Option (Int32) := lpN (fun (k : Int32 × Int32 × Int32 × Int32 → Option (Int32)) a => fc_X8_nextDirection_L33_c F σ (fun x1 x2 x3 x4 => k (x1, x2, x3, x4)) a.1 a.2.1 a.2.2.1 a.2.2.2) n (x1, x2, x3, x4)
def fc_X8_nextDirection_L30 (F : Nat) (σ : CSt) (x1 : Int32) (x2 : Int32) (x3 : Int32) : Option (Int32) :=
  fc_X8_nextDirection_L33 F σ F x1 x2 x3 (0 : Int32)
def fc_X8_nextDirection (F : Nat) (σ : CSt) (x1 : Int32) (x2 : Int32) : Option (Int32) :=
  bd (fc_X8_stateOf F σ x1 x2) (fun r6 => gd (ix r6 1296 = true) (lt (cs_frests σ r6.toNatClampNeg) (fun x3_10 => if x1 = (cs_fgoal σ) then (bd (fc_X8_restAtGoal F σ x2) (fun r22 => if x3_10 = r22 then (some (-1 : Int32)) else (fc_X8_nextDirection_L30 F σ x1 x2 x3_10))) else (fc_X8_nextDirection_L30 F σ x1 x2 x3_10))))
set_option maxHeartbeats 4000000 in
set_option maxRecDepth 100000 in
theorem kc_X8_nextDirection (l : Launch) (D : va_G) (cA : Nat → ClassId) (ad : Nat → Nat) (σ : CSt) (η : HS) (F : Nat) (z1 : Int32) (z2 : Int32) (r : Int32) (hf : fc_X8_nextDirection F σ z1 z2 = some r) : KRc l D cA ad σ η yX8_nextDirection cX8_nextDirection 7 (some .int) (rmk 2 45) [.ref (ad 23), .int z1, .int z2] (QcV (.int r)) := by
  refine KRc.of (by decide) (Nat.le_of_ble_eq_true rfl) ?_
  intro p e s m below meth c C hr hlk hK hP hZ ls hl
  have hS : va_S NoA s.heap s.heap [] := va_S.rf
  have hl : lv_has ls 7 [(0, .ref (ad 23)), (1, .int z1), (2, .int z2)] := hl
  have hB33 : ∀ (n33 : Nat) (ls : Array Slot) (x1 : Int32) (x2 : Int32) (x3 : Int32) (x4 : Int32), lv_has ls 7 [(0, .ref (ad 23)), (1, .int x1), (2, .int x2), (3, .int x3), (4, .int x4)] → fc_X8_nextDirection_L33 F σ n33 x1 x2 x3 x4 = some r → WRc p l e 2 45 s m [.ref (ad 23), .int z1, .int z2] below meth c (QcV (.int r)) (F0 m 33 ls []) := by
    intro n33
    induction n33 with
    | zero =>
      intro ls x1 x2 x3 x4 hl hf
      cases (show (none : Option _) = _ from hf)
    | succ n33 ih33 =>
      have hB122 : ∀ (ls : Array Slot) (x1 : Int32) (x2 : Int32) (x3 : Int32) (x4 : Int32), lv_has ls 7 [(0, .ref (ad 23)), (1, .int x1), (2, .int x2), (3, .int x3), (4, .int x4)] → fc_X8_nextDirection_L122 F σ (fc_X8_nextDirection_L33 F σ n33) x1 x2 x3 x4 = some r → WRc p l e 2 45 s m [.ref (ad 23), .int z1, .int z2] below meth c (QcV (.int r)) (F0 m 122 ls []) := by
        intro ls x1 x2 x3 x4 hl hf
        unfold fc_X8_nextDirection_L122 at hf
        obtain ⟨x4_122, ex4_122, hf⟩ := lt_some hf
        refine lv_iinc (v := x4_122) (lv' := [(4, .int x4_122), (0, .ref (ad 23)), (1, .int x1), (2, .int x2), (3, .int x3)]) C.1 C.2.1 dX8_nextDirection_122 hl (k := 4) rfl (by rw [ex4_122]; rfl) (by decide) rfl (fun ls hl => ?_)
        refine lv_goto (tgt := 33) C.1 C.2.1 dX8_nextDirection_125 (by decide) ?_
        exact ih33 ls _ _ _ _ (lv_sub hl [1, 2, 3, 4, 0] rfl) hf
      have hB87 : ∀ (ls : Array Slot) (x1 : Int32) (x2 : Int32) (x3 : Int32) (x4 : Int32) (x5 : Int32) (s0 : Int32), lv_has ls 7 [(0, .ref (ad 23)), (1, .int x1), (2, .int x2), (3, .int x3), (4, .int x4), (5, .int x5)] → fc_X8_nextDirection_L87 F σ (fc_X8_nextDirection_L33 F σ n33) x1 x2 x3 x4 x5 s0 = some r → WRc p l e 2 45 s m [.ref (ad 23), .int z1, .int z2] below meth c (QcV (.int r)) (F0 m 87 ls [.int s0]) := by
        intro ls x1 x2 x3 x4 x5 s0 hl hf
        unfold fc_X8_nextDirection_L87 at hf
        refine lv_istore (lv' := [(6, .int s0), (0, .ref (ad 23)), (1, .int x1), (2, .int x2), (3, .int x3), (4, .int x4), (5, .int x5)]) C.1 C.2.1 dX8_nextDirection_87 hl (by decide) rfl (fun ls hl => ?_)
        refine lv_aload_n C.1 C.2.1 dX8_nextDirection_89 rfl (lv_at hl 1 rfl) ?_
        refine gc_fi_grid C hK hP wf_X8_14 dX8_nextDirection_90 ?_
        refine lv_iload_n C.1 C.2.1 dX8_nextDirection_93 rfl (lv_at hl 2 rfl) ?_
        refine lv_iload C.1 C.2.1 dX8_nextDirection_94 (lv_at hl 6 rfl) ?_
        obtain ⟨r96, hc96, hf⟩ := bd_some hf
        refine cV_go (runRVc (As := [_, _]) C hK hP hZ hS wv_X8_132 hl (kc_X4_distance l D cA ad _ η F _ _  r96 hc96) (rcC 27 4 hK hP rfl rfl) rfl rfl rfl (Nat.le_of_ble_eq_true rfl) ⟨Nat.le_refl _, Nat.le_refl _⟩ dX8_nextDirection_96) ?_
        refine lv_iload C.1 C.2.1 dX8_nextDirection_99 (lv_at hl 0 rfl) ?_
        refine lv_iadd C.1 C.2.1 dX8_nextDirection_101 ?_
        refine lv_aload_n C.1 C.2.1 dX8_nextDirection_102 rfl (lv_at hl 1 rfl) ?_
        refine gc_fi_rests C hK hP wf_X8_29 dX8_nextDirection_103 ?_
        refine lv_iload C.1 C.2.1 dX8_nextDirection_106 (lv_at hl 6 rfl) ?_
        refine lv_iload C.1 C.2.1 dX8_nextDirection_108 (lv_at hl 5 rfl) ?_
        obtain ⟨r110, hc110, hf⟩ := bd_some hf
        refine cV_go (runRSc (As := [_, _]) C hK hP hZ hS wv_X8_50 hl (kc_X8_stateOf l D cA ad _ η F _ _  r110 hc110) rfl rfl rfl (Nat.le_of_ble_eq_true rfl) ⟨Nat.le_refl _, Nat.le_refl _⟩ dX8_nextDirection_110) ?_
        obtain ⟨hi113, hf⟩ := gd_some hf
        refine lc_frests C hK hP hi113 dX8_nextDirection_113 ?_
        refine lv_iadd C.1 C.2.1 dX8_nextDirection_114 ?_
        refine lv_iload_n C.1 C.2.1 dX8_nextDirection_115 rfl (lv_at hl 4 rfl) ?_
        refine lv_icmp_ne (tgt := 122) C.1 C.2.1 dX8_nextDirection_116 (by decide) (fun c116 => ?_) (fun c116 => ?_)
        · have hf := br_n c116 hf
          exact hB122 ls _ _ _ _ (lv_sub hl [1, 2, 3, 4, 5] rfl) hf
        · have hf := br_p c116 hf
          refine lv_iload C.1 C.2.1 dX8_nextDirection_119 (lv_at hl 5 rfl) ?_
          exact KRc.iret C hr hlk (Option.some.inj hf) dX8_nextDirection_121
      have hB62 : ∀ (ls : Array Slot) (x1 : Int32) (x2 : Int32) (x3 : Int32) (x4 : Int32) (s0 : Int32), lv_has ls 7 [(0, .ref (ad 23)), (1, .int x1), (2, .int x2), (3, .int x3), (4, .int x4)] → fc_X8_nextDirection_L62 F σ (fc_X8_nextDirection_L33 F σ n33) x1 x2 x3 x4 s0 = some r → WRc p l e 2 45 s m [.ref (ad 23), .int z1, .int z2] below meth c (QcV (.int r)) (F0 m 62 ls [.int s0]) := by
        intro ls x1 x2 x3 x4 s0 hl hf
        unfold fc_X8_nextDirection_L62 at hf
        refine lv_istore (lv' := [(5, .int s0), (0, .ref (ad 23)), (1, .int x1), (2, .int x2), (3, .int x3), (4, .int x4)]) C.1 C.2.1 dX8_nextDirection_62 hl (by decide) rfl (fun ls hl => ?_)
        refine lv_iload C.1 C.2.1 dX8_nextDirection_64 (lv_at hl 0 rfl) ?_
        refine lv_iconst (v := (-1 : Int32)) C.1 C.2.1 dX8_nextDirection_66 (by decide) ?_
        refine lv_icmp_ne (tgt := 73) C.1 C.2.1 dX8_nextDirection_67 (by decide) (fun c67 => ?_) (fun c67 => ?_)
        · have hf := br_n c67 hf
          refine lv_iload C.1 C.2.1 dX8_nextDirection_73 (lv_at hl 5 rfl) ?_
          refine lv_iload_n C.1 C.2.1 dX8_nextDirection_75 rfl (lv_at hl 3 rfl) ?_
          refine lv_icmp_ne (tgt := 83) C.1 C.2.1 dX8_nextDirection_76 (by decide) (fun c76 => ?_) (fun c76 => ?_)
          · have hf := br_n c76 hf
            refine lv_aload_n C.1 C.2.1 dX8_nextDirection_83 rfl (lv_at hl 1 rfl) ?_
            refine gc_fi_penalty C hK hP wf_X8_78 dX8_nextDirection_84 ?_
            exact hB87 ls _ _ _ _ _ _ (lv_sub hl [1, 2, 3, 4, 5, 0] rfl) hf
          · have hf := br_p c76 hf
            refine lv_iconst (v := (0 : Int32)) C.1 C.2.1 dX8_nextDirection_79 (by decide) ?_
            refine lv_goto (tgt := 87) C.1 C.2.1 dX8_nextDirection_80 (by decide) ?_
            exact hB87 ls _ _ _ _ _ _ (lv_sub hl [1, 2, 3, 4, 5, 0] rfl) hf
        · have hf := br_p c67 hf
          refine lv_goto (tgt := 122) C.1 C.2.1 dX8_nextDirection_70 (by decide) ?_
          exact hB122 ls _ _ _ _ (lv_sub hl [1, 2, 3, 4, 5] rfl) hf
      intro ls x1 x2 x3 x4 hl hf
      have hf : fc_X8_nextDirection_L33_c F σ (fc_X8_nextDirection_L33 F σ n33) x1 x2 x3 x4 = some r := hf
      unfold fc_X8_nextDirection_L33_c at hf
      refine lv_iload C.1 C.2.1 dX8_nextDirection_33 (lv_at hl 4 rfl) ?_
      refine lv_iconst (v := (4 : Int32)) C.1 C.2.1 dX8_nextDirection_35 (by decide) ?_
      refine lv_icmp_ge (tgt := 128) C.1 C.2.1 dX8_nextDirection_36 (by decide) (fun c36 => ?_) (fun c36 => ?_)
      · have hf := br_p c36 hf
        refine lv_iconst (v := (-1 : Int32)) C.1 C.2.1 dX8_nextDirection_128 (by decide) ?_
        exact KRc.iret C hr hlk (Option.some.inj hf) dX8_nextDirection_129
      · have hf := br_n c36 hf
        refine lv_iload C.1 C.2.1 dX8_nextDirection_39 (lv_at hl 4 rfl) ?_
        refine lv_iload_n C.1 C.2.1 dX8_nextDirection_41 rfl (lv_at hl 2 rfl) ?_
        obtain ⟨r42, hc42, hf⟩ := bd_some hf
        refine cV_go (runRSc (As := [_]) C hK hP hZ hS wv_X8_120 hl (kc_X3_opposite l D cA ad _ η F _  r42 hc42) rfl rfl rfl (Nat.le_of_ble_eq_true rfl) ⟨Nat.le_refl _, Nat.le_refl _⟩ dX8_nextDirection_42) ?_
        refine lv_icmp_ne (tgt := 52) C.1 C.2.1 dX8_nextDirection_45 (by decide) (fun c45 => ?_) (fun c45 => ?_)
        · have hf := br_n c45 hf
          refine lv_aload_n C.1 C.2.1 dX8_nextDirection_52 rfl (lv_at hl 0 rfl) ?_
          refine gc_fi_grid C hK hP wf_X8_14 dX8_nextDirection_53 ?_
          refine lv_iload_n C.1 C.2.1 dX8_nextDirection_56 rfl (lv_at hl 1 rfl) ?_
          refine lv_iload C.1 C.2.1 dX8_nextDirection_57 (lv_at hl 4 rfl) ?_
          obtain ⟨r59, hc59, hf⟩ := bd_some hf
          refine cV_go (runRVc (As := [_, _]) C hK hP hZ hS wv_X8_129 hl (kc_X4_neighbour l D cA ad _ η F _ _  r59 hc59) (rcC 27 4 hK hP rfl rfl) rfl rfl rfl (Nat.le_of_ble_eq_true rfl) ⟨Nat.le_refl _, Nat.le_refl _⟩ dX8_nextDirection_59) ?_
          exact hB62 ls _ _ _ _ _ (lv_sub hl [0, 1, 2, 3, 4] rfl) hf
        · have hf := br_p c45 hf
          refine lv_iconst (v := (-1 : Int32)) C.1 C.2.1 dX8_nextDirection_48 (by decide) ?_
          refine lv_goto (tgt := 62) C.1 C.2.1 dX8_nextDirection_49 (by decide) ?_
          exact hB62 ls _ _ _ _ _ (lv_sub hl [0, 1, 2, 3, 4] rfl) hf
  have hB30 : ∀ (ls : Array Slot) (x1 : Int32) (x2 : Int32) (x3 : Int32), lv_has ls 7 [(0, .ref (ad 23)), (1, .int x1), (2, .int x2), (3, .int x3)] → fc_X8_nextDirection_L30 F σ x1 x2 x3 = some r → WRc p l e 2 45 s m [.ref (ad 23), .int z1, .int z2] below meth c (QcV (.int r)) (F0 m 30 ls []) := by
    intro ls x1 x2 x3 hl hf
    unfold fc_X8_nextDirection_L30 at hf
    refine lv_iconst (v := (0 : Int32)) C.1 C.2.1 dX8_nextDirection_30 (by decide) ?_
    refine lv_istore (lv' := [(4, .int (0 : Int32)), (0, .ref (ad 23)), (1, .int x1), (2, .int x2), (3, .int x3)]) C.1 C.2.1 dX8_nextDirection_31 hl (by decide) rfl (fun ls hl => ?_)
    exact hB33 F ls _ _ _ _ (lv_sub hl [1, 2, 3, 4, 0] rfl) hf
  unfold fc_X8_nextDirection at hf
  refine lv_aload_n C.1 C.2.1 dX8_nextDirection_0 rfl (lv_at hl 0 rfl) ?_
  refine gc_fi_rests C hK hP wf_X8_29 dX8_nextDirection_1 ?_
  refine lv_iload_n C.1 C.2.1 dX8_nextDirection_4 rfl (lv_at hl 1 rfl) ?_
  refine lv_iload_n C.1 C.2.1 dX8_nextDirection_5 rfl (lv_at hl 2 rfl) ?_
  obtain ⟨r6, hc6, hf⟩ := bd_some hf
  refine cV_go (runRSc (As := [_, _]) C hK hP hZ hS wv_X8_50 hl (kc_X8_stateOf l D cA ad _ η F _ _  r6 hc6) rfl rfl rfl (Nat.le_of_ble_eq_true rfl) ⟨Nat.le_refl _, Nat.le_refl _⟩ dX8_nextDirection_6) ?_
  obtain ⟨hi9, hf⟩ := gd_some hf
  refine lc_frests C hK hP hi9 dX8_nextDirection_9 ?_
  obtain ⟨x3_10, ex3_10, hf⟩ := lt_some hf
  refine lv_tope ex3_10 ?_
  refine lv_istore_n (lv' := [(3, .int x3_10), (0, .ref (ad 23)), (1, .int z1), (2, .int z2)]) C.1 C.2.1 dX8_nextDirection_10 rfl hl (by decide) rfl (fun ls hl => ?_)
  refine lv_iload_n C.1 C.2.1 dX8_nextDirection_11 rfl (lv_at hl 2 rfl) ?_
  refine lv_aload_n C.1 C.2.1 dX8_nextDirection_12 rfl (lv_at hl 1 rfl) ?_
  refine gc_fi_goal C hK hP wf_X8_54 dX8_nextDirection_13 ?_
  refine lv_icmp_ne (tgt := 30) C.1 C.2.1 dX8_nextDirection_16 (by decide) (fun c16 => ?_) (fun c16 => ?_)
  · have hf := br_n c16 hf
    exact hB30 ls _ _ _ (lv_sub hl [1, 2, 3, 0] rfl) hf
  · have hf := br_p c16 hf
    refine lv_iload_n C.1 C.2.1 dX8_nextDirection_19 rfl (lv_at hl 0 rfl) ?_
    refine lv_aload_n C.1 C.2.1 dX8_nextDirection_20 rfl (lv_at hl 1 rfl) ?_
    refine lv_iload_n C.1 C.2.1 dX8_nextDirection_21 rfl (lv_at hl 3 rfl) ?_
    obtain ⟨r22, hc22, hf⟩ := bd_some hf
    refine cV_go (runRVc (As := [_]) C hK hP hZ hS wv_X8_57 hl (kc_X8_restAtGoal l D cA ad _ η F _  r22 hc22) (rcC 23 8 hK hP rfl rfl) rfl rfl rfl (Nat.le_of_ble_eq_true rfl) ⟨Nat.le_refl _, Nat.le_refl _⟩ dX8_nextDirection_22) ?_
    refine lv_icmp_ne (tgt := 30) C.1 C.2.1 dX8_nextDirection_25 (by decide) (fun c25 => ?_) (fun c25 => ?_)
    · have hf := br_n c25 hf
      exact hB30 ls _ _ _ (lv_sub hl [1, 2, 3, 0] rfl) hf
    · have hf := br_p c25 hf
      refine lv_iconst (v := (-1 : Int32)) C.1 C.2.1 dX8_nextDirection_28 (by decide) ?_
      exact KRc.iret C hr hlk (Option.some.inj hf) dX8_nextDirection_29
def fc_X8_walk_L166 (F : Nat) (σ : CSt) : Option (CSt) :=
  bd (fc_X4_xOf F σ (cs_fgoal σ)) (fun r175 => bd (fc_X3_stepX F σ (cs_fgs σ)) (fun r182 => bd (fc_X4_yOf F σ (cs_fgoal σ)) (fun r194 => bd (fc_X3_stepY F σ (cs_fgs σ)) (fun r201 => bd (fc_X8_addCorner F σ (r175 - r182) (r194 - r201)) (fun σ205 => some σ205)))))
def fc_X8_walk_L129 (F : Nat) (σ : CSt) (x2 : Int32) : Option (CSt) :=
  bd (fc_X3_opposite F σ (cs_fgs σ)) (fun r134 => if x2 = r134 then (fc_X8_walk_L166 F σ) else (bd (fc_X4_xOf F σ (cs_fgoal σ)) (fun r149 => bd (fc_X4_yOf F σ (cs_fgoal σ)) (fun r160 => bd (fc_X8_addCorner F σ r149 r160) (fun σ163 => fc_X8_walk_L166 F σ163)))))
def fc_X8_walk_L109 (F : Nat) (k59 : CSt → Int32 → Int32 → Int32 → Option (CSt)) (σ : CSt) (x1 : Int32) (x3 : Int32) (x4 : Int32) : Option (CSt) :=
  bd (fc_X4_neighbour F σ x1 x4) (fun r116 => lt (x3 + (1 : Int32)) (fun x3_123 => k59 σ r116 x4 x3_123))
def fc_X8_walk_L59_c (F : Nat) (k59 : CSt → Int32 → Int32 → Int32 → Option (CSt)) (σ : CSt) (x1 : Int32) (x2 : Int32) (x3 : Int32) : Option (CSt) :=
  if (1296 : Int32) ≤ x3 then (fc_X8_walk_L129 F σ x2) else (bd (fc_X8_nextDirection F σ x1 x2) (fun r69 => if r69 = (-1 : Int32) then (fc_X8_walk_L129 F σ x2) else (if r69 = x2 then (fc_X8_walk_L109 F k59 σ x1 x3 r69) else (bd (fc_X4_xOf F σ x1) (fun r95 => bd (fc_X4_yOf F σ x1) (fun r103 => bd (fc_X8_addCorner F σ r95 r103) (fun σ106 => fc_X8_walk_L109 F k59 σ106 x1 x3 r69)))))))
def fc_X8_walk_L59 (F : Nat) (n : Nat) (σ : CSt) (x1 : Int32) (x2 : Int32) (x3 : Int32) : Option (CSt) := lpN (fun (k : CSt × Int32 × Int32 × Int32 → Option (CSt)) a => fc_X8_walk_L59_c F (fun σ x1 x2 x3 => k (σ, x1, x2, x3)) a.1 a.2.1 a.2.2.1 a.2.2.2) n (σ, x1, x2, x3)
def fc_X8_walk (F : Nat) (σ : CSt) : Option (CSt) :=
  lt (cs_fcn_s σ (0 : Int32)) (fun σ2 => bd (fc_X4_xOf F σ2 (cs_fstart σ2)) (fun r14 => bd (fc_X3_stepX F σ2 (cs_fss σ2)) (fun r21 => bd (fc_X4_yOf F σ2 (cs_fstart σ2)) (fun r33 => bd (fc_X3_stepY F σ2 (cs_fss σ2)) (fun r40 => bd (fc_X8_addCorner F σ2 (r14 - r21) (r33 - r40)) (fun σ44 => lt (cs_fstart σ44) (fun x1_51 => lt (cs_fss σ44) (fun x2_56 => fc_X8_walk_L59 F F σ44 x1_51 x2_56 (0 : Int32)))))))))
set_option maxHeartbeats 4000000 in
set_option maxRecDepth 100000 in
theorem kc_X8_walk (l : Launch) (D : va_G) (cA : Nat → ClassId) (ad : Nat → Nat) (σ0 : CSt) (η : HS) (F : Nat)  (σr : CSt) (hf : fc_X8_walk F σ0 = some σr) : KC l D cA ad σ0 η yX8_walk cX8_walk 5 none (rmk 3 71) [.ref (ad 23)] none σr := by
  refine KC.of (by decide) (Nat.le_of_ble_eq_true rfl) ?_
  intro p e s m below meth c A hAe hA C hr hlk hK hP hD hS hZ ls hl
  have hl : lv_has ls 5 [(0, .ref (ad 23))] := hl
  have hB166 : ∀ (H : Heap) (locs : List Loc) (σ : CSt) (ls : Array Slot), HC D cA ad σ η H → va_D A (wC cA ad σ η) → va_S A s.heap H locs → lv_has ls 5 [(0, .ref (ad 23))] → fc_X8_walk_L166 F σ = some σr → WC p l e 3 71 s m [.ref (ad 23)] below meth c none D cA ad σ0 η σr A H locs (F0 m 166 ls []) := by
    intro H locs σ ls hP hD hS hl hf
    unfold fc_X8_walk_L166 at hf
    refine lv_aload_n C.1 C.2.1 dX8_walk_166 rfl (lv_at hl 0 rfl) ?_
    refine lv_aload_n C.1 C.2.1 dX8_walk_167 rfl (lv_at hl 0 rfl) ?_
    refine gc_fi_grid C hK hP wf_X8_14 dX8_walk_168 ?_
    refine lv_aload_n C.1 C.2.1 dX8_walk_171 rfl (lv_at hl 0 rfl) ?_
    refine gc_fi_goal C hK hP wf_X8_54 dX8_walk_172 ?_
    obtain ⟨r175, hc175, hf⟩ := bd_some hf
    refine cV_go (runRVc (As := [_]) C hK hP hZ hS wv_X8_138 hl (kc_X4_xOf l D cA ad _ η F _  r175 hc175) (rcC 27 4 hK hP rfl rfl) rfl rfl rfl (Nat.le_of_ble_eq_true rfl) ⟨Nat.le_refl _, Nat.le_refl _⟩ dX8_walk_175) ?_
    refine lv_aload_n C.1 C.2.1 dX8_walk_178 rfl (lv_at hl 0 rfl) ?_
    refine gc_fi_goalSide C hK hP wf_X8_82 dX8_walk_179 ?_
    obtain ⟨r182, hc182, hf⟩ := bd_some hf
    refine cV_go (runRSc (As := [_]) C hK hP hZ hS wv_X8_88 hl (kc_X3_stepX l D cA ad _ η F _  r182 hc182) rfl rfl rfl (Nat.le_of_ble_eq_true rfl) ⟨Nat.le_refl _, Nat.le_refl _⟩ dX8_walk_182) ?_
    refine lv_isub C.1 C.2.1 dX8_walk_185 ?_
    refine lv_aload_n C.1 C.2.1 dX8_walk_186 rfl (lv_at hl 0 rfl) ?_
    refine gc_fi_grid C hK hP wf_X8_14 dX8_walk_187 ?_
    refine lv_aload_n C.1 C.2.1 dX8_walk_190 rfl (lv_at hl 0 rfl) ?_
    refine gc_fi_goal C hK hP wf_X8_54 dX8_walk_191 ?_
    obtain ⟨r194, hc194, hf⟩ := bd_some hf
    refine cV_go (runRVc (As := [_]) C hK hP hZ hS wv_X8_141 hl (kc_X4_yOf l D cA ad _ η F _  r194 hc194) (rcC 27 4 hK hP rfl rfl) rfl rfl rfl (Nat.le_of_ble_eq_true rfl) ⟨Nat.le_refl _, Nat.le_refl _⟩ dX8_walk_194) ?_
    refine lv_aload_n C.1 C.2.1 dX8_walk_197 rfl (lv_at hl 0 rfl) ?_
    refine gc_fi_goalSide C hK hP wf_X8_82 dX8_walk_198 ?_
    obtain ⟨r201, hc201, hf⟩ := bd_some hf
    refine cV_go (runRSc (As := [_]) C hK hP hZ hS wv_X8_94 hl (kc_X3_stepY l D cA ad _ η F _  r201 hc201) rfl rfl rfl (Nat.le_of_ble_eq_true rfl) ⟨Nat.le_refl _, Nat.le_refl _⟩ dX8_walk_201) ?_
    refine lv_isub C.1 C.2.1 dX8_walk_204 ?_
    obtain ⟨σ205, hc205, hf⟩ := bd_some hf
    refine callCV (As := [_, _]) C hK hP hD hA hS hZ wv_X8_144 hl (kc_X8_addCorner l D cA ad _ η F _ _  σ205 hc205) (rcC 23 8 hK hP rfl rfl) rfl rfl rfl (Nat.le_of_ble_eq_true rfl) ⟨Nat.le_refl _, Nat.le_refl _⟩ dX8_walk_205 (fun H locs hP hD hS => ?_)
    obtain rfl := Option.some.inj hf
    exact KC.vret C hr hlk hK hAe hP hD hS rfl dX8_walk_208
  have hB129 : ∀ (H : Heap) (locs : List Loc) (σ : CSt) (ls : Array Slot) (x2 : Int32), HC D cA ad σ η H → va_D A (wC cA ad σ η) → va_S A s.heap H locs → lv_has ls 5 [(0, .ref (ad 23)), (2, .int x2)] → fc_X8_walk_L129 F σ x2 = some σr → WC p l e 3 71 s m [.ref (ad 23)] below meth c none D cA ad σ0 η σr A H locs (F0 m 129 ls []) := by
    intro H locs σ ls x2 hP hD hS hl hf
    unfold fc_X8_walk_L129 at hf
    refine lv_iload_n C.1 C.2.1 dX8_walk_129 rfl (lv_at hl 1 rfl) ?_
    refine lv_aload_n C.1 C.2.1 dX8_walk_130 rfl (lv_at hl 0 rfl) ?_
    refine gc_fi_goalSide C hK hP wf_X8_82 dX8_walk_131 ?_
    obtain ⟨r134, hc134, hf⟩ := bd_some hf
    refine cV_go (runRSc (As := [_]) C hK hP hZ hS wv_X8_120 hl (kc_X3_opposite l D cA ad _ η F _  r134 hc134) rfl rfl rfl (Nat.le_of_ble_eq_true rfl) ⟨Nat.le_refl _, Nat.le_refl _⟩ dX8_walk_134) ?_
    refine lv_icmp_eq (tgt := 166) C.1 C.2.1 dX8_walk_137 (by decide) (fun c137 => ?_) (fun c137 => ?_)
    · have hf := br_p c137 hf
      exact hB166 _ _ _ ls hP hD hS (lv_sub hl [0] rfl) hf
    · have hf := br_n c137 hf
      refine lv_aload_n C.1 C.2.1 dX8_walk_140 rfl (lv_at hl 0 rfl) ?_
      refine lv_aload_n C.1 C.2.1 dX8_walk_141 rfl (lv_at hl 0 rfl) ?_
      refine gc_fi_grid C hK hP wf_X8_14 dX8_walk_142 ?_
      refine lv_aload_n C.1 C.2.1 dX8_walk_145 rfl (lv_at hl 0 rfl) ?_
      refine gc_fi_goal C hK hP wf_X8_54 dX8_walk_146 ?_
      obtain ⟨r149, hc149, hf⟩ := bd_some hf
      refine cV_go (runRVc (As := [_]) C hK hP hZ hS wv_X8_138 hl (kc_X4_xOf l D cA ad _ η F _  r149 hc149) (rcC 27 4 hK hP rfl rfl) rfl rfl rfl (Nat.le_of_ble_eq_true rfl) ⟨Nat.le_refl _, Nat.le_refl _⟩ dX8_walk_149) ?_
      refine lv_aload_n C.1 C.2.1 dX8_walk_152 rfl (lv_at hl 0 rfl) ?_
      refine gc_fi_grid C hK hP wf_X8_14 dX8_walk_153 ?_
      refine lv_aload_n C.1 C.2.1 dX8_walk_156 rfl (lv_at hl 0 rfl) ?_
      refine gc_fi_goal C hK hP wf_X8_54 dX8_walk_157 ?_
      obtain ⟨r160, hc160, hf⟩ := bd_some hf
      refine cV_go (runRVc (As := [_]) C hK hP hZ hS wv_X8_141 hl (kc_X4_yOf l D cA ad _ η F _  r160 hc160) (rcC 27 4 hK hP rfl rfl) rfl rfl rfl (Nat.le_of_ble_eq_true rfl) ⟨Nat.le_refl _, Nat.le_refl _⟩ dX8_walk_160) ?_
      obtain ⟨σ163, hc163, hf⟩ := bd_some hf
      refine callCV (As := [_, _]) C hK hP hD hA hS hZ wv_X8_144 hl (kc_X8_addCorner l D cA ad _ η F _ _  σ163 hc163) (rcC 23 8 hK hP rfl rfl) rfl rfl rfl (Nat.le_of_ble_eq_true rfl) ⟨Nat.le_refl _, Nat.le_refl _⟩ dX8_walk_163 (fun H locs hP hD hS => ?_)
      exact hB166 _ _ _ ls hP hD hS (lv_sub hl [0] rfl) hf
  have hB59 : ∀ (n59 : Nat) (H : Heap) (locs : List Loc) (σ : CSt) (ls : Array Slot) (x1 : Int32) (x2 : Int32) (x3 : Int32), HC D cA ad σ η H → va_D A (wC cA ad σ η) → va_S A s.heap H locs → lv_has ls 5 [(0, .ref (ad 23)), (1, .int x1), (2, .int x2), (3, .int x3)] → fc_X8_walk_L59 F n59 σ x1 x2 x3 = some σr → WC p l e 3 71 s m [.ref (ad 23)] below meth c none D cA ad σ0 η σr A H locs (F0 m 59 ls []) := by
    intro n59
    induction n59 with
    | zero =>
      intro H locs σ ls x1 x2 x3 hP hD hS hl hf
      cases (show (none : Option _) = _ from hf)
    | succ n59 ih59 =>
      have hB109 : ∀ (H : Heap) (locs : List Loc) (σ : CSt) (ls : Array Slot) (x1 : Int32) (x3 : Int32) (x4 : Int32), HC D cA ad σ η H → va_D A (wC cA ad σ η) → va_S A s.heap H locs → lv_has ls 5 [(0, .ref (ad 23)), (1, .int x1), (3, .int x3), (4, .int x4)] → fc_X8_walk_L109 F (fc_X8_walk_L59 F n59) σ x1 x3 x4 = some σr → WC p l e 3 71 s m [.ref (ad 23)] below meth c none D cA ad σ0 η σr A H locs (F0 m 109 ls []) := by
        intro H locs σ ls x1 x3 x4 hP hD hS hl hf
        unfold fc_X8_walk_L109 at hf
        refine lv_aload_n C.1 C.2.1 dX8_walk_109 rfl (lv_at hl 0 rfl) ?_
        refine gc_fi_grid C hK hP wf_X8_14 dX8_walk_110 ?_
        refine lv_iload_n C.1 C.2.1 dX8_walk_113 rfl (lv_at hl 1 rfl) ?_
        refine lv_iload C.1 C.2.1 dX8_walk_114 (lv_at hl 3 rfl) ?_
        obtain ⟨r116, hc116, hf⟩ := bd_some hf
        refine cV_go (runRVc (As := [_, _]) C hK hP hZ hS wv_X8_129 hl (kc_X4_neighbour l D cA ad _ η F _ _  r116 hc116) (rcC 27 4 hK hP rfl rfl) rfl rfl rfl (Nat.le_of_ble_eq_true rfl) ⟨Nat.le_refl _, Nat.le_refl _⟩ dX8_walk_116) ?_
        refine lv_istore_n (lv' := [(1, .int r116), (0, .ref (ad 23)), (3, .int x3), (4, .int x4)]) C.1 C.2.1 dX8_walk_119 rfl hl (by decide) rfl (fun ls hl => ?_)
        refine lv_iload C.1 C.2.1 dX8_walk_120 (lv_at hl 3 rfl) ?_
        refine lv_istore_n (lv' := [(2, .int x4), (1, .int r116), (0, .ref (ad 23)), (3, .int x3), (4, .int x4)]) C.1 C.2.1 dX8_walk_122 rfl hl (by decide) rfl (fun ls hl => ?_)
        obtain ⟨x3_123, ex3_123, hf⟩ := lt_some hf
        refine lv_iinc (v := x3_123) (lv' := [(3, .int x3_123), (2, .int x4), (1, .int r116), (0, .ref (ad 23)), (4, .int x4)]) C.1 C.2.1 dX8_walk_123 hl (k := 3) rfl (by rw [ex3_123]; rfl) (by decide) rfl (fun ls hl => ?_)
        refine lv_goto (tgt := 59) C.1 C.2.1 dX8_walk_126 (by decide) ?_
        exact ih59 _ _ _ ls _ _ _ hP hD hS (lv_sub hl [3, 2, 1, 0] rfl) hf
      intro H locs σ ls x1 x2 x3 hP hD hS hl hf
      have hf : fc_X8_walk_L59_c F (fc_X8_walk_L59 F n59) σ x1 x2 x3 = some σr := hf
      unfold fc_X8_walk_L59_c at hf
      refine lv_iload_n C.1 C.2.1 dX8_walk_59 rfl (lv_at hl 3 rfl) ?_
      refine lv_sipush (v := (1296 : Int32)) C.1 C.2.1 dX8_walk_60 (by decide) ?_
      refine lv_icmp_ge (tgt := 129) C.1 C.2.1 dX8_walk_63 (by decide) (fun c63 => ?_) (fun c63 => ?_)
      · have hf := br_p c63 hf
        exact hB129 _ _ _ ls _ hP hD hS (lv_sub hl [0, 2] rfl) hf
      · have hf := br_n c63 hf
        refine lv_aload_n C.1 C.2.1 dX8_walk_66 rfl (lv_at hl 0 rfl) ?_
        refine lv_iload_n C.1 C.2.1 dX8_walk_67 rfl (lv_at hl 1 rfl) ?_
        refine lv_iload_n C.1 C.2.1 dX8_walk_68 rfl (lv_at hl 2 rfl) ?_
        obtain ⟨r69, hc69, hf⟩ := bd_some hf
        refine cV_go (runRVc (As := [_, _]) C hK hP hZ hS wv_X8_147 hl (kc_X8_nextDirection l D cA ad _ η F _ _  r69 hc69) (rcC 23 8 hK hP rfl rfl) rfl rfl rfl (Nat.le_of_ble_eq_true rfl) ⟨Nat.le_refl _, Nat.le_refl _⟩ dX8_walk_69) ?_
        refine lv_istore (lv' := [(4, .int r69), (0, .ref (ad 23)), (1, .int x1), (2, .int x2), (3, .int x3)]) C.1 C.2.1 dX8_walk_72 hl (by decide) rfl (fun ls hl => ?_)
        refine lv_iload C.1 C.2.1 dX8_walk_74 (lv_at hl 0 rfl) ?_
        refine lv_iconst (v := (-1 : Int32)) C.1 C.2.1 dX8_walk_76 (by decide) ?_
        refine lv_icmp_ne (tgt := 83) C.1 C.2.1 dX8_walk_77 (by decide) (fun c77 => ?_) (fun c77 => ?_)
        · have hf := br_n c77 hf
          refine lv_iload C.1 C.2.1 dX8_walk_83 (lv_at hl 0 rfl) ?_
          refine lv_iload_n C.1 C.2.1 dX8_walk_85 rfl (lv_at hl 3 rfl) ?_
          refine lv_icmp_eq (tgt := 109) C.1 C.2.1 dX8_walk_86 (by decide) (fun c86 => ?_) (fun c86 => ?_)
          · have hf := br_p c86 hf
            exact hB109 _ _ _ ls _ _ _ hP hD hS (lv_sub hl [1, 2, 4, 0] rfl) hf
          · have hf := br_n c86 hf
            refine lv_aload_n C.1 C.2.1 dX8_walk_89 rfl (lv_at hl 1 rfl) ?_
            refine lv_aload_n C.1 C.2.1 dX8_walk_90 rfl (lv_at hl 1 rfl) ?_
            refine gc_fi_grid C hK hP wf_X8_14 dX8_walk_91 ?_
            refine lv_iload_n C.1 C.2.1 dX8_walk_94 rfl (lv_at hl 2 rfl) ?_
            obtain ⟨r95, hc95, hf⟩ := bd_some hf
            refine cV_go (runRVc (As := [_]) C hK hP hZ hS wv_X8_138 hl (kc_X4_xOf l D cA ad _ η F _  r95 hc95) (rcC 27 4 hK hP rfl rfl) rfl rfl rfl (Nat.le_of_ble_eq_true rfl) ⟨Nat.le_refl _, Nat.le_refl _⟩ dX8_walk_95) ?_
            refine lv_aload_n C.1 C.2.1 dX8_walk_98 rfl (lv_at hl 1 rfl) ?_
            refine gc_fi_grid C hK hP wf_X8_14 dX8_walk_99 ?_
            refine lv_iload_n C.1 C.2.1 dX8_walk_102 rfl (lv_at hl 2 rfl) ?_
            obtain ⟨r103, hc103, hf⟩ := bd_some hf
            refine cV_go (runRVc (As := [_]) C hK hP hZ hS wv_X8_141 hl (kc_X4_yOf l D cA ad _ η F _  r103 hc103) (rcC 27 4 hK hP rfl rfl) rfl rfl rfl (Nat.le_of_ble_eq_true rfl) ⟨Nat.le_refl _, Nat.le_refl _⟩ dX8_walk_103) ?_
            obtain ⟨σ106, hc106, hf⟩ := bd_some hf
            refine callCV (As := [_, _]) C hK hP hD hA hS hZ wv_X8_144 hl (kc_X8_addCorner l D cA ad _ η F _ _  σ106 hc106) (rcC 23 8 hK hP rfl rfl) rfl rfl rfl (Nat.le_of_ble_eq_true rfl) ⟨Nat.le_refl _, Nat.le_refl _⟩ dX8_walk_106 (fun H locs hP hD hS => ?_)
            exact hB109 _ _ _ ls _ _ _ hP hD hS (lv_sub hl [1, 2, 4, 0] rfl) hf
        · have hf := br_p c77 hf
          refine lv_goto (tgt := 129) C.1 C.2.1 dX8_walk_80 (by decide) ?_
          exact hB129 _ _ _ ls _ hP hD hS (lv_sub hl [1, 3] rfl) hf
  unfold fc_X8_walk at hf
  refine lv_aload_n C.1 C.2.1 dX8_walk_0 rfl (lv_at hl 0 rfl) ?_
  refine lv_iconst (v := (0 : Int32)) C.1 C.2.1 dX8_walk_1 (by decide) ?_
  replace hf := lt_e hf
  refine pc_fi_corners C hK hP hD hS wf_X8_135 dX8_walk_2 (fun H locs hP hD hS => ?_)
  refine lv_aload_n C.1 C.2.1 dX8_walk_5 rfl (lv_at hl 0 rfl) ?_
  refine lv_aload_n C.1 C.2.1 dX8_walk_6 rfl (lv_at hl 0 rfl) ?_
  refine gc_fi_grid C hK hP wf_X8_14 dX8_walk_7 ?_
  refine lv_aload_n C.1 C.2.1 dX8_walk_10 rfl (lv_at hl 0 rfl) ?_
  refine gc_fi_start C hK hP wf_X8_43 dX8_walk_11 ?_
  obtain ⟨r14, hc14, hf⟩ := bd_some hf
  refine cV_go (runRVc (As := [_]) C hK hP hZ hS wv_X8_138 hl (kc_X4_xOf l D cA ad _ η F _  r14 hc14) (rcC 27 4 hK hP rfl rfl) rfl rfl rfl (Nat.le_of_ble_eq_true rfl) ⟨Nat.le_refl _, Nat.le_refl _⟩ dX8_walk_14) ?_
  refine lv_aload_n C.1 C.2.1 dX8_walk_17 rfl (lv_at hl 0 rfl) ?_
  refine gc_fi_startSide C hK hP wf_X8_47 dX8_walk_18 ?_
  obtain ⟨r21, hc21, hf⟩ := bd_some hf
  refine cV_go (runRSc (As := [_]) C hK hP hZ hS wv_X8_88 hl (kc_X3_stepX l D cA ad _ η F _  r21 hc21) rfl rfl rfl (Nat.le_of_ble_eq_true rfl) ⟨Nat.le_refl _, Nat.le_refl _⟩ dX8_walk_21) ?_
  refine lv_isub C.1 C.2.1 dX8_walk_24 ?_
  refine lv_aload_n C.1 C.2.1 dX8_walk_25 rfl (lv_at hl 0 rfl) ?_
  refine gc_fi_grid C hK hP wf_X8_14 dX8_walk_26 ?_
  refine lv_aload_n C.1 C.2.1 dX8_walk_29 rfl (lv_at hl 0 rfl) ?_
  refine gc_fi_start C hK hP wf_X8_43 dX8_walk_30 ?_
  obtain ⟨r33, hc33, hf⟩ := bd_some hf
  refine cV_go (runRVc (As := [_]) C hK hP hZ hS wv_X8_141 hl (kc_X4_yOf l D cA ad _ η F _  r33 hc33) (rcC 27 4 hK hP rfl rfl) rfl rfl rfl (Nat.le_of_ble_eq_true rfl) ⟨Nat.le_refl _, Nat.le_refl _⟩ dX8_walk_33) ?_
  refine lv_aload_n C.1 C.2.1 dX8_walk_36 rfl (lv_at hl 0 rfl) ?_
  refine gc_fi_startSide C hK hP wf_X8_47 dX8_walk_37 ?_
  obtain ⟨r40, hc40, hf⟩ := bd_some hf
  refine cV_go (runRSc (As := [_]) C hK hP hZ hS wv_X8_94 hl (kc_X3_stepY l D cA ad _ η F _  r40 hc40) rfl rfl rfl (Nat.le_of_ble_eq_true rfl) ⟨Nat.le_refl _, Nat.le_refl _⟩ dX8_walk_40) ?_
  refine lv_isub C.1 C.2.1 dX8_walk_43 ?_
  obtain ⟨σ44, hc44, hf⟩ := bd_some hf
  refine callCV (As := [_, _]) C hK hP hD hA hS hZ wv_X8_144 hl (kc_X8_addCorner l D cA ad _ η F _ _  σ44 hc44) (rcC 23 8 hK hP rfl rfl) rfl rfl rfl (Nat.le_of_ble_eq_true rfl) ⟨Nat.le_refl _, Nat.le_refl _⟩ dX8_walk_44 (fun H locs hP hD hS => ?_)
  refine lv_aload_n C.1 C.2.1 dX8_walk_47 rfl (lv_at hl 0 rfl) ?_
  refine gc_fi_start C hK hP wf_X8_43 dX8_walk_48 ?_
  obtain ⟨x1_51, ex1_51, hf⟩ := lt_some hf
  refine lv_tope ex1_51 ?_
  refine lv_istore_n (lv' := [(1, .int x1_51), (0, .ref (ad 23))]) C.1 C.2.1 dX8_walk_51 rfl hl (by decide) rfl (fun ls hl => ?_)
  refine lv_aload_n C.1 C.2.1 dX8_walk_52 rfl (lv_at hl 1 rfl) ?_
  refine gc_fi_startSide C hK hP wf_X8_47 dX8_walk_53 ?_
  obtain ⟨x2_56, ex2_56, hf⟩ := lt_some hf
  refine lv_tope ex2_56 ?_
  refine lv_istore_n (lv' := [(2, .int x2_56), (1, .int x1_51), (0, .ref (ad 23))]) C.1 C.2.1 dX8_walk_56 rfl hl (by decide) rfl (fun ls hl => ?_)
  refine lv_iconst (v := (0 : Int32)) C.1 C.2.1 dX8_walk_57 (by decide) ?_
  refine lv_istore_n (lv' := [(3, .int (0 : Int32)), (2, .int x2_56), (1, .int x1_51), (0, .ref (ad 23))]) C.1 C.2.1 dX8_walk_58 rfl hl (by decide) rfl (fun ls hl => ?_)
  exact hB59 F _ _ _ ls _ _ _ hP hD hS (lv_sub hl [3, 2, 1, 0] rfl) hf
def fc_X6_corners (F : Nat) (σ : CSt) (vx0 : RV) : Option (Int32) :=
  some (nI (vx0.2.1))
set_option maxHeartbeats 4000000 in
set_option maxRecDepth 100000 in
theorem kc_X6_corners (l : Launch) (D : va_G) (cA : Nat → ClassId) (ad : Nat → Nat) (σ : CSt) (η : HS) (F : Nat) (az0 : Nat) (vz0 : RV) (hvz0 : isRt cA η az0 vz0) (r : Int32) (hf : fc_X6_corners F σ vz0 = some r) : KRc l D cA ad σ η yX6_corners cX6_corners 1 (some .int) (rmk 0 0) [.ref az0] (QcV (.int r)) := by
  refine KRc.of (by decide) (Nat.le_of_ble_eq_true rfl) ?_
  intro p e s m below meth c C hr hlk hK hP hZ ls hl
  have hS : va_S NoA s.heap s.heap [] := va_S.rf
  have hl : lv_has ls 1 [(0, .ref az0)] := hl
  unfold fc_X6_corners at hf
  refine lv_aload_n C.1 C.2.1 dX6_corners_0 rfl (lv_at hl 0 rfl) ?_
  refine gp_xs C hK hP hvz0 wf_X6_13 dX6_corners_1 (fun q1 hq1 => ?_)
  refine np_pa C hK hP hq1 dX6_corners_4 ?_
  exact KRc.iret C hr hlk (Option.some.inj hf) dX6_corners_5
