def fc_X9_textFault (F : Nat) (σ : CSt) : Option (Int32 × CSt) :=
  bd2 (fc_X2_findFault F σ) (fun r4 σ4 => some (r4, σ4))
set_option maxHeartbeats 4000000 in
set_option maxRecDepth 100000 in
theorem kc_X9_textFault (l : Launch) (D : va_G) (cA : Nat → ClassId) (ad : Nat → Nat) (σ0 : CSt) (η : HS) (F : Nat)  (r : Int32) (σr : CSt) (hf : fc_X9_textFault F σ0 = some (r, σr)) : KC l D cA ad σ0 η yX9_textFault cX9_textFault 1 (some .int) (rmk 9 194) [.ref (ad 0)] (some (.int r)) σr := by
  refine KC.of (by decide) (Nat.le_of_ble_eq_true rfl) ?_
  intro p e s m below meth c A hAe hA C hr hlk hK hP hD hS hZ ls hl
  have hl : lv_has ls 1 [(0, .ref (ad 0))] := hl
  unfold fc_X9_textFault at hf
  refine lv_aload_n C.1 C.2.1 dX9_textFault_0 rfl (lv_at hl 0 rfl) ?_
  refine gc_R_text C hK hP wf_X9_40 dX9_textFault_1 ?_
  obtain ⟨r4, σ4, hc4, hf⟩ := bd2_some hf
  refine callCV (As := []) C hK hP hD hA hS hZ wv_X9_228 hl (kc_X2_findFault l D cA ad _ η F   r4 σ4 hc4) (rcC 42 3 hK hP rfl rfl) rfl rfl rfl (Nat.le_of_ble_eq_true rfl) ⟨Nat.le_refl _, Nat.le_refl _⟩ dX9_textFault_4 (fun H locs hP hD hS => ?_)
  obtain ⟨rfl, rfl⟩ := Prod.mk.inj (Option.some.inj hf)
  exact KC.iret C hr hlk hK hAe hP hD hS rfl dX9_textFault_7
def fc_X5_restore (F : Nat) (σ : CSt) : Option (CSt) :=
  lt (cs_hs_s σ ((cs_hs σ) - (1 : Int32))) (fun σ7 => gd (ix (((cs_ho σ7) + (cs_hs σ7)) - ((cs_ho σ7) + (cs_hs σ7)) / (4 : Int32) * (4 : Int32)) 4 = true) (bd (fc_X1_copyFrom_M F σ7 ((((cs_ho σ7) + (cs_hs σ7)) - ((cs_ho σ7) + (cs_hs σ7)) / (4 : Int32) * (4 : Int32)).toNatClampNeg)) (fun σ27 => some σ27)))
set_option maxHeartbeats 4000000 in
set_option maxRecDepth 100000 in
theorem kc_X5_restore (l : Launch) (D : va_G) (cA : Nat → ClassId) (ad : Nat → Nat) (σ0 : CSt) (η0 : HS) (F : Nat)  (σr : CSt) (hf : fc_X5_restore F σ0 = some σr) : KE l D cA ad σ0 η0 yX5_restore cX5_restore 2 none (rmc 2 62 0 0) [.ref (ad 21), .ref (ad 1)] none σr := by
  refine KE.of (by decide) (Nat.le_of_ble_eq_true rfl) ?_
  intro p e s m below meth c A hAe hA C hr hlk hK hP hD hS hZ ls hl
  have hx : ext η0 η0 := ext.rf
  have hl : lv_has ls 2 [(0, .ref (ad 21)), (1, .ref (ad 1))] := hl
  unfold fc_X5_restore at hf
  refine lv_aload_n C.1 C.2.1 dX5_restore_0 rfl (lv_at hl 0 rfl) ?_
  refine lv_dup C.1 C.2.1 dX5_restore_1 rfl ?_
  refine gc_hi_size C hK hP wf_X5_16 dX5_restore_2 ?_
  refine lv_iconst (v := (1 : Int32)) C.1 C.2.1 dX5_restore_5 (by decide) ?_
  refine lv_isub C.1 C.2.1 dX5_restore_6 ?_
  replace hf := lt_e hf
  refine pc_hi_size C hK hP hD hS wf_X5_16 dX5_restore_7 (fun H locs hP hD hS => ?_)
  refine lv_aload_n C.1 C.2.1 dX5_restore_10 rfl (lv_at hl 1 rfl) ?_
  refine lv_aload_n C.1 C.2.1 dX5_restore_11 rfl (lv_at hl 0 rfl) ?_
  refine gc_hi_kept C hK hP wf_X5_11 dX5_restore_12 ?_
  refine lv_aload_n C.1 C.2.1 dX5_restore_15 rfl (lv_at hl 0 rfl) ?_
  refine gc_hi_oldest C hK hP wf_X5_20 dX5_restore_16 ?_
  refine lv_aload_n C.1 C.2.1 dX5_restore_19 rfl (lv_at hl 0 rfl) ?_
  refine gc_hi_size C hK hP wf_X5_16 dX5_restore_20 ?_
  refine lv_iadd C.1 C.2.1 dX5_restore_23 ?_
  refine lv_iconst (v := (4 : Int32)) C.1 C.2.1 dX5_restore_24 (by decide) ?_
  refine lv_irem C.1 C.2.1 dX5_restore_25 (by decide) ?_
  obtain ⟨hi26, hf⟩ := gd_some hf
  refine lk_kept C hK hP hi26 dX5_restore_26 (fun h426 => ?_)
  obtain ⟨σ27, hc27, hf⟩ := bd_some hf
  refine callEV (As := [_]) C hK hP hD hA hS hZ wv_X5_23 hl (kc_X1_copyFrom_M l D cA ad _ _ F _ h426 σ27 hc27) (rcC 1 2 hK hP rfl rfl) rfl rfl rfl (Nat.le_of_ble_eq_true rfl) ⟨Nat.le_refl _, Nat.le_refl _⟩ dX5_restore_27 (fun η H locs hx1 hP hD hS => ?_)
  replace hx := hx.tr hx1
  obtain rfl := Option.some.inj hf
  exact KE.vret C hr hlk hK hAe hx hP hD hS (Nat.le_refl _) (Nat.le_refl _) rfl dX5_restore_30
def fc_X9_undo (F : Nat) (σ : CSt) : Option (Int32 × CSt) :=
  if (cs_hs σ) = 0 then (some ((-1003 : Int32), σ)) else (bd (fc_X5_restore F σ) (fun σ22 => some ((cs_hs σ22), σ22)))
set_option maxHeartbeats 4000000 in
set_option maxRecDepth 100000 in
theorem kc_X9_undo (l : Launch) (D : va_G) (cA : Nat → ClassId) (ad : Nat → Nat) (σ0 : CSt) (η0 : HS) (F : Nat)  (r : Int32) (σr : CSt) (hf : fc_X9_undo F σ0 = some (r, σr)) : KE l D cA ad σ0 η0 yX9_undo cX9_undo 1 (some .int) (rmc 3 83 0 0) [.ref (ad 0)] (some (.int r)) σr := by
  refine KE.of (by decide) (Nat.le_of_ble_eq_true rfl) ?_
  intro p e s m below meth c A hAe hA C hr hlk hK hP hD hS hZ ls hl
  have hx : ext η0 η0 := ext.rf
  have hl : lv_has ls 1 [(0, .ref (ad 0))] := hl
  unfold fc_X9_undo at hf
  refine lv_aload_n C.1 C.2.1 dX9_undo_0 rfl (lv_at hl 0 rfl) ?_
  refine gc_R_history C hK hP wf_X9_19 dX9_undo_1 ?_
  refine gc_hi_size C hK hP wf_X9_255 dX9_undo_4 ?_
  refine lv_if_ne (tgt := 14) C.1 C.2.1 dX9_undo_7 (by decide) (fun c7 => ?_) (fun c7 => ?_)
  · have hf := br_n c7 hf
    refine lv_aload_n C.1 C.2.1 dX9_undo_14 rfl (lv_at hl 0 rfl) ?_
    refine gc_R_history C hK hP wf_X9_19 dX9_undo_15 ?_
    refine lv_aload_n C.1 C.2.1 dX9_undo_18 rfl (lv_at hl 0 rfl) ?_
    refine gc_R_canvas C hK hP wf_X9_10 dX9_undo_19 ?_
    obtain ⟨σ22, hc22, hf⟩ := bd_some hf
    refine callEV (As := [_]) C hK hP hD hA hS hZ wv_X9_258 hl (kc_X5_restore l D cA ad _ _ F   σ22 hc22) (rcC 21 5 hK hP rfl rfl) rfl rfl rfl (Nat.le_of_ble_eq_true rfl) ⟨Nat.le_refl _, Nat.le_refl _⟩ dX9_undo_22 (fun η H locs hx1 hP hD hS => ?_)
    replace hx := hx.tr hx1
    refine lv_aload_n C.1 C.2.1 dX9_undo_25 rfl (lv_at hl 0 rfl) ?_
    refine gc_R_history C hK hP wf_X9_19 dX9_undo_26 ?_
    refine gc_hi_size C hK hP wf_X9_255 dX9_undo_29 ?_
    obtain ⟨rfl, rfl⟩ := Prod.mk.inj (Option.some.inj hf)
    exact KE.iret C hr hlk hK hAe hx hP hD hS (Nat.le_refl _) (Nat.le_refl _) rfl dX9_undo_32
  · have hf := br_p c7 hf
    refine lv_sipush (v := (-1003 : Int32)) C.1 C.2.1 dX9_undo_10 (by decide) ?_
    obtain ⟨rfl, rfl⟩ := Prod.mk.inj (Option.some.inj hf)
    exact KE.iret C hr hlk hK hAe hx hP hD hS (Nat.le_refl _) (Nat.le_refl _) rfl dX9_undo_13
