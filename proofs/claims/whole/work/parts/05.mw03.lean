def fm_stepLength_L64 (F : Nat) (σ : MS) (s0 : Int32) (s1 : Int32) : Option (Int32) :=
  some (s1 + s0)
def fm_stepLength_L51 (F : Nat) (σ : MS) (x4 : Int32) (s0 : Int32) : Option (Int32) :=
  if 0 ≤ x4 then (fm_stepLength_L64 F σ x4 s0) else (fm_stepLength_L64 F σ (-x4) s0)
def fm_stepLength (F : Nat) (σ : MS) (x1 : Int32) (x2 : Int32) : Option (Int32) :=
  gd (ix (x2 / (20 : Int32)) 20 = true) (gd (ix (x1 / (20 : Int32)) 20 = true) (lt ((ms_xs σ (x2 / (20 : Int32)).toNatClampNeg) - (ms_xs σ (x1 / (20 : Int32)).toNatClampNeg)) (fun x3_19 => gd (ix (x2 - x2 / (20 : Int32) * (20 : Int32)) 20 = true) (gd (ix (x1 - x1 / (20 : Int32) * (20 : Int32)) 20 = true) (lt ((ms_ys σ (x2 - x2 / (20 : Int32) * (20 : Int32)).toNatClampNeg) - (ms_ys σ (x1 - x1 / (20 : Int32) * (20 : Int32)).toNatClampNeg)) (fun x4_39 => if 0 ≤ x3_19 then (fm_stepLength_L51 F σ x4_39 x3_19) else (fm_stepLength_L51 F σ x4_39 (-x3_19))))))))
set_option maxHeartbeats 4000000 in
set_option maxRecDepth 100000 in
theorem km_stepLength (l : Launch) (D : va_G) (cA : Nat → ClassId) (ad : Nat → Nat) (σ : MS) (F : Nat) (a1 : Int32) (a2 : Int32) (r : Int32) (hf : fm_stepLength F σ a1 a2 = some r) : KR l D (tyG cA) yX10_stepLength cX10_stepLength 5 (some .int) (rmk 0 0) (wM cA ad σ) [.ref (ad 0), .int a1, .int a2] r := by
  refine KR.of (by decide) (Nat.le_of_ble_eq_true rfl) ?_
  intro p e s m below meth c C hr hlk hK hP ls hl
  have hl : lv_has ls 5 [(0, .ref (ad 0)), (1, .int a1), (2, .int a2)] := hl
  have hB64 : ∀ (ls : Array Slot) (s0 : Int32) (s1 : Int32), lv_has ls 5 [(0, .ref (ad 0))] → fm_stepLength_L64 F σ s0 s1 = some r → WR p l e 0 0 s m [.ref (ad 0), .int a1, .int a2] below meth c r (F0 m 64 ls [.int s0, .int s1]) := by
    intro ls s0 s1 hl hf
    unfold fm_stepLength_L64 at hf
    refine lv_iadd C.1 C.2.1 dX10_stepLength_64 ?_
    exact KR.iret C hr hlk (Option.some.inj hf) dX10_stepLength_65
  have hB51 : ∀ (ls : Array Slot) (x4 : Int32) (s0 : Int32), lv_has ls 5 [(0, .ref (ad 0)), (4, .int x4)] → fm_stepLength_L51 F σ x4 s0 = some r → WR p l e 0 0 s m [.ref (ad 0), .int a1, .int a2] below meth c r (F0 m 51 ls [.int s0]) := by
    intro ls x4 s0 hl hf
    unfold fm_stepLength_L51 at hf
    refine lv_iload C.1 C.2.1 dX10_stepLength_51 (lv_at hl 1 rfl) ?_
    refine lv_if_ge (tgt := 62) C.1 C.2.1 dX10_stepLength_53 (by decide) (fun c53 => ?_) (fun c53 => ?_)
    · have hf := br_p c53 hf
      refine lv_iload C.1 C.2.1 dX10_stepLength_62 (lv_at hl 1 rfl) ?_
      exact hB64 ls _ _ (lv_sub hl [0] rfl) hf
    · have hf := br_n c53 hf
      refine lv_iload C.1 C.2.1 dX10_stepLength_56 (lv_at hl 1 rfl) ?_
      refine lv_ineg C.1 C.2.1 dX10_stepLength_58 ?_
      refine lv_goto (tgt := 64) C.1 C.2.1 dX10_stepLength_59 (by decide) ?_
      exact hB64 ls _ _ (lv_sub hl [0] rfl) hf
  unfold fm_stepLength at hf
  refine lv_aload_n C.1 C.2.1 dX10_stepLength_0 rfl (lv_at hl 0 rfl) ?_
  refine gm_xs C hK hP dX10_stepLength_1 ?_
  refine lv_iload_n C.1 C.2.1 dX10_stepLength_4 rfl (lv_at hl 2 rfl) ?_
  refine lv_bipush (v := (20 : Int32)) C.1 C.2.1 dX10_stepLength_5 (by decide) ?_
  refine lv_idiv C.1 C.2.1 dX10_stepLength_7 (by decide) ?_
  obtain ⟨hi8, hf⟩ := gd_some hf
  refine lm_xs C hK hP hi8 dX10_stepLength_8 ?_
  refine lv_aload_n C.1 C.2.1 dX10_stepLength_9 rfl (lv_at hl 0 rfl) ?_
  refine gm_xs C hK hP dX10_stepLength_10 ?_
  refine lv_iload_n C.1 C.2.1 dX10_stepLength_13 rfl (lv_at hl 1 rfl) ?_
  refine lv_bipush (v := (20 : Int32)) C.1 C.2.1 dX10_stepLength_14 (by decide) ?_
  refine lv_idiv C.1 C.2.1 dX10_stepLength_16 (by decide) ?_
  obtain ⟨hi17, hf⟩ := gd_some hf
  refine lm_xs C hK hP hi17 dX10_stepLength_17 ?_
  refine lv_isub C.1 C.2.1 dX10_stepLength_18 ?_
  obtain ⟨x3_19, ex3_19, hf⟩ := lt_some hf
  refine lv_tope ex3_19 ?_
  refine lv_istore_n (lv' := [(3, .int x3_19), (0, .ref (ad 0)), (1, .int a1), (2, .int a2)]) C.1 C.2.1 dX10_stepLength_19 rfl hl (by decide) rfl (fun ls hl => ?_)
  refine lv_aload_n C.1 C.2.1 dX10_stepLength_20 rfl (lv_at hl 1 rfl) ?_
  refine gm_ys C hK hP dX10_stepLength_21 ?_
  refine lv_iload_n C.1 C.2.1 dX10_stepLength_24 rfl (lv_at hl 3 rfl) ?_
  refine lv_bipush (v := (20 : Int32)) C.1 C.2.1 dX10_stepLength_25 (by decide) ?_
  refine lv_irem C.1 C.2.1 dX10_stepLength_27 (by decide) ?_
  obtain ⟨hi28, hf⟩ := gd_some hf
  refine lm_ys C hK hP hi28 dX10_stepLength_28 ?_
  refine lv_aload_n C.1 C.2.1 dX10_stepLength_29 rfl (lv_at hl 1 rfl) ?_
  refine gm_ys C hK hP dX10_stepLength_30 ?_
  refine lv_iload_n C.1 C.2.1 dX10_stepLength_33 rfl (lv_at hl 2 rfl) ?_
  refine lv_bipush (v := (20 : Int32)) C.1 C.2.1 dX10_stepLength_34 (by decide) ?_
  refine lv_irem C.1 C.2.1 dX10_stepLength_36 (by decide) ?_
  obtain ⟨hi37, hf⟩ := gd_some hf
  refine lm_ys C hK hP hi37 dX10_stepLength_37 ?_
  refine lv_isub C.1 C.2.1 dX10_stepLength_38 ?_
  obtain ⟨x4_39, ex4_39, hf⟩ := lt_some hf
  refine lv_tope ex4_39 ?_
  refine lv_istore (lv' := [(4, .int x4_39), (3, .int x3_19), (0, .ref (ad 0)), (1, .int a1), (2, .int a2)]) C.1 C.2.1 dX10_stepLength_39 hl (by decide) rfl (fun ls hl => ?_)
  refine lv_iload_n C.1 C.2.1 dX10_stepLength_41 rfl (lv_at hl 1 rfl) ?_
  refine lv_if_ge (tgt := 50) C.1 C.2.1 dX10_stepLength_42 (by decide) (fun c42 => ?_) (fun c42 => ?_)
  · have hf := br_p c42 hf
    refine lv_iload_n C.1 C.2.1 dX10_stepLength_50 rfl (lv_at hl 1 rfl) ?_
    exact hB51 ls _ _ (lv_sub hl [2, 0] rfl) hf
  · have hf := br_n c42 hf
    refine lv_iload_n C.1 C.2.1 dX10_stepLength_45 rfl (lv_at hl 1 rfl) ?_
    refine lv_ineg C.1 C.2.1 dX10_stepLength_46 ?_
    refine lv_goto (tgt := 51) C.1 C.2.1 dX10_stepLength_47 (by decide) ?_
    exact hB51 ls _ _ (lv_sub hl [2, 0] rfl) hf
def fm_outer (F : Nat) (σ : MS) (x1 : Int32) (x2 : Int32) : Option (Int32) :=
  bd (fm_portOf F σ x1 x2 (1 : Int32) (1 : Int32)) (fun r8 => bd (fm_indexX F σ r8) (fun r11 => bd (fm_portOf F σ x1 x2 (0 : Int32) (1 : Int32)) (fun r21 => bd (fm_indexY F σ r21) (fun r24 => some (((20 : Int32) * r11) + r24)))))
set_option maxHeartbeats 4000000 in
set_option maxRecDepth 100000 in
theorem km_outer (l : Launch) (D : va_G) (cA : Nat → ClassId) (ad : Nat → Nat) (σ : MS) (F : Nat) (a1 : Int32) (a2 : Int32) (r : Int32) (hf : fm_outer F σ a1 a2 = some r) : KR l D (tyG cA) yX10_outer cX10_outer 3 (some .int) (rmk 2 49) (wM cA ad σ) [.ref (ad 0), .int a1, .int a2] r := by
  refine KR.of (by decide) (Nat.le_of_ble_eq_true rfl) ?_
  intro p e s m below meth c C hr hlk hK hP ls hl
  have hl : lv_has ls 3 [(0, .ref (ad 0)), (1, .int a1), (2, .int a2)] := hl
  unfold fm_outer at hf
  refine lv_bipush (v := (20 : Int32)) C.1 C.2.1 dX10_outer_0 (by decide) ?_
  refine lv_aload_n C.1 C.2.1 dX10_outer_2 rfl (lv_at hl 0 rfl) ?_
  refine lv_aload_n C.1 C.2.1 dX10_outer_3 rfl (lv_at hl 0 rfl) ?_
  refine lv_iload_n C.1 C.2.1 dX10_outer_4 rfl (lv_at hl 1 rfl) ?_
  refine lv_iload_n C.1 C.2.1 dX10_outer_5 rfl (lv_at hl 2 rfl) ?_
  refine lv_iconst (v := (1 : Int32)) C.1 C.2.1 dX10_outer_6 (by decide) ?_
  refine lv_iconst (v := (1 : Int32)) C.1 C.2.1 dX10_outer_7 (by decide) ?_
  obtain ⟨r8, hc8, hf⟩ := bd_some hf
  refine callRV (As := [_, _, _, _]) C hK hP wv_X10_120 hl (km_portOf l D cA ad _ F _ _ _ _ r8 hc8) (rcM hK hP) rfl rfl rfl (Nat.le_of_ble_eq_true rfl) ⟨Nat.le_refl _, Nat.le_refl _⟩ dX10_outer_8 ?_
  obtain ⟨r11, hc11, hf⟩ := bd_some hf
  refine callRV (As := [_]) C hK hP wv_X10_147 hl (km_indexX l D cA ad _ F _ r11 hc11) (rcM hK hP) rfl rfl rfl (Nat.le_of_ble_eq_true rfl) ⟨Nat.le_refl _, Nat.le_refl _⟩ dX10_outer_11 ?_
  refine lv_imul C.1 C.2.1 dX10_outer_14 ?_
  refine lv_aload_n C.1 C.2.1 dX10_outer_15 rfl (lv_at hl 0 rfl) ?_
  refine lv_aload_n C.1 C.2.1 dX10_outer_16 rfl (lv_at hl 0 rfl) ?_
  refine lv_iload_n C.1 C.2.1 dX10_outer_17 rfl (lv_at hl 1 rfl) ?_
  refine lv_iload_n C.1 C.2.1 dX10_outer_18 rfl (lv_at hl 2 rfl) ?_
  refine lv_iconst (v := (0 : Int32)) C.1 C.2.1 dX10_outer_19 (by decide) ?_
  refine lv_iconst (v := (1 : Int32)) C.1 C.2.1 dX10_outer_20 (by decide) ?_
  obtain ⟨r21, hc21, hf⟩ := bd_some hf
  refine callRV (As := [_, _, _, _]) C hK hP wv_X10_120 hl (km_portOf l D cA ad _ F _ _ _ _ r21 hc21) (rcM hK hP) rfl rfl rfl (Nat.le_of_ble_eq_true rfl) ⟨Nat.le_refl _, Nat.le_refl _⟩ dX10_outer_21 ?_
  obtain ⟨r24, hc24, hf⟩ := bd_some hf
  refine callRV (As := [_]) C hK hP wv_X10_150 hl (km_indexY l D cA ad _ F _ r24 hc24) (rcM hK hP) rfl rfl rfl (Nat.le_of_ble_eq_true rfl) ⟨Nat.le_refl _, Nat.le_refl _⟩ dX10_outer_24 ?_
  refine lv_iadd C.1 C.2.1 dX10_outer_27 ?_
  exact KR.iret C hr hlk (Option.some.inj hf) dX10_outer_28
def fm_ending_L36 (F : Nat) (σ : MS) (s0 : Int32) : Option (Int32) :=
  some s0
def fm_ending (F : Nat) (σ : MS) (x1 : Int32) (x2 : Int32) : Option (Int32) :=
  bd (fm_of F σ x1 (4 : Int32)) (fun r3 => if x2 = r3 then (fm_ending_L36 F σ (100000000 : Int32)) else (if x2 = ((r3 + (2 : Int32)) - (r3 + (2 : Int32)) / (4 : Int32) * (4 : Int32)) then (fm_ending_L36 F σ (0 : Int32)) else (gd (ix (2 : Int32) 8625 = true) (fm_ending_L36 F σ (ms_row σ (2 : Int32).toNatClampNeg)))))
set_option maxHeartbeats 4000000 in
set_option maxRecDepth 100000 in
theorem km_ending (l : Launch) (D : va_G) (cA : Nat → ClassId) (ad : Nat → Nat) (σ : MS) (F : Nat) (a1 : Int32) (a2 : Int32) (r : Int32) (hf : fm_ending F σ a1 a2 = some r) : KR l D (tyG cA) yX10_ending cX10_ending 4 (some .int) (rmk 1 22) (wM cA ad σ) [.ref (ad 0), .int a1, .int a2] r := by
  refine KR.of (by decide) (Nat.le_of_ble_eq_true rfl) ?_
  intro p e s m below meth c C hr hlk hK hP ls hl
  have hl : lv_has ls 4 [(0, .ref (ad 0)), (1, .int a1), (2, .int a2)] := hl
  have hB36 : ∀ (ls : Array Slot) (s0 : Int32), lv_has ls 4 [(0, .ref (ad 0))] → fm_ending_L36 F σ s0 = some r → WR p l e 1 22 s m [.ref (ad 0), .int a1, .int a2] below meth c r (F0 m 36 ls [.int s0]) := by
    intro ls s0 hl hf
    unfold fm_ending_L36 at hf
    exact KR.iret C hr hlk (Option.some.inj hf) dX10_ending_36
  unfold fm_ending at hf
  refine lv_aload_n C.1 C.2.1 dX10_ending_0 rfl (lv_at hl 0 rfl) ?_
  refine lv_iload_n C.1 C.2.1 dX10_ending_1 rfl (lv_at hl 1 rfl) ?_
  refine lv_iconst (v := (4 : Int32)) C.1 C.2.1 dX10_ending_2 (by decide) ?_
  obtain ⟨r3, hc3, hf⟩ := bd_some hf
  refine callRV (As := [_, _]) C hK hP wv_X10_95 hl (km_of l D cA ad _ F _ _ r3 hc3) (rcM hK hP) rfl rfl rfl (Nat.le_of_ble_eq_true rfl) ⟨Nat.le_refl _, Nat.le_refl _⟩ dX10_ending_3 ?_
  refine lv_istore_n (lv' := [(3, .int r3), (0, .ref (ad 0)), (1, .int a1), (2, .int a2)]) C.1 C.2.1 dX10_ending_6 rfl hl (by decide) rfl (fun ls hl => ?_)
  refine lv_iload_n C.1 C.2.1 dX10_ending_7 rfl (lv_at hl 3 rfl) ?_
  refine lv_iload_n C.1 C.2.1 dX10_ending_8 rfl (lv_at hl 0 rfl) ?_
  refine lv_icmp_ne (tgt := 17) C.1 C.2.1 dX10_ending_9 (by decide) (fun c9 => ?_) (fun c9 => ?_)
  · have hf := br_n c9 hf
    refine lv_iload_n C.1 C.2.1 dX10_ending_17 rfl (lv_at hl 3 rfl) ?_
    refine lv_iload_n C.1 C.2.1 dX10_ending_18 rfl (lv_at hl 0 rfl) ?_
    refine lv_iconst (v := (2 : Int32)) C.1 C.2.1 dX10_ending_19 (by decide) ?_
    refine lv_iadd C.1 C.2.1 dX10_ending_20 ?_
    refine lv_iconst (v := (4 : Int32)) C.1 C.2.1 dX10_ending_21 (by decide) ?_
    refine lv_irem C.1 C.2.1 dX10_ending_22 (by decide) ?_
    refine lv_icmp_ne (tgt := 30) C.1 C.2.1 dX10_ending_23 (by decide) (fun c23 => ?_) (fun c23 => ?_)
    · have hf := br_n c23 hf
      refine lv_aload_n C.1 C.2.1 dX10_ending_30 rfl (lv_at hl 1 rfl) ?_
      refine gm_row C hK hP dX10_ending_31 ?_
      refine lv_iconst (v := (2 : Int32)) C.1 C.2.1 dX10_ending_34 (by decide) ?_
      obtain ⟨hi35, hf⟩ := gd_some hf
      refine lm_row C hK hP hi35 dX10_ending_35 ?_
      exact hB36 ls _ (lv_sub hl [1] rfl) hf
    · have hf := br_p c23 hf
      refine lv_iconst (v := (0 : Int32)) C.1 C.2.1 dX10_ending_26 (by decide) ?_
      refine lv_goto (tgt := 36) C.1 C.2.1 dX10_ending_27 (by decide) ?_
      exact hB36 ls _ (lv_sub hl [1] rfl) hf
  · have hf := br_p c9 hf
    refine lv_ldc (v := (100000000 : Int32)) C.1 C.2.1 C.2.2.2.1 (C.2.2.2.2 _ wc_X10_153) dX10_ending_12 ?_
    refine lv_goto (tgt := 36) C.1 C.2.1 dX10_ending_14 (by decide) ?_
    exact hB36 ls _ (lv_sub hl [1] rfl) hf
def fm_goingOn_L72 (F : Nat) (σ : MS) (x3 : Int32) (x4 : Int32) (s0 : Int32) (s1 : Int32) : Option (Int32) :=
  gd (ix (((4 : Int32) * x4) + x3) 1600 = true) (some ((s1 + s0) + (ms_toEnd σ (((4 : Int32) * x4) + x3).toNatClampNeg)))
def fm_goingOn_L47 (F : Nat) (σ : MS) : Option (Int32) :=
  some (100000000 : Int32)
def fm_goingOn_L21 (F : Nat) (σ : MS) (x1 : Int32) (x2 : Int32) (x3 : Int32) (s0 : Int32) : Option (Int32) :=
  if s0 = (-1000 : Int32) then (fm_goingOn_L47 F σ) else (gd (ix (((4 : Int32) * s0) + x3) 1600 = true) (if (ms_toEnd σ (((4 : Int32) * s0) + x3).toNatClampNeg) < (100000000 : Int32) then (bd (fm_stepLength F σ x1 s0) (fun r54 => if x3 = x2 then (fm_goingOn_L72 F σ x3 s0 (0 : Int32) r54) else (gd (ix (2 : Int32) 8625 = true) (fm_goingOn_L72 F σ x3 s0 (ms_row σ (2 : Int32).toNatClampNeg) r54)))) else (fm_goingOn_L47 F σ)))
def fm_goingOn (F : Nat) (σ : MS) (x1 : Int32) (x2 : Int32) (x3 : Int32) : Option (Int32) :=
  if x3 = ((x2 + (2 : Int32)) - (x2 + (2 : Int32)) / (4 : Int32) * (4 : Int32)) then (fm_goingOn_L21 F σ x1 x2 x3 (-1000 : Int32)) else (bd (fm_next F σ x1 x3) (fun r18 => fm_goingOn_L21 F σ x1 x2 x3 r18))
set_option maxHeartbeats 4000000 in
set_option maxRecDepth 100000 in
theorem km_goingOn (l : Launch) (D : va_G) (cA : Nat → ClassId) (ad : Nat → Nat) (σ : MS) (F : Nat) (a1 : Int32) (a2 : Int32) (a3 : Int32) (r : Int32) (hf : fm_goingOn F σ a1 a2 a3 = some r) : KR l D (tyG cA) yX10_goingOn cX10_goingOn 5 (some .int) (rmk 1 24) (wM cA ad σ) [.ref (ad 0), .int a1, .int a2, .int a3] r := by
  refine KR.of (by decide) (Nat.le_of_ble_eq_true rfl) ?_
  intro p e s m below meth c C hr hlk hK hP ls hl
  have hl : lv_has ls 5 [(0, .ref (ad 0)), (1, .int a1), (2, .int a2), (3, .int a3)] := hl
  have hB72 : ∀ (ls : Array Slot) (x3 : Int32) (x4 : Int32) (s0 : Int32) (s1 : Int32), lv_has ls 5 [(0, .ref (ad 0)), (3, .int x3), (4, .int x4)] → fm_goingOn_L72 F σ x3 x4 s0 s1 = some r → WR p l e 1 24 s m [.ref (ad 0), .int a1, .int a2, .int a3] below meth c r (F0 m 72 ls [.int s0, .int s1]) := by
    intro ls x3 x4 s0 s1 hl hf
    unfold fm_goingOn_L72 at hf
    refine lv_iadd C.1 C.2.1 dX10_goingOn_72 ?_
    refine lv_aload_n C.1 C.2.1 dX10_goingOn_73 rfl (lv_at hl 0 rfl) ?_
    refine gm_toEnd C hK hP dX10_goingOn_74 ?_
    refine lv_iconst (v := (4 : Int32)) C.1 C.2.1 dX10_goingOn_77 (by decide) ?_
    refine lv_iload C.1 C.2.1 dX10_goingOn_78 (lv_at hl 2 rfl) ?_
    refine lv_imul C.1 C.2.1 dX10_goingOn_80 ?_
    refine lv_iload_n C.1 C.2.1 dX10_goingOn_81 rfl (lv_at hl 1 rfl) ?_
    refine lv_iadd C.1 C.2.1 dX10_goingOn_82 ?_
    obtain ⟨hi83, hf⟩ := gd_some hf
    refine lm_toEnd C hK hP hi83 dX10_goingOn_83 ?_
    refine lv_iadd C.1 C.2.1 dX10_goingOn_84 ?_
    exact KR.iret C hr hlk (Option.some.inj hf) dX10_goingOn_85
  have hB47 : ∀ (ls : Array Slot), lv_has ls 5 [(0, .ref (ad 0))] → fm_goingOn_L47 F σ = some r → WR p l e 1 24 s m [.ref (ad 0), .int a1, .int a2, .int a3] below meth c r (F0 m 47 ls []) := by
    intro ls hl hf
    unfold fm_goingOn_L47 at hf
    refine lv_ldc (v := (100000000 : Int32)) C.1 C.2.1 C.2.2.2.1 (C.2.2.2.2 _ wc_X10_153) dX10_goingOn_47 ?_
    exact KR.iret C hr hlk (Option.some.inj hf) dX10_goingOn_49
  have hB21 : ∀ (ls : Array Slot) (x1 : Int32) (x2 : Int32) (x3 : Int32) (s0 : Int32), lv_has ls 5 [(0, .ref (ad 0)), (1, .int x1), (2, .int x2), (3, .int x3)] → fm_goingOn_L21 F σ x1 x2 x3 s0 = some r → WR p l e 1 24 s m [.ref (ad 0), .int a1, .int a2, .int a3] below meth c r (F0 m 21 ls [.int s0]) := by
    intro ls x1 x2 x3 s0 hl hf
    unfold fm_goingOn_L21 at hf
    refine lv_istore (lv' := [(4, .int s0), (0, .ref (ad 0)), (1, .int x1), (2, .int x2), (3, .int x3)]) C.1 C.2.1 dX10_goingOn_21 hl (by decide) rfl (fun ls hl => ?_)
    refine lv_iload C.1 C.2.1 dX10_goingOn_23 (lv_at hl 0 rfl) ?_
    refine lv_sipush (v := (-1000 : Int32)) C.1 C.2.1 dX10_goingOn_25 (by decide) ?_
    refine lv_icmp_eq (tgt := 47) C.1 C.2.1 dX10_goingOn_28 (by decide) (fun c28 => ?_) (fun c28 => ?_)
    · have hf := br_p c28 hf
      exact hB47 ls (lv_sub hl [1] rfl) hf
    · have hf := br_n c28 hf
      refine lv_aload_n C.1 C.2.1 dX10_goingOn_31 rfl (lv_at hl 1 rfl) ?_
      refine gm_toEnd C hK hP dX10_goingOn_32 ?_
      refine lv_iconst (v := (4 : Int32)) C.1 C.2.1 dX10_goingOn_35 (by decide) ?_
      refine lv_iload C.1 C.2.1 dX10_goingOn_36 (lv_at hl 0 rfl) ?_
      refine lv_imul C.1 C.2.1 dX10_goingOn_38 ?_
      refine lv_iload_n C.1 C.2.1 dX10_goingOn_39 rfl (lv_at hl 4 rfl) ?_
      refine lv_iadd C.1 C.2.1 dX10_goingOn_40 ?_
      obtain ⟨hi41, hf⟩ := gd_some hf
      refine lm_toEnd C hK hP hi41 dX10_goingOn_41 ?_
      refine lv_ldc (v := (100000000 : Int32)) C.1 C.2.1 C.2.2.2.1 (C.2.2.2.2 _ wc_X10_153) dX10_goingOn_42 ?_
      refine lv_icmp_lt (tgt := 50) C.1 C.2.1 dX10_goingOn_44 (by decide) (fun c44 => ?_) (fun c44 => ?_)
      · have hf := br_p c44 hf
        refine lv_aload_n C.1 C.2.1 dX10_goingOn_50 rfl (lv_at hl 1 rfl) ?_
        refine lv_iload_n C.1 C.2.1 dX10_goingOn_51 rfl (lv_at hl 2 rfl) ?_
        refine lv_iload C.1 C.2.1 dX10_goingOn_52 (lv_at hl 0 rfl) ?_
        obtain ⟨r54, hc54, hf⟩ := bd_some hf
        refine callRV (As := [_, _]) C hK hP wv_X10_157 hl (km_stepLength l D cA ad _ F _ _ r54 hc54) (rcM hK hP) rfl rfl rfl (Nat.le_of_ble_eq_true rfl) ⟨Nat.le_refl _, Nat.le_refl _⟩ dX10_goingOn_54 ?_
        refine lv_iload_n C.1 C.2.1 dX10_goingOn_57 rfl (lv_at hl 4 rfl) ?_
        refine lv_iload_n C.1 C.2.1 dX10_goingOn_58 rfl (lv_at hl 3 rfl) ?_
        refine lv_icmp_ne (tgt := 66) C.1 C.2.1 dX10_goingOn_59 (by decide) (fun c59 => ?_) (fun c59 => ?_)
        · have hf := br_n c59 hf
          refine lv_aload_n C.1 C.2.1 dX10_goingOn_66 rfl (lv_at hl 1 rfl) ?_
          refine gm_row C hK hP dX10_goingOn_67 ?_
          refine lv_iconst (v := (2 : Int32)) C.1 C.2.1 dX10_goingOn_70 (by decide) ?_
          obtain ⟨hi71, hf⟩ := gd_some hf
          refine lm_row C hK hP hi71 dX10_goingOn_71 ?_
          exact hB72 ls _ _ _ _ (lv_sub hl [1, 4, 0] rfl) hf
        · have hf := br_p c59 hf
          refine lv_iconst (v := (0 : Int32)) C.1 C.2.1 dX10_goingOn_62 (by decide) ?_
          refine lv_goto (tgt := 72) C.1 C.2.1 dX10_goingOn_63 (by decide) ?_
          exact hB72 ls _ _ _ _ (lv_sub hl [1, 4, 0] rfl) hf
      · have hf := br_n c44 hf
        exact hB47 ls (lv_sub hl [1] rfl) hf
  unfold fm_goingOn at hf
  refine lv_iload_n C.1 C.2.1 dX10_goingOn_0 rfl (lv_at hl 3 rfl) ?_
  refine lv_iload_n C.1 C.2.1 dX10_goingOn_1 rfl (lv_at hl 2 rfl) ?_
  refine lv_iconst (v := (2 : Int32)) C.1 C.2.1 dX10_goingOn_2 (by decide) ?_
  refine lv_iadd C.1 C.2.1 dX10_goingOn_3 ?_
  refine lv_iconst (v := (4 : Int32)) C.1 C.2.1 dX10_goingOn_4 (by decide) ?_
  refine lv_irem C.1 C.2.1 dX10_goingOn_5 (by decide) ?_
  refine lv_icmp_ne (tgt := 15) C.1 C.2.1 dX10_goingOn_6 (by decide) (fun c6 => ?_) (fun c6 => ?_)
  · have hf := br_n c6 hf
    refine lv_aload_n C.1 C.2.1 dX10_goingOn_15 rfl (lv_at hl 0 rfl) ?_
    refine lv_iload_n C.1 C.2.1 dX10_goingOn_16 rfl (lv_at hl 1 rfl) ?_
    refine lv_iload_n C.1 C.2.1 dX10_goingOn_17 rfl (lv_at hl 3 rfl) ?_
    obtain ⟨r18, hc18, hf⟩ := bd_some hf
    refine callRV (As := [_, _]) C hK hP wv_X10_154 hl (km_next l D cA ad _ F _ _ r18 hc18) (rcM hK hP) rfl rfl rfl (Nat.le_of_ble_eq_true rfl) ⟨Nat.le_refl _, Nat.le_refl _⟩ dX10_goingOn_18 ?_
    exact hB21 ls _ _ _ _ (lv_sub hl [0, 1, 2, 3] rfl) hf
  · have hf := br_p c6 hf
    refine lv_sipush (v := (-1000 : Int32)) C.1 C.2.1 dX10_goingOn_9 (by decide) ?_
    refine lv_goto (tgt := 21) C.1 C.2.1 dX10_goingOn_12 (by decide) ?_
    exact hB21 ls _ _ _ _ (lv_sub hl [0, 1, 2, 3] rfl) hf
def fm_findsCosts_L169 (F : Nat) (k50 : MS → Int32 → Option (MS)) (k59 : MS → Int32 → Int32 → Option (MS)) (k71 : MS → Int32 → Int32 → Int32 → Option (MS)) (σ : MS) (x3 : Int32) (x4 : Int32) (x5 : Int32) : Option (MS) :=
  lt (x5 + (1 : Int32)) (fun x5_169 => k71 σ x3 x4 x5_169)
def fm_findsCosts_L163 (F : Nat) (k50 : MS → Int32 → Option (MS)) (k59 : MS → Int32 → Int32 → Option (MS)) (k71 : MS → Int32 → Int32 → Int32 → Option (MS)) (k93 : MS → Int32 → Int32 → Int32 → Int32 → Int32 → Option (MS)) (σ : MS) (x3 : Int32) (x4 : Int32) (x5 : Int32) (x6 : Int32) (x7 : Int32) : Option (MS) :=
  lt (x7 + (1 : Int32)) (fun x7_163 => k93 σ x3 x4 x5 x6 x7_163)
def fm_findsCosts_L93_c (F : Nat) (k50 : MS → Int32 → Option (MS)) (k59 : MS → Int32 → Int32 → Option (MS)) (k71 : MS → Int32 → Int32 → Int32 → Option (MS)) (k93 : MS → Int32 → Int32 → Int32 → Int32 → Int32 → Option (MS)) (σ : MS) (x3 : Int32) (x4 : Int32) (x5 : Int32) (x6 : Int32) (x7 : Int32) : Option (MS) :=
  if (16 : Int32) ≤ x7 then (fm_findsCosts_L169 F k50 k59 k71 σ x3 x4 x5) else (gd (ix x6 400 = true) (if (ms_isNode σ x6.toNatClampNeg) = 0 then (fm_findsCosts_L169 F k50 k59 k71 σ x3 x4 x5) else (bd (fm_goingOn F σ x6 (x7 / (4 : Int32)) (x7 - x7 / (4 : Int32) * (4 : Int32))) (fun r121 => gd (ix (((4 : Int32) * x6) + (x7 / (4 : Int32))) 1600 = true) (if (ms_toEnd σ (((4 : Int32) * x6) + (x7 / (4 : Int32))).toNatClampNeg) ≤ r121 then (fm_findsCosts_L163 F k50 k59 k71 k93 σ x3 x4 x5 x6 x7) else (gd (ix (((4 : Int32) * x6) + (x7 / (4 : Int32))) 1600 = true) (lt (st_toEnd σ (((4 : Int32) * x6) + (x7 / (4 : Int32))) r121) (fun σ160 => fm_findsCosts_L163 F k50 k59 k71 k93 σ160 (1 : Int32) x4 x5 x6 x7))))))))
def fm_findsCosts_L93 (F : Nat) (k50 : MS → Int32 → Option (MS)) (k59 : MS → Int32 → Int32 → Option (MS)) (k71 : MS → Int32 → Int32 → Int32 → Option (MS)) (n : Nat) (σ : MS) (x3 : Int32) (x4 : Int32) (x5 : Int32) (x6 : Int32) (x7 : Int32) : Option (MS) := lpN (fun (k : MS × Int32 × Int32 × Int32 × Int32 × Int32 → Option (MS)) a => fm_findsCosts_L93_c F k50 k59 k71 (fun σ x3 x4 x5 x6 x7 => k (σ, x3, x4, x5, x6, x7)) a.1 a.2.1 a.2.2.1 a.2.2.2.1 a.2.2.2.2.1 a.2.2.2.2.2) n (σ, x3, x4, x5, x6, x7)
def fm_findsCosts_L71_c (F : Nat) (k50 : MS → Int32 → Option (MS)) (k59 : MS → Int32 → Int32 → Option (MS)) (k71 : MS → Int32 → Int32 → Int32 → Option (MS)) (σ : MS) (x3 : Int32) (x4 : Int32) (x5 : Int32) : Option (MS) :=
  if (ms_yMany σ) ≤ x5 then (lt (x4 + (1 : Int32)) (fun x4_175 => k59 σ x3 x4_175)) else (lt (((20 : Int32) * x4) + x5) (fun x6_88 => fm_findsCosts_L93 F k50 k59 k71 F σ x3 x4 x5 x6_88 (0 : Int32)))
def fm_findsCosts_L71 (F : Nat) (k50 : MS → Int32 → Option (MS)) (k59 : MS → Int32 → Int32 → Option (MS)) (n : Nat) (σ : MS) (x3 : Int32) (x4 : Int32) (x5 : Int32) : Option (MS) := lpN (fun (k : MS × Int32 × Int32 × Int32 → Option (MS)) a => fm_findsCosts_L71_c F k50 k59 (fun σ x3 x4 x5 => k (σ, x3, x4, x5)) a.1 a.2.1 a.2.2.1 a.2.2.2) n (σ, x3, x4, x5)
def fm_findsCosts_L59_c (F : Nat) (k50 : MS → Int32 → Option (MS)) (k59 : MS → Int32 → Int32 → Option (MS)) (σ : MS) (x3 : Int32) (x4 : Int32) : Option (MS) :=
  if (ms_xMany σ) ≤ x4 then (k50 σ x3) else (fm_findsCosts_L71 F k50 k59 F σ x3 x4 (0 : Int32))
def fm_findsCosts_L59 (F : Nat) (k50 : MS → Int32 → Option (MS)) (n : Nat) (σ : MS) (x3 : Int32) (x4 : Int32) : Option (MS) := lpN (fun (k : MS × Int32 × Int32 → Option (MS)) a => fm_findsCosts_L59_c F k50 (fun σ x3 x4 => k (σ, x3, x4)) a.1 a.2.1 a.2.2) n (σ, x3, x4)
def fm_findsCosts_L50_c (F : Nat) (k50 : MS → Int32 → Option (MS)) (σ : MS) (x3 : Int32) : Option (MS) :=
  if x3 = 0 then (some σ) else (fm_findsCosts_L59 F k50 F σ (0 : Int32) (0 : Int32))
def fm_findsCosts_L50 (F : Nat) (n : Nat) (σ : MS) (x3 : Int32) : Option (MS) := lpN (fun (k : MS × Int32 → Option (MS)) a => fm_findsCosts_L50_c F (fun σ x3 => k (σ, x3)) a.1 a.2) n (σ, x3)
def fm_findsCosts_L41 (F : Nat) (k9 : MS → Int32 → Int32 → Int32 → Option (MS)) (σ : MS) (x1 : Int32) (x2 : Int32) (x3 : Int32) (s0 : Int32) (s1 : Int32) : Option (MS) :=
  gd (ix s1 1600 = true) (lt (st_toEnd σ s1 s0) (fun σ41 => lt (x3 + (1 : Int32)) (fun x3_42 => k9 σ41 x1 x2 x3_42)))
def fm_findsCosts_L9_c (F : Nat) (k9 : MS → Int32 → Int32 → Int32 → Option (MS)) (σ : MS) (x1 : Int32) (x2 : Int32) (x3 : Int32) : Option (MS) :=
  if (1600 : Int32) ≤ x3 then (fm_findsCosts_L50 F F σ (1 : Int32)) else (if (x3 / (4 : Int32)) = x2 then (bd (fm_ending F σ x1 (x3 - x3 / (4 : Int32) * (4 : Int32))) (fun r33 => fm_findsCosts_L41 F k9 σ x1 x2 x3 r33 x3)) else (fm_findsCosts_L41 F k9 σ x1 x2 x3 (100000000 : Int32) x3))
def fm_findsCosts_L9 (F : Nat) (n : Nat) (σ : MS) (x1 : Int32) (x2 : Int32) (x3 : Int32) : Option (MS) := lpN (fun (k : MS × Int32 × Int32 × Int32 → Option (MS)) a => fm_findsCosts_L9_c F (fun σ x1 x2 x3 => k (σ, x1, x2, x3)) a.1 a.2.1 a.2.2.1 a.2.2.2) n (σ, x1, x2, x3)
def fm_findsCosts (F : Nat) (σ : MS) (x1 : Int32) : Option (MS) :=
  bd (fm_outer F σ x1 (1 : Int32)) (fun r3 => fm_findsCosts_L9 F F σ x1 r3 (0 : Int32))
set_option maxHeartbeats 4000000 in
set_option maxRecDepth 100000 in
theorem km_findsCosts (l : Launch) (D : va_G) (cA : Nat → ClassId) (ad : Nat → Nat) (σ0 : MS) (F : Nat) (a1 : Int32) (σr : MS) (hf : fm_findsCosts F σ0 a1 = some σr) : KW l D (tyG cA) yX10_findsCosts cX10_findsCosts 9 none (rmk 3 71) (wM cA ad σ0) [.ref (ad 0), .int a1] none (wM cA ad σr) := by
  refine KW.of (by decide) (Nat.le_of_ble_eq_true rfl) ?_
  intro p e s m below meth c A hAe hA C hr hlk hK hP hD hS ls hl
  have hl : lv_has ls 9 [(0, .ref (ad 0)), (1, .int a1)] := hl
  have hB50 : ∀ (n50 : Nat) (H : Heap) (locs : List Loc) (σ : MS) (ls : Array Slot) (x3 : Int32), va_P D vwCl (wM cA ad σ) H → va_D A (wM cA ad σ) → va_S A s.heap H locs → lv_has ls 9 [(0, .ref (ad 0)), (3, .int x3)] → fm_findsCosts_L50 F n50 σ x3 = some σr → WQ p l e 3 71 s m [.ref (ad 0), .int a1] below meth c none D (tyG cA) (wM cA ad σ0) (wM cA ad σr) A H locs (F0 m 50 ls []) := by
    intro n50
    induction n50 with
    | zero =>
      intro H locs σ ls x3 hP hD hS hl hf
      cases (show (none : Option _) = _ from hf)
    | succ n50 ih50 =>
      have hB59 : ∀ (n59 : Nat) (H : Heap) (locs : List Loc) (σ : MS) (ls : Array Slot) (x3 : Int32) (x4 : Int32), va_P D vwCl (wM cA ad σ) H → va_D A (wM cA ad σ) → va_S A s.heap H locs → lv_has ls 9 [(0, .ref (ad 0)), (3, .int x3), (4, .int x4)] → fm_findsCosts_L59 F (fm_findsCosts_L50 F n50) n59 σ x3 x4 = some σr → WQ p l e 3 71 s m [.ref (ad 0), .int a1] below meth c none D (tyG cA) (wM cA ad σ0) (wM cA ad σr) A H locs (F0 m 59 ls []) := by
        intro n59
        induction n59 with
        | zero =>
          intro H locs σ ls x3 x4 hP hD hS hl hf
          cases (show (none : Option _) = _ from hf)
        | succ n59 ih59 =>
          have hB71 : ∀ (n71 : Nat) (H : Heap) (locs : List Loc) (σ : MS) (ls : Array Slot) (x3 : Int32) (x4 : Int32) (x5 : Int32), va_P D vwCl (wM cA ad σ) H → va_D A (wM cA ad σ) → va_S A s.heap H locs → lv_has ls 9 [(0, .ref (ad 0)), (3, .int x3), (4, .int x4), (5, .int x5)] → fm_findsCosts_L71 F (fm_findsCosts_L50 F n50) (fm_findsCosts_L59 F (fm_findsCosts_L50 F n50) n59) n71 σ x3 x4 x5 = some σr → WQ p l e 3 71 s m [.ref (ad 0), .int a1] below meth c none D (tyG cA) (wM cA ad σ0) (wM cA ad σr) A H locs (F0 m 71 ls []) := by
            intro n71
            induction n71 with
            | zero =>
              intro H locs σ ls x3 x4 x5 hP hD hS hl hf
              cases (show (none : Option _) = _ from hf)
            | succ n71 ih71 =>
              have hB169 : ∀ (H : Heap) (locs : List Loc) (σ : MS) (ls : Array Slot) (x3 : Int32) (x4 : Int32) (x5 : Int32), va_P D vwCl (wM cA ad σ) H → va_D A (wM cA ad σ) → va_S A s.heap H locs → lv_has ls 9 [(0, .ref (ad 0)), (3, .int x3), (4, .int x4), (5, .int x5)] → fm_findsCosts_L169 F (fm_findsCosts_L50 F n50) (fm_findsCosts_L59 F (fm_findsCosts_L50 F n50) n59) (fm_findsCosts_L71 F (fm_findsCosts_L50 F n50) (fm_findsCosts_L59 F (fm_findsCosts_L50 F n50) n59) n71) σ x3 x4 x5 = some σr → WQ p l e 3 71 s m [.ref (ad 0), .int a1] below meth c none D (tyG cA) (wM cA ad σ0) (wM cA ad σr) A H locs (F0 m 169 ls []) := by
                intro H locs σ ls x3 x4 x5 hP hD hS hl hf
                unfold fm_findsCosts_L169 at hf
                obtain ⟨x5_169, ex5_169, hf⟩ := lt_some hf
                refine lv_iinc (v := x5_169) (lv' := [(5, .int x5_169), (0, .ref (ad 0)), (3, .int x3), (4, .int x4)]) C.1 C.2.1 dX10_findsCosts_169 hl (k := 3) rfl (by rw [ex5_169]; rfl) (by decide) rfl (fun ls hl => ?_)
                refine lv_goto (tgt := 71) C.1 C.2.1 dX10_findsCosts_172 (by decide) ?_
                exact ih71 _ _ _ ls _ _ _ hP hD hS (lv_sub hl [1, 2, 3, 0] rfl) hf
              have hB93 : ∀ (n93 : Nat) (H : Heap) (locs : List Loc) (σ : MS) (ls : Array Slot) (x3 : Int32) (x4 : Int32) (x5 : Int32) (x6 : Int32) (x7 : Int32), va_P D vwCl (wM cA ad σ) H → va_D A (wM cA ad σ) → va_S A s.heap H locs → lv_has ls 9 [(0, .ref (ad 0)), (3, .int x3), (4, .int x4), (5, .int x5), (6, .int x6), (7, .int x7)] → fm_findsCosts_L93 F (fm_findsCosts_L50 F n50) (fm_findsCosts_L59 F (fm_findsCosts_L50 F n50) n59) (fm_findsCosts_L71 F (fm_findsCosts_L50 F n50) (fm_findsCosts_L59 F (fm_findsCosts_L50 F n50) n59) n71) n93 σ x3 x4 x5 x6 x7 = some σr → WQ p l e 3 71 s m [.ref (ad 0), .int a1] below meth c none D (tyG cA) (wM cA ad σ0) (wM cA ad σr) A H locs (F0 m 93 ls []) := by
                intro n93
                induction n93 with
                | zero =>
                  intro H locs σ ls x3 x4 x5 x6 x7 hP hD hS hl hf
                  cases (show (none : Option _) = _ from hf)
                | succ n93 ih93 =>
                  have hB163 : ∀ (H : Heap) (locs : List Loc) (σ : MS) (ls : Array Slot) (x3 : Int32) (x4 : Int32) (x5 : Int32) (x6 : Int32) (x7 : Int32), va_P D vwCl (wM cA ad σ) H → va_D A (wM cA ad σ) → va_S A s.heap H locs → lv_has ls 9 [(0, .ref (ad 0)), (3, .int x3), (4, .int x4), (5, .int x5), (6, .int x6), (7, .int x7)] → fm_findsCosts_L163 F (fm_findsCosts_L50 F n50) (fm_findsCosts_L59 F (fm_findsCosts_L50 F n50) n59) (fm_findsCosts_L71 F (fm_findsCosts_L50 F n50) (fm_findsCosts_L59 F (fm_findsCosts_L50 F n50) n59) n71) (fm_findsCosts_L93 F (fm_findsCosts_L50 F n50) (fm_findsCosts_L59 F (fm_findsCosts_L50 F n50) n59) (fm_findsCosts_L71 F (fm_findsCosts_L50 F n50) (fm_findsCosts_L59 F (fm_findsCosts_L50 F n50) n59) n71) n93) σ x3 x4 x5 x6 x7 = some σr → WQ p l e 3 71 s m [.ref (ad 0), .int a1] below meth c none D (tyG cA) (wM cA ad σ0) (wM cA ad σr) A H locs (F0 m 163 ls []) := by
                    intro H locs σ ls x3 x4 x5 x6 x7 hP hD hS hl hf
                    unfold fm_findsCosts_L163 at hf
                    obtain ⟨x7_163, ex7_163, hf⟩ := lt_some hf
                    refine lv_iinc (v := x7_163) (lv' := [(7, .int x7_163), (0, .ref (ad 0)), (3, .int x3), (4, .int x4), (5, .int x5), (6, .int x6)]) C.1 C.2.1 dX10_findsCosts_163 hl (k := 5) rfl (by rw [ex7_163]; rfl) (by decide) rfl (fun ls hl => ?_)
                    refine lv_goto (tgt := 93) C.1 C.2.1 dX10_findsCosts_166 (by decide) ?_
                    exact ih93 _ _ _ ls _ _ _ _ _ hP hD hS (lv_sub hl [1, 2, 3, 4, 5, 0] rfl) hf
                  intro H locs σ ls x3 x4 x5 x6 x7 hP hD hS hl hf
                  have hf : fm_findsCosts_L93_c F (fm_findsCosts_L50 F n50) (fm_findsCosts_L59 F (fm_findsCosts_L50 F n50) n59) (fm_findsCosts_L71 F (fm_findsCosts_L50 F n50) (fm_findsCosts_L59 F (fm_findsCosts_L50 F n50) n59) n71) (fm_findsCosts_L93 F (fm_findsCosts_L50 F n50) (fm_findsCosts_L59 F (fm_findsCosts_L50 F n50) n59) (fm_findsCosts_L71 F (fm_findsCosts_L50 F n50) (fm_findsCosts_L59 F (fm_findsCosts_L50 F n50) n59) n71) n93) σ x3 x4 x5 x6 x7 = some σr := hf
                  unfold fm_findsCosts_L93_c at hf
                  refine lv_iload C.1 C.2.1 dX10_findsCosts_93 (lv_at hl 5 rfl) ?_
                  refine lv_bipush (v := (16 : Int32)) C.1 C.2.1 dX10_findsCosts_95 (by decide) ?_
                  refine lv_icmp_ge (tgt := 169) C.1 C.2.1 dX10_findsCosts_97 (by decide) (fun c97 => ?_) (fun c97 => ?_)
                  · have hf := br_p c97 hf
                    exact hB169 _ _ _ ls _ _ _ hP hD hS (lv_sub hl [0, 1, 2, 3] rfl) hf
                  · have hf := br_n c97 hf
                    refine lv_aload_n C.1 C.2.1 dX10_findsCosts_100 rfl (lv_at hl 0 rfl) ?_
                    refine gm_isNode C hK hP dX10_findsCosts_101 ?_
                    refine lv_iload C.1 C.2.1 dX10_findsCosts_104 (lv_at hl 4 rfl) ?_
                    obtain ⟨hi106, hf⟩ := gd_some hf
                    refine lm_isNode C hK hP hi106 dX10_findsCosts_106 ?_
                    refine lv_if_eq (tgt := 169) C.1 C.2.1 dX10_findsCosts_107 (by decide) (fun c107 => ?_) (fun c107 => ?_)
                    · have hf := br_p c107 hf
                      exact hB169 _ _ _ ls _ _ _ hP hD hS (lv_sub hl [0, 1, 2, 3] rfl) hf
                    · have hf := br_n c107 hf
                      refine lv_aload_n C.1 C.2.1 dX10_findsCosts_110 rfl (lv_at hl 0 rfl) ?_
                      refine lv_iload C.1 C.2.1 dX10_findsCosts_111 (lv_at hl 4 rfl) ?_
                      refine lv_iload C.1 C.2.1 dX10_findsCosts_113 (lv_at hl 5 rfl) ?_
                      refine lv_iconst (v := (4 : Int32)) C.1 C.2.1 dX10_findsCosts_115 (by decide) ?_
                      refine lv_idiv C.1 C.2.1 dX10_findsCosts_116 (by decide) ?_
                      refine lv_iload C.1 C.2.1 dX10_findsCosts_117 (lv_at hl 5 rfl) ?_
                      refine lv_iconst (v := (4 : Int32)) C.1 C.2.1 dX10_findsCosts_119 (by decide) ?_
                      refine lv_irem C.1 C.2.1 dX10_findsCosts_120 (by decide) ?_
                      obtain ⟨r121, hc121, hf⟩ := bd_some hf
                      refine callRV (As := [_, _, _]) C hK hP wv_X10_166 hl (km_goingOn l D cA ad _ F _ _ _ r121 hc121) (rcM hK hP) rfl rfl rfl (Nat.le_of_ble_eq_true rfl) ⟨Nat.le_refl _, Nat.le_refl _⟩ dX10_findsCosts_121 ?_
                      refine lv_istore (lv' := [(8, .int r121), (0, .ref (ad 0)), (3, .int x3), (4, .int x4), (5, .int x5), (6, .int x6), (7, .int x7)]) C.1 C.2.1 dX10_findsCosts_124 hl (by decide) rfl (fun ls hl => ?_)
                      refine lv_iload C.1 C.2.1 dX10_findsCosts_126 (lv_at hl 0 rfl) ?_
                      refine lv_aload_n C.1 C.2.1 dX10_findsCosts_128 rfl (lv_at hl 1 rfl) ?_
                      refine gm_toEnd C hK hP dX10_findsCosts_129 ?_
                      refine lv_iconst (v := (4 : Int32)) C.1 C.2.1 dX10_findsCosts_132 (by decide) ?_
                      refine lv_iload C.1 C.2.1 dX10_findsCosts_133 (lv_at hl 5 rfl) ?_
                      refine lv_imul C.1 C.2.1 dX10_findsCosts_135 ?_
                      refine lv_iload C.1 C.2.1 dX10_findsCosts_136 (lv_at hl 6 rfl) ?_
                      refine lv_iconst (v := (4 : Int32)) C.1 C.2.1 dX10_findsCosts_138 (by decide) ?_
                      refine lv_idiv C.1 C.2.1 dX10_findsCosts_139 (by decide) ?_
                      refine lv_iadd C.1 C.2.1 dX10_findsCosts_140 ?_
                      obtain ⟨hi141, hf⟩ := gd_some hf
                      refine lm_toEnd C hK hP hi141 dX10_findsCosts_141 ?_
                      refine lv_icmp_ge (tgt := 163) C.1 C.2.1 dX10_findsCosts_142 (by decide) (fun c142 => ?_) (fun c142 => ?_)
                      · have hf := br_p c142 hf
                        exact hB163 _ _ _ ls _ _ _ _ _ hP hD hS (lv_sub hl [1, 2, 3, 4, 5, 6] rfl) hf
                      · have hf := br_n c142 hf
                        refine lv_aload_n C.1 C.2.1 dX10_findsCosts_145 rfl (lv_at hl 1 rfl) ?_
                        refine gm_toEnd C hK hP dX10_findsCosts_146 ?_
                        refine lv_iconst (v := (4 : Int32)) C.1 C.2.1 dX10_findsCosts_149 (by decide) ?_
                        refine lv_iload C.1 C.2.1 dX10_findsCosts_150 (lv_at hl 5 rfl) ?_
                        refine lv_imul C.1 C.2.1 dX10_findsCosts_152 ?_
                        refine lv_iload C.1 C.2.1 dX10_findsCosts_153 (lv_at hl 6 rfl) ?_
                        refine lv_iconst (v := (4 : Int32)) C.1 C.2.1 dX10_findsCosts_155 (by decide) ?_
                        refine lv_idiv C.1 C.2.1 dX10_findsCosts_156 (by decide) ?_
                        refine lv_iadd C.1 C.2.1 dX10_findsCosts_157 ?_
                        refine lv_iload C.1 C.2.1 dX10_findsCosts_158 (lv_at hl 0 rfl) ?_
                        obtain ⟨hi160, hf⟩ := gd_some hf
                        replace hf := lt_e hf
                        refine sm_toEnd C hK hP hD hS hi160 dX10_findsCosts_160 (fun H locs hP hD hS => ?_)
                        refine lv_iconst (v := (1 : Int32)) C.1 C.2.1 dX10_findsCosts_161 (by decide) ?_
                        refine lv_istore_n (lv' := [(3, .int (1 : Int32)), (8, .int r121), (0, .ref (ad 0)), (4, .int x4), (5, .int x5), (6, .int x6), (7, .int x7)]) C.1 C.2.1 dX10_findsCosts_162 rfl hl (by decide) rfl (fun ls hl => ?_)
                        exact hB163 _ _ _ ls _ _ _ _ _ hP hD hS (lv_sub hl [2, 0, 3, 4, 5, 6] rfl) hf
              intro H locs σ ls x3 x4 x5 hP hD hS hl hf
              have hf : fm_findsCosts_L71_c F (fm_findsCosts_L50 F n50) (fm_findsCosts_L59 F (fm_findsCosts_L50 F n50) n59) (fm_findsCosts_L71 F (fm_findsCosts_L50 F n50) (fm_findsCosts_L59 F (fm_findsCosts_L50 F n50) n59) n71) σ x3 x4 x5 = some σr := hf
              unfold fm_findsCosts_L71_c at hf
              refine lv_iload C.1 C.2.1 dX10_findsCosts_71 (lv_at hl 3 rfl) ?_
              refine lv_aload_n C.1 C.2.1 dX10_findsCosts_73 rfl (lv_at hl 0 rfl) ?_
              refine gm_yMany C hK hP dX10_findsCosts_74 ?_
              refine lv_icmp_ge (tgt := 175) C.1 C.2.1 dX10_findsCosts_77 (by decide) (fun c77 => ?_) (fun c77 => ?_)
              · have hf := br_p c77 hf
                obtain ⟨x4_175, ex4_175, hf⟩ := lt_some hf
                refine lv_iinc (v := x4_175) (lv' := [(4, .int x4_175), (0, .ref (ad 0)), (3, .int x3), (5, .int x5)]) C.1 C.2.1 dX10_findsCosts_175 hl (k := 2) rfl (by rw [ex4_175]; rfl) (by decide) rfl (fun ls hl => ?_)
                refine lv_goto (tgt := 59) C.1 C.2.1 dX10_findsCosts_178 (by decide) ?_
                exact ih59 _ _ _ ls _ _ hP hD hS (lv_sub hl [1, 2, 0] rfl) hf
              · have hf := br_n c77 hf
                refine lv_bipush (v := (20 : Int32)) C.1 C.2.1 dX10_findsCosts_80 (by decide) ?_
                refine lv_iload C.1 C.2.1 dX10_findsCosts_82 (lv_at hl 2 rfl) ?_
                refine lv_imul C.1 C.2.1 dX10_findsCosts_84 ?_
                refine lv_iload C.1 C.2.1 dX10_findsCosts_85 (lv_at hl 3 rfl) ?_
                refine lv_iadd C.1 C.2.1 dX10_findsCosts_87 ?_
                obtain ⟨x6_88, ex6_88, hf⟩ := lt_some hf
                refine lv_tope ex6_88 ?_
                refine lv_istore (lv' := [(6, .int x6_88), (0, .ref (ad 0)), (3, .int x3), (4, .int x4), (5, .int x5)]) C.1 C.2.1 dX10_findsCosts_88 hl (by decide) rfl (fun ls hl => ?_)
                refine lv_iconst (v := (0 : Int32)) C.1 C.2.1 dX10_findsCosts_90 (by decide) ?_
                refine lv_istore (lv' := [(7, .int (0 : Int32)), (6, .int x6_88), (0, .ref (ad 0)), (3, .int x3), (4, .int x4), (5, .int x5)]) C.1 C.2.1 dX10_findsCosts_91 hl (by decide) rfl (fun ls hl => ?_)
                exact hB93 F _ _ _ ls _ _ _ _ _ hP hD hS (lv_sub hl [2, 3, 4, 5, 1, 0] rfl) hf
          intro H locs σ ls x3 x4 hP hD hS hl hf
          have hf : fm_findsCosts_L59_c F (fm_findsCosts_L50 F n50) (fm_findsCosts_L59 F (fm_findsCosts_L50 F n50) n59) σ x3 x4 = some σr := hf
          unfold fm_findsCosts_L59_c at hf
          refine lv_iload C.1 C.2.1 dX10_findsCosts_59 (lv_at hl 2 rfl) ?_
          refine lv_aload_n C.1 C.2.1 dX10_findsCosts_61 rfl (lv_at hl 0 rfl) ?_
          refine gm_xMany C hK hP dX10_findsCosts_62 ?_
          refine lv_icmp_ge (tgt := 181) C.1 C.2.1 dX10_findsCosts_65 (by decide) (fun c65 => ?_) (fun c65 => ?_)
          · have hf := br_p c65 hf
            refine lv_goto (tgt := 50) C.1 C.2.1 dX10_findsCosts_181 (by decide) ?_
            exact ih50 _ _ _ ls _ hP hD hS (lv_sub hl [0, 1] rfl) hf
          · have hf := br_n c65 hf
            refine lv_iconst (v := (0 : Int32)) C.1 C.2.1 dX10_findsCosts_68 (by decide) ?_
            refine lv_istore (lv' := [(5, .int (0 : Int32)), (0, .ref (ad 0)), (3, .int x3), (4, .int x4)]) C.1 C.2.1 dX10_findsCosts_69 hl (by decide) rfl (fun ls hl => ?_)
            exact hB71 F _ _ _ ls _ _ _ hP hD hS (lv_sub hl [1, 2, 3, 0] rfl) hf
      intro H locs σ ls x3 hP hD hS hl hf
      have hf : fm_findsCosts_L50_c F (fm_findsCosts_L50 F n50) σ x3 = some σr := hf
      unfold fm_findsCosts_L50_c at hf
      refine lv_iload_n C.1 C.2.1 dX10_findsCosts_50 rfl (lv_at hl 1 rfl) ?_
      refine lv_if_eq (tgt := 184) C.1 C.2.1 dX10_findsCosts_51 (by decide) (fun c51 => ?_) (fun c51 => ?_)
      · have hf := br_p c51 hf
        obtain rfl := Option.some.inj hf
        exact KW.vret C hr hlk hK hAe hP hD hS rfl dX10_findsCosts_184
      · have hf := br_n c51 hf
        refine lv_iconst (v := (0 : Int32)) C.1 C.2.1 dX10_findsCosts_54 (by decide) ?_
        refine lv_istore_n (lv' := [(3, .int (0 : Int32)), (0, .ref (ad 0))]) C.1 C.2.1 dX10_findsCosts_55 rfl hl (by decide) rfl (fun ls hl => ?_)
        refine lv_iconst (v := (0 : Int32)) C.1 C.2.1 dX10_findsCosts_56 (by decide) ?_
        refine lv_istore (lv' := [(4, .int (0 : Int32)), (3, .int (0 : Int32)), (0, .ref (ad 0))]) C.1 C.2.1 dX10_findsCosts_57 hl (by decide) rfl (fun ls hl => ?_)
        exact hB59 F _ _ _ ls _ _ hP hD hS (lv_sub hl [2, 1, 0] rfl) hf
  have hB9 : ∀ (n9 : Nat) (H : Heap) (locs : List Loc) (σ : MS) (ls : Array Slot) (x1 : Int32) (x2 : Int32) (x3 : Int32), va_P D vwCl (wM cA ad σ) H → va_D A (wM cA ad σ) → va_S A s.heap H locs → lv_has ls 9 [(0, .ref (ad 0)), (1, .int x1), (2, .int x2), (3, .int x3)] → fm_findsCosts_L9 F n9 σ x1 x2 x3 = some σr → WQ p l e 3 71 s m [.ref (ad 0), .int a1] below meth c none D (tyG cA) (wM cA ad σ0) (wM cA ad σr) A H locs (F0 m 9 ls []) := by
    intro n9
    induction n9 with
    | zero =>
      intro H locs σ ls x1 x2 x3 hP hD hS hl hf
      cases (show (none : Option _) = _ from hf)
    | succ n9 ih9 =>
      have hB41 : ∀ (H : Heap) (locs : List Loc) (σ : MS) (ls : Array Slot) (x1 : Int32) (x2 : Int32) (x3 : Int32) (s0 : Int32) (s1 : Int32), va_P D vwCl (wM cA ad σ) H → va_D A (wM cA ad σ) → va_S A s.heap H locs → lv_has ls 9 [(0, .ref (ad 0)), (1, .int x1), (2, .int x2), (3, .int x3)] → fm_findsCosts_L41 F (fm_findsCosts_L9 F n9) σ x1 x2 x3 s0 s1 = some σr → WQ p l e 3 71 s m [.ref (ad 0), .int a1] below meth c none D (tyG cA) (wM cA ad σ0) (wM cA ad σr) A H locs (F0 m 41 ls [.int s0, .int s1, .ref (ad 7)]) := by
        intro H locs σ ls x1 x2 x3 s0 s1 hP hD hS hl hf
        unfold fm_findsCosts_L41 at hf
        obtain ⟨hi41, hf⟩ := gd_some hf
        replace hf := lt_e hf
        refine sm_toEnd C hK hP hD hS hi41 dX10_findsCosts_41 (fun H locs hP hD hS => ?_)
        obtain ⟨x3_42, ex3_42, hf⟩ := lt_some hf
        refine lv_iinc (v := x3_42) (lv' := [(3, .int x3_42), (0, .ref (ad 0)), (1, .int x1), (2, .int x2)]) C.1 C.2.1 dX10_findsCosts_42 hl (k := 3) rfl (by rw [ex3_42]; rfl) (by decide) rfl (fun ls hl => ?_)
        refine lv_goto (tgt := 9) C.1 C.2.1 dX10_findsCosts_45 (by decide) ?_
        exact ih9 _ _ _ ls _ _ _ hP hD hS (lv_sub hl [1, 2, 3, 0] rfl) hf
      intro H locs σ ls x1 x2 x3 hP hD hS hl hf
      have hf : fm_findsCosts_L9_c F (fm_findsCosts_L9 F n9) σ x1 x2 x3 = some σr := hf
      unfold fm_findsCosts_L9_c at hf
      refine lv_iload_n C.1 C.2.1 dX10_findsCosts_9 rfl (lv_at hl 3 rfl) ?_
      refine lv_sipush (v := (1600 : Int32)) C.1 C.2.1 dX10_findsCosts_10 (by decide) ?_
      refine lv_icmp_ge (tgt := 48) C.1 C.2.1 dX10_findsCosts_13 (by decide) (fun c13 => ?_) (fun c13 => ?_)
      · have hf := br_p c13 hf
        refine lv_iconst (v := (1 : Int32)) C.1 C.2.1 dX10_findsCosts_48 (by decide) ?_
        refine lv_istore_n (lv' := [(3, .int (1 : Int32)), (0, .ref (ad 0)), (1, .int x1), (2, .int x2)]) C.1 C.2.1 dX10_findsCosts_49 rfl hl (by decide) rfl (fun ls hl => ?_)
        exact hB50 F _ _ _ ls _ hP hD hS (lv_sub hl [1, 0] rfl) hf
      · have hf := br_n c13 hf
        refine lv_aload_n C.1 C.2.1 dX10_findsCosts_16 rfl (lv_at hl 0 rfl) ?_
        refine gm_toEnd C hK hP dX10_findsCosts_17 ?_
        refine lv_iload_n C.1 C.2.1 dX10_findsCosts_20 rfl (lv_at hl 3 rfl) ?_
        refine lv_iload_n C.1 C.2.1 dX10_findsCosts_21 rfl (lv_at hl 3 rfl) ?_
        refine lv_iconst (v := (4 : Int32)) C.1 C.2.1 dX10_findsCosts_22 (by decide) ?_
        refine lv_idiv C.1 C.2.1 dX10_findsCosts_23 (by decide) ?_
        refine lv_iload_n C.1 C.2.1 dX10_findsCosts_24 rfl (lv_at hl 2 rfl) ?_
        refine lv_icmp_ne (tgt := 39) C.1 C.2.1 dX10_findsCosts_25 (by decide) (fun c25 => ?_) (fun c25 => ?_)
        · have hf := br_n c25 hf
          refine lv_ldc (v := (100000000 : Int32)) C.1 C.2.1 C.2.2.2.1 (C.2.2.2.2 _ wc_X10_153) dX10_findsCosts_39 ?_
          exact hB41 _ _ _ ls _ _ _ _ _ hP hD hS (lv_sub hl [0, 1, 2, 3] rfl) hf
        · have hf := br_p c25 hf
          refine lv_aload_n C.1 C.2.1 dX10_findsCosts_28 rfl (lv_at hl 0 rfl) ?_
          refine lv_iload_n C.1 C.2.1 dX10_findsCosts_29 rfl (lv_at hl 1 rfl) ?_
          refine lv_iload_n C.1 C.2.1 dX10_findsCosts_30 rfl (lv_at hl 3 rfl) ?_
          refine lv_iconst (v := (4 : Int32)) C.1 C.2.1 dX10_findsCosts_31 (by decide) ?_
          refine lv_irem C.1 C.2.1 dX10_findsCosts_32 (by decide) ?_
          obtain ⟨r33, hc33, hf⟩ := bd_some hf
          refine callRV (As := [_, _]) C hK hP wv_X10_163 hl (km_ending l D cA ad _ F _ _ r33 hc33) (rcM hK hP) rfl rfl rfl (Nat.le_of_ble_eq_true rfl) ⟨Nat.le_refl _, Nat.le_refl _⟩ dX10_findsCosts_33 ?_
          refine lv_goto (tgt := 41) C.1 C.2.1 dX10_findsCosts_36 (by decide) ?_
          exact hB41 _ _ _ ls _ _ _ _ _ hP hD hS (lv_sub hl [0, 1, 2, 3] rfl) hf
  unfold fm_findsCosts at hf
  refine lv_aload_n C.1 C.2.1 dX10_findsCosts_0 rfl (lv_at hl 0 rfl) ?_
  refine lv_iload_n C.1 C.2.1 dX10_findsCosts_1 rfl (lv_at hl 1 rfl) ?_
  refine lv_iconst (v := (1 : Int32)) C.1 C.2.1 dX10_findsCosts_2 (by decide) ?_
  obtain ⟨r3, hc3, hf⟩ := bd_some hf
  refine callRV (As := [_, _]) C hK hP wv_X10_160 hl (km_outer l D cA ad _ F _ _ r3 hc3) (rcM hK hP) rfl rfl rfl (Nat.le_of_ble_eq_true rfl) ⟨Nat.le_refl _, Nat.le_refl _⟩ dX10_findsCosts_3 ?_
  refine lv_istore_n (lv' := [(2, .int r3), (0, .ref (ad 0)), (1, .int a1)]) C.1 C.2.1 dX10_findsCosts_6 rfl hl (by decide) rfl (fun ls hl => ?_)
  refine lv_iconst (v := (0 : Int32)) C.1 C.2.1 dX10_findsCosts_7 (by decide) ?_
  refine lv_istore_n (lv' := [(3, .int (0 : Int32)), (2, .int r3), (0, .ref (ad 0)), (1, .int a1)]) C.1 C.2.1 dX10_findsCosts_8 rfl hl (by decide) rfl (fun ls hl => ?_)
  exact hB9 F _ _ _ ls _ _ _ hP hD hS (lv_sub hl [2, 3, 1, 0] rfl) hf
def fm_bestOf_L46 (F : Nat) (σ : MS) (s0 : Int32) : Option (Int32 × MS) :=
  some (s0, σ)
def fm_bestOf (F : Nat) (σ : MS) (x1 : Int32) : Option (Int32 × MS) :=
  bd (fm_makesGrid F σ x1) (fun σ2 => bd (fm_findsCosts F σ2 x1) (fun σ7 => bd (fm_outer F σ7 x1 (0 : Int32)) (fun r18 => bd (fm_of F σ7 x1 (1 : Int32)) (fun r25 => gd (ix (((4 : Int32) * r18) + r25) 1600 = true) (lt (ms_toEnd σ7 (((4 : Int32) * r18) + r25).toNatClampNeg) (fun x2_30 => if x2_30 < (100000000 : Int32) then (fm_bestOf_L46 F σ7 (x2_30 + (2 : Int32))) else (fm_bestOf_L46 F σ7 (-1000 : Int32))))))))
set_option maxHeartbeats 4000000 in
set_option maxRecDepth 100000 in
theorem km_bestOf (l : Launch) (D : va_G) (cA : Nat → ClassId) (ad : Nat → Nat) (σ0 : MS) (F : Nat) (a1 : Int32) (r : Int32) (σr : MS) (hf : fm_bestOf F σ0 a1 = some (r, σr)) : KW l D (tyG cA) yX10_bestOf cX10_bestOf 3 (some .int) (rmk 4 99) (wM cA ad σ0) [.ref (ad 0), .int a1] (some (.int r)) (wM cA ad σr) := by
  refine KW.of (by decide) (Nat.le_of_ble_eq_true rfl) ?_
  intro p e s m below meth c A hAe hA C hr hlk hK hP hD hS ls hl
  have hl : lv_has ls 3 [(0, .ref (ad 0)), (1, .int a1)] := hl
  have hB46 : ∀ (H : Heap) (locs : List Loc) (σ : MS) (ls : Array Slot) (s0 : Int32), va_P D vwCl (wM cA ad σ) H → va_D A (wM cA ad σ) → va_S A s.heap H locs → lv_has ls 3 [(0, .ref (ad 0))] → fm_bestOf_L46 F σ s0 = some (r, σr) → WQ p l e 4 99 s m [.ref (ad 0), .int a1] below meth c (some (.int r)) D (tyG cA) (wM cA ad σ0) (wM cA ad σr) A H locs (F0 m 46 ls [.int s0]) := by
    intro H locs σ ls s0 hP hD hS hl hf
    unfold fm_bestOf_L46 at hf
    obtain ⟨rfl, rfl⟩ := Prod.mk.inj (Option.some.inj hf)
    exact KW.iret C hr hlk hK hAe hP hD hS rfl dX10_bestOf_46
  unfold fm_bestOf at hf
  refine lv_aload_n C.1 C.2.1 dX10_bestOf_0 rfl (lv_at hl 0 rfl) ?_
  refine lv_iload_n C.1 C.2.1 dX10_bestOf_1 rfl (lv_at hl 1 rfl) ?_
  obtain ⟨σ2, hc2, hf⟩ := bd_some hf
  refine callWV (As := [_]) C hK hP hD hA hS wv_X10_170 hl (km_makesGrid l D cA ad _ F _ σ2 hc2) (rcM hK hP) rfl rfl rfl (Nat.le_of_ble_eq_true rfl) ⟨Nat.le_refl _, Nat.le_refl _⟩ dX10_bestOf_2 (fun H locs hP hD hS => ?_)
  refine lv_aload_n C.1 C.2.1 dX10_bestOf_5 rfl (lv_at hl 0 rfl) ?_
  refine lv_iload_n C.1 C.2.1 dX10_bestOf_6 rfl (lv_at hl 1 rfl) ?_
  obtain ⟨σ7, hc7, hf⟩ := bd_some hf
  refine callWV (As := [_]) C hK hP hD hA hS wv_X10_173 hl (km_findsCosts l D cA ad _ F _ σ7 hc7) (rcM hK hP) rfl rfl rfl (Nat.le_of_ble_eq_true rfl) ⟨Nat.le_refl _, Nat.le_refl _⟩ dX10_bestOf_7 (fun H locs hP hD hS => ?_)
  refine lv_aload_n C.1 C.2.1 dX10_bestOf_10 rfl (lv_at hl 0 rfl) ?_
  refine gm_toEnd C hK hP dX10_bestOf_11 ?_
  refine lv_iconst (v := (4 : Int32)) C.1 C.2.1 dX10_bestOf_14 (by decide) ?_
  refine lv_aload_n C.1 C.2.1 dX10_bestOf_15 rfl (lv_at hl 0 rfl) ?_
  refine lv_iload_n C.1 C.2.1 dX10_bestOf_16 rfl (lv_at hl 1 rfl) ?_
  refine lv_iconst (v := (0 : Int32)) C.1 C.2.1 dX10_bestOf_17 (by decide) ?_
  obtain ⟨r18, hc18, hf⟩ := bd_some hf
  refine callRV (As := [_, _]) C hK hP wv_X10_160 hl (km_outer l D cA ad _ F _ _ r18 hc18) (rcM hK hP) rfl rfl rfl (Nat.le_of_ble_eq_true rfl) ⟨Nat.le_refl _, Nat.le_refl _⟩ dX10_bestOf_18 ?_
  refine lv_imul C.1 C.2.1 dX10_bestOf_21 ?_
  refine lv_aload_n C.1 C.2.1 dX10_bestOf_22 rfl (lv_at hl 0 rfl) ?_
  refine lv_iload_n C.1 C.2.1 dX10_bestOf_23 rfl (lv_at hl 1 rfl) ?_
  refine lv_iconst (v := (1 : Int32)) C.1 C.2.1 dX10_bestOf_24 (by decide) ?_
  obtain ⟨r25, hc25, hf⟩ := bd_some hf
  refine callRV (As := [_, _]) C hK hP wv_X10_95 hl (km_of l D cA ad _ F _ _ r25 hc25) (rcM hK hP) rfl rfl rfl (Nat.le_of_ble_eq_true rfl) ⟨Nat.le_refl _, Nat.le_refl _⟩ dX10_bestOf_25 ?_
  refine lv_iadd C.1 C.2.1 dX10_bestOf_28 ?_
  obtain ⟨hi29, hf⟩ := gd_some hf
  refine lm_toEnd C hK hP hi29 dX10_bestOf_29 ?_
  obtain ⟨x2_30, ex2_30, hf⟩ := lt_some hf
  refine lv_tope ex2_30 ?_
  refine lv_istore_n (lv' := [(2, .int x2_30), (0, .ref (ad 0)), (1, .int a1)]) C.1 C.2.1 dX10_bestOf_30 rfl hl (by decide) rfl (fun ls hl => ?_)
  refine lv_iload_n C.1 C.2.1 dX10_bestOf_31 rfl (lv_at hl 0 rfl) ?_
  refine lv_ldc (v := (100000000 : Int32)) C.1 C.2.1 C.2.2.2.1 (C.2.2.2.2 _ wc_X10_153) dX10_bestOf_32 ?_
  refine lv_icmp_lt (tgt := 43) C.1 C.2.1 dX10_bestOf_34 (by decide) (fun c34 => ?_) (fun c34 => ?_)
  · have hf := br_p c34 hf
    refine lv_iload_n C.1 C.2.1 dX10_bestOf_43 rfl (lv_at hl 0 rfl) ?_
    refine lv_iconst (v := (2 : Int32)) C.1 C.2.1 dX10_bestOf_44 (by decide) ?_
    refine lv_iadd C.1 C.2.1 dX10_bestOf_45 ?_
    exact hB46 _ _ _ ls _ hP hD hS (lv_sub hl [1] rfl) hf
  · have hf := br_n c34 hf
    refine lv_sipush (v := (-1000 : Int32)) C.1 C.2.1 dX10_bestOf_37 (by decide) ?_
    refine lv_goto (tgt := 46) C.1 C.2.1 dX10_bestOf_40 (by decide) ?_
    exact hB46 _ _ _ ls _ hP hD hS (lv_sub hl [1] rfl) hf
def fm_point (F : Nat) (σ : MS) (x1 : Int32) (x2 : Int32) : Option (MS) :=
  gd (ix (ms_wayMany σ) 400 = true) (lt (st_wayX σ (ms_wayMany σ) x1) (fun σ9 => gd (ix (ms_wayMany σ9) 400 = true) (lt (st_wayY σ9 (ms_wayMany σ9) x2) (fun σ19 => lt (ms_wayMany_s σ19 ((ms_wayMany σ19) + (1 : Int32))) (fun σ27 => some σ27)))))
set_option maxHeartbeats 4000000 in
set_option maxRecDepth 100000 in
theorem km_point (l : Launch) (D : va_G) (cA : Nat → ClassId) (ad : Nat → Nat) (σ0 : MS) (F : Nat) (a1 : Int32) (a2 : Int32) (σr : MS) (hf : fm_point F σ0 a1 a2 = some σr) : KW l D (tyG cA) yX10_point cX10_point 3 none (rmk 0 0) (wM cA ad σ0) [.ref (ad 0), .int a1, .int a2] none (wM cA ad σr) := by
  refine KW.of (by decide) (Nat.le_of_ble_eq_true rfl) ?_
  intro p e s m below meth c A hAe hA C hr hlk hK hP hD hS ls hl
  have hl : lv_has ls 3 [(0, .ref (ad 0)), (1, .int a1), (2, .int a2)] := hl
  unfold fm_point at hf
  refine lv_aload_n C.1 C.2.1 dX10_point_0 rfl (lv_at hl 0 rfl) ?_
  refine gm_wayX C hK hP dX10_point_1 ?_
  refine lv_aload_n C.1 C.2.1 dX10_point_4 rfl (lv_at hl 0 rfl) ?_
  refine gm_wayMany C hK hP dX10_point_5 ?_
  refine lv_iload_n C.1 C.2.1 dX10_point_8 rfl (lv_at hl 1 rfl) ?_
  obtain ⟨hi9, hf⟩ := gd_some hf
  replace hf := lt_e hf
  refine sm_wayX C hK hP hD hS hi9 dX10_point_9 (fun H locs hP hD hS => ?_)
  refine lv_aload_n C.1 C.2.1 dX10_point_10 rfl (lv_at hl 0 rfl) ?_
  refine gm_wayY C hK hP dX10_point_11 ?_
  refine lv_aload_n C.1 C.2.1 dX10_point_14 rfl (lv_at hl 0 rfl) ?_
  refine gm_wayMany C hK hP dX10_point_15 ?_
  refine lv_iload_n C.1 C.2.1 dX10_point_18 rfl (lv_at hl 2 rfl) ?_
  obtain ⟨hi19, hf⟩ := gd_some hf
  replace hf := lt_e hf
  refine sm_wayY C hK hP hD hS hi19 dX10_point_19 (fun H locs hP hD hS => ?_)
  refine lv_aload_n C.1 C.2.1 dX10_point_20 rfl (lv_at hl 0 rfl) ?_
  refine lv_dup C.1 C.2.1 dX10_point_21 rfl ?_
  refine gm_wayMany C hK hP dX10_point_22 ?_
  refine lv_iconst (v := (1 : Int32)) C.1 C.2.1 dX10_point_25 (by decide) ?_
  refine lv_iadd C.1 C.2.1 dX10_point_26 ?_
  replace hf := lt_e hf
  refine pm_wayMany C hK hP hD hS dX10_point_27 (fun H locs hP hD hS => ?_)
  obtain rfl := Option.some.inj hf
  exact KW.vret C hr hlk hK hAe hP hD hS rfl dX10_point_30
def fm_finds_L206 (F : Nat) (k68 : MS → Int32 → Int32 → Int32 → Int32 → Int32 → Int32 → Option (Int32 × MS)) (σ : MS) (x1 : Int32) (x2 : Int32) (x4 : Int32) (x6 : Int32) (x9 : Int32) (s0 : Int32) : Option (Int32 × MS) :=
  k68 σ x1 x2 s0 x4 x9 x6
def fm_finds_L190 (F : Nat) (k68 : MS → Int32 → Int32 → Int32 → Int32 → Int32 → Int32 → Option (Int32 × MS)) (σ : MS) (x1 : Int32) (x2 : Int32) (x3 : Int32) (x4 : Int32) (x6 : Int32) (x8 : Int32) (x9 : Int32) : Option (Int32 × MS) :=
  if x6 = 0 then (fm_finds_L206 F k68 σ x1 x2 x4 x6 x9 x3) else (bd (fm_next F σ x3 x8) (fun r199 => fm_finds_L206 F k68 σ x1 x2 x4 x6 x9 r199))
def fm_finds_L159 (F : Nat) (k68 : MS → Int32 → Int32 → Int32 → Int32 → Int32 → Int32 → Option (Int32 × MS)) (σ : MS) (x1 : Int32) (x2 : Int32) (x3 : Int32) (x4 : Int32) (x5 : Int32) (x6 : Int32) (x8 : Int32) (s0 : Int32) : Option (Int32 × MS) :=
  if s0 = x5 then (fm_finds_L190 F k68 σ x1 x2 x3 x4 x6 x8 s0) else (gd (ix (x3 / (20 : Int32)) 20 = true) (gd (ix (x3 - x3 / (20 : Int32) * (20 : Int32)) 20 = true) (bd (fm_point F σ (ms_xs σ (x3 / (20 : Int32)).toNatClampNeg) (ms_ys σ (x3 - x3 / (20 : Int32) * (20 : Int32)).toNatClampNeg)) (fun σ187 => fm_finds_L190 F k68 σ187 x1 x2 x3 x4 x6 x8 s0))))
def fm_finds_L139 (F : Nat) (k68 : MS → Int32 → Int32 → Int32 → Int32 → Int32 → Int32 → Option (Int32 × MS)) (σ : MS) (x1 : Int32) (x2 : Int32) (x3 : Int32) (x4 : Int32) (x5 : Int32) (x6 : Int32) (x8 : Int32) : Option (Int32 × MS) :=
  if x6 = 0 then (bd (fm_of F σ x1 (4 : Int32)) (fun r152 => fm_finds_L159 F k68 σ x1 x2 x3 x4 x5 x6 x8 ((r152 + (2 : Int32)) - (r152 + (2 : Int32)) / (4 : Int32) * (4 : Int32)))) else (fm_finds_L159 F k68 σ x1 x2 x3 x4 x5 x6 x8 x8)
def fm_finds_L114_c (F : Nat) (k68 : MS → Int32 → Int32 → Int32 → Int32 → Int32 → Int32 → Option (Int32 × MS)) (k114 : MS → Int32 → Int32 → Int32 → Int32 → Int32 → Int32 → Int32 → Int32 → Option (Int32 × MS)) (σ : MS) (x1 : Int32) (x2 : Int32) (x3 : Int32) (x4 : Int32) (x5 : Int32) (x6 : Int32) (x7 : Int32) (x8 : Int32) : Option (Int32 × MS) :=
  if x6 = 0 then (fm_finds_L139 F k68 σ x1 x2 x3 x4 x5 x6 x8) else (bd (fm_goingOn F σ x3 x5 x8) (fun r125 => if r125 = x7 then (fm_finds_L139 F k68 σ x1 x2 x3 x4 x5 x6 x8) else (lt (x8 + (1 : Int32)) (fun x8_133 => k114 σ x1 x2 x3 x4 x5 x6 x7 x8_133))))
def fm_finds_L114 (F : Nat) (k68 : MS → Int32 → Int32 → Int32 → Int32 → Int32 → Int32 → Option (Int32 × MS)) (n : Nat) (σ : MS) (x1 : Int32) (x2 : Int32) (x3 : Int32) (x4 : Int32) (x5 : Int32) (x6 : Int32) (x7 : Int32) (x8 : Int32) : Option (Int32 × MS) := lpN (fun (k : MS × Int32 × Int32 × Int32 × Int32 × Int32 × Int32 × Int32 × Int32 → Option (Int32 × MS)) a => fm_finds_L114_c F k68 (fun σ x1 x2 x3 x4 x5 x6 x7 x8 => k (σ, x1, x2, x3, x4, x5, x6, x7, x8)) a.1 a.2.1 a.2.2.1 a.2.2.2.1 a.2.2.2.2.1 a.2.2.2.2.2.1 a.2.2.2.2.2.2.1 a.2.2.2.2.2.2.2.1 a.2.2.2.2.2.2.2.2) n (σ, x1, x2, x3, x4, x5, x6, x7, x8)
def fm_finds_L109 (F : Nat) (k68 : MS → Int32 → Int32 → Int32 → Int32 → Int32 → Int32 → Option (Int32 × MS)) (σ : MS) (x1 : Int32) (x2 : Int32) (x3 : Int32) (x4 : Int32) (x5 : Int32) (x7 : Int32) (s0 : Int32) : Option (Int32 × MS) :=
  fm_finds_L114 F k68 F σ x1 x2 x3 x4 x5 s0 x7 (0 : Int32)
def fm_finds_L104 (F : Nat) (k68 : MS → Int32 → Int32 → Int32 → Int32 → Int32 → Int32 → Option (Int32 × MS)) (σ : MS) (x1 : Int32) (x2 : Int32) (x3 : Int32) (x4 : Int32) (x5 : Int32) (x7 : Int32) : Option (Int32 × MS) :=
  fm_finds_L109 F k68 σ x1 x2 x3 x4 x5 x7 (1 : Int32)
def fm_finds_L68_c (F : Nat) (k68 : MS → Int32 → Int32 → Int32 → Int32 → Int32 → Int32 → Option (Int32 × MS)) (σ : MS) (x1 : Int32) (x2 : Int32) (x3 : Int32) (x4 : Int32) (x5 : Int32) (x6 : Int32) : Option (Int32 × MS) :=
  if x6 = 0 then (bd (fm_portOf F σ x1 (1 : Int32) (1 : Int32) (0 : Int32)) (fun r220 => bd (fm_portOf F σ x1 (1 : Int32) (0 : Int32) (0 : Int32)) (fun r228 => bd (fm_point F σ r220 r228) (fun σ231 => some (x2, σ231))))) else (gd (ix (((4 : Int32) * x3) + x5) 1600 = true) (lt (ms_toEnd σ (((4 : Int32) * x3) + x5).toNatClampNeg) (fun x7_84 => if x3 = x4 then (bd (fm_ending F σ x1 x5) (fun r96 => if r96 = x7_84 then (fm_finds_L109 F k68 σ x1 x2 x3 x4 x5 x7_84 (0 : Int32)) else (fm_finds_L104 F k68 σ x1 x2 x3 x4 x5 x7_84))) else (fm_finds_L104 F k68 σ x1 x2 x3 x4 x5 x7_84))))
def fm_finds_L68 (F : Nat) (n : Nat) (σ : MS) (x1 : Int32) (x2 : Int32) (x3 : Int32) (x4 : Int32) (x5 : Int32) (x6 : Int32) : Option (Int32 × MS) := lpN (fun (k : MS × Int32 × Int32 × Int32 × Int32 × Int32 × Int32 → Option (Int32 × MS)) a => fm_finds_L68_c F (fun σ x1 x2 x3 x4 x5 x6 => k (σ, x1, x2, x3, x4, x5, x6)) a.1 a.2.1 a.2.2.1 a.2.2.2.1 a.2.2.2.2.1 a.2.2.2.2.2.1 a.2.2.2.2.2.2) n (σ, x1, x2, x3, x4, x5, x6)
def fm_finds (F : Nat) (σ : MS) (x1 : Int32) : Option (Int32 × MS) :=
  bd2 (fm_bestOf F σ x1) (fun r2 σ2 => if r2 = (-1000 : Int32) then (some ((-1000 : Int32), σ2)) else (bd (fm_outer F σ2 x1 (0 : Int32)) (fun r20 => bd (fm_outer F σ2 x1 (1 : Int32)) (fun r27 => bd (fm_of F σ2 x1 (1 : Int32)) (fun r35 => lt (ms_wayMany_s σ2 (0 : Int32)) (fun σ42 => bd (fm_portOf F σ42 x1 (0 : Int32) (1 : Int32) (0 : Int32)) (fun r51 => bd (fm_portOf F σ42 x1 (0 : Int32) (0 : Int32) (0 : Int32)) (fun r59 => bd (fm_point F σ42 r51 r59) (fun σ62 => fm_finds_L68 F F σ62 x1 r2 r20 r27 r35 (1 : Int32))))))))))
set_option maxHeartbeats 4000000 in
set_option maxRecDepth 100000 in
theorem km_finds (l : Launch) (D : va_G) (cA : Nat → ClassId) (ad : Nat → Nat) (σ0 : MS) (F : Nat) (a1 : Int32) (r : Int32) (σr : MS) (hf : fm_finds F σ0 a1 = some (r, σr)) : KW l D (tyG cA) yX10_finds cX10_finds 10 (some .int) (rmk 5 121) (wM cA ad σ0) [.ref (ad 0), .int a1] (some (.int r)) (wM cA ad σr) := by
  refine KW.of (by decide) (Nat.le_of_ble_eq_true rfl) ?_
  intro p e s m below meth c A hAe hA C hr hlk hK hP hD hS ls hl
  have hl : lv_has ls 10 [(0, .ref (ad 0)), (1, .int a1)] := hl
  have hB68 : ∀ (n68 : Nat) (H : Heap) (locs : List Loc) (σ : MS) (ls : Array Slot) (x1 : Int32) (x2 : Int32) (x3 : Int32) (x4 : Int32) (x5 : Int32) (x6 : Int32), va_P D vwCl (wM cA ad σ) H → va_D A (wM cA ad σ) → va_S A s.heap H locs → lv_has ls 10 [(0, .ref (ad 0)), (1, .int x1), (2, .int x2), (3, .int x3), (4, .int x4), (5, .int x5), (6, .int x6)] → fm_finds_L68 F n68 σ x1 x2 x3 x4 x5 x6 = some (r, σr) → WQ p l e 5 121 s m [.ref (ad 0), .int a1] below meth c (some (.int r)) D (tyG cA) (wM cA ad σ0) (wM cA ad σr) A H locs (F0 m 68 ls []) := by
    intro n68
    induction n68 with
    | zero =>
      intro H locs σ ls x1 x2 x3 x4 x5 x6 hP hD hS hl hf
      cases (show (none : Option _) = _ from hf)
    | succ n68 ih68 =>
      have hB206 : ∀ (H : Heap) (locs : List Loc) (σ : MS) (ls : Array Slot) (x1 : Int32) (x2 : Int32) (x4 : Int32) (x6 : Int32) (x9 : Int32) (s0 : Int32), va_P D vwCl (wM cA ad σ) H → va_D A (wM cA ad σ) → va_S A s.heap H locs → lv_has ls 10 [(0, .ref (ad 0)), (1, .int x1), (2, .int x2), (4, .int x4), (6, .int x6), (9, .int x9)] → fm_finds_L206 F (fm_finds_L68 F n68) σ x1 x2 x4 x6 x9 s0 = some (r, σr) → WQ p l e 5 121 s m [.ref (ad 0), .int a1] below meth c (some (.int r)) D (tyG cA) (wM cA ad σ0) (wM cA ad σr) A H locs (F0 m 206 ls [.int s0]) := by
        intro H locs σ ls x1 x2 x4 x6 x9 s0 hP hD hS hl hf
        unfold fm_finds_L206 at hf
        refine lv_istore_n (lv' := [(3, .int s0), (0, .ref (ad 0)), (1, .int x1), (2, .int x2), (4, .int x4), (6, .int x6), (9, .int x9)]) C.1 C.2.1 dX10_finds_206 rfl hl (by decide) rfl (fun ls hl => ?_)
        refine lv_iload C.1 C.2.1 dX10_finds_207 (lv_at hl 6 rfl) ?_
        refine lv_istore (lv' := [(5, .int x9), (3, .int s0), (0, .ref (ad 0)), (1, .int x1), (2, .int x2), (4, .int x4), (6, .int x6), (9, .int x9)]) C.1 C.2.1 dX10_finds_209 hl (by decide) rfl (fun ls hl => ?_)
        refine lv_goto (tgt := 68) C.1 C.2.1 dX10_finds_211 (by decide) ?_
        exact ih68 _ _ _ ls _ _ _ _ _ _ hP hD hS (lv_sub hl [2, 3, 4, 1, 5, 0, 6] rfl) hf
      have hB190 : ∀ (H : Heap) (locs : List Loc) (σ : MS) (ls : Array Slot) (x1 : Int32) (x2 : Int32) (x3 : Int32) (x4 : Int32) (x6 : Int32) (x8 : Int32) (x9 : Int32), va_P D vwCl (wM cA ad σ) H → va_D A (wM cA ad σ) → va_S A s.heap H locs → lv_has ls 10 [(0, .ref (ad 0)), (1, .int x1), (2, .int x2), (3, .int x3), (4, .int x4), (6, .int x6), (8, .int x8), (9, .int x9)] → fm_finds_L190 F (fm_finds_L68 F n68) σ x1 x2 x3 x4 x6 x8 x9 = some (r, σr) → WQ p l e 5 121 s m [.ref (ad 0), .int a1] below meth c (some (.int r)) D (tyG cA) (wM cA ad σ0) (wM cA ad σr) A H locs (F0 m 190 ls []) := by
        intro H locs σ ls x1 x2 x3 x4 x6 x8 x9 hP hD hS hl hf
        unfold fm_finds_L190 at hf
        refine lv_iload C.1 C.2.1 dX10_finds_190 (lv_at hl 5 rfl) ?_
        refine lv_if_eq (tgt := 205) C.1 C.2.1 dX10_finds_192 (by decide) (fun c192 => ?_) (fun c192 => ?_)
        · have hf := br_p c192 hf
          refine lv_iload_n C.1 C.2.1 dX10_finds_205 rfl (lv_at hl 3 rfl) ?_
          exact hB206 _ _ _ ls _ _ _ _ _ _ hP hD hS (lv_sub hl [0, 1, 2, 4, 5, 7] rfl) hf
        · have hf := br_n c192 hf
          refine lv_aload_n C.1 C.2.1 dX10_finds_195 rfl (lv_at hl 0 rfl) ?_
          refine lv_iload_n C.1 C.2.1 dX10_finds_196 rfl (lv_at hl 3 rfl) ?_
          refine lv_iload C.1 C.2.1 dX10_finds_197 (lv_at hl 6 rfl) ?_
          obtain ⟨r199, hc199, hf⟩ := bd_some hf
          refine callRV (As := [_, _]) C hK hP wv_X10_154 hl (km_next l D cA ad _ F _ _ r199 hc199) (rcM hK hP) rfl rfl rfl (Nat.le_of_ble_eq_true rfl) ⟨Nat.le_refl _, Nat.le_refl _⟩ dX10_finds_199 ?_
          refine lv_goto (tgt := 206) C.1 C.2.1 dX10_finds_202 (by decide) ?_
          exact hB206 _ _ _ ls _ _ _ _ _ _ hP hD hS (lv_sub hl [0, 1, 2, 4, 5, 7] rfl) hf
      have hB159 : ∀ (H : Heap) (locs : List Loc) (σ : MS) (ls : Array Slot) (x1 : Int32) (x2 : Int32) (x3 : Int32) (x4 : Int32) (x5 : Int32) (x6 : Int32) (x8 : Int32) (s0 : Int32), va_P D vwCl (wM cA ad σ) H → va_D A (wM cA ad σ) → va_S A s.heap H locs → lv_has ls 10 [(0, .ref (ad 0)), (1, .int x1), (2, .int x2), (3, .int x3), (4, .int x4), (5, .int x5), (6, .int x6), (8, .int x8)] → fm_finds_L159 F (fm_finds_L68 F n68) σ x1 x2 x3 x4 x5 x6 x8 s0 = some (r, σr) → WQ p l e 5 121 s m [.ref (ad 0), .int a1] below meth c (some (.int r)) D (tyG cA) (wM cA ad σ0) (wM cA ad σr) A H locs (F0 m 159 ls [.int s0]) := by
        intro H locs σ ls x1 x2 x3 x4 x5 x6 x8 s0 hP hD hS hl hf
        unfold fm_finds_L159 at hf
        refine lv_istore (lv' := [(9, .int s0), (0, .ref (ad 0)), (1, .int x1), (2, .int x2), (3, .int x3), (4, .int x4), (5, .int x5), (6, .int x6), (8, .int x8)]) C.1 C.2.1 dX10_finds_159 hl (by decide) rfl (fun ls hl => ?_)
        refine lv_iload C.1 C.2.1 dX10_finds_161 (lv_at hl 0 rfl) ?_
        refine lv_iload C.1 C.2.1 dX10_finds_163 (lv_at hl 6 rfl) ?_
        refine lv_icmp_eq (tgt := 190) C.1 C.2.1 dX10_finds_165 (by decide) (fun c165 => ?_) (fun c165 => ?_)
        · have hf := br_p c165 hf
          exact hB190 _ _ _ ls _ _ _ _ _ _ _ hP hD hS (lv_sub hl [1, 2, 3, 4, 5, 7, 8, 0] rfl) hf
        · have hf := br_n c165 hf
          refine lv_aload_n C.1 C.2.1 dX10_finds_168 rfl (lv_at hl 1 rfl) ?_
          refine lv_aload_n C.1 C.2.1 dX10_finds_169 rfl (lv_at hl 1 rfl) ?_
          refine gm_xs C hK hP dX10_finds_170 ?_
          refine lv_iload_n C.1 C.2.1 dX10_finds_173 rfl (lv_at hl 4 rfl) ?_
          refine lv_bipush (v := (20 : Int32)) C.1 C.2.1 dX10_finds_174 (by decide) ?_
          refine lv_idiv C.1 C.2.1 dX10_finds_176 (by decide) ?_
          obtain ⟨hi177, hf⟩ := gd_some hf
          refine lm_xs C hK hP hi177 dX10_finds_177 ?_
          refine lv_aload_n C.1 C.2.1 dX10_finds_178 rfl (lv_at hl 1 rfl) ?_
          refine gm_ys C hK hP dX10_finds_179 ?_
          refine lv_iload_n C.1 C.2.1 dX10_finds_182 rfl (lv_at hl 4 rfl) ?_
          refine lv_bipush (v := (20 : Int32)) C.1 C.2.1 dX10_finds_183 (by decide) ?_
          refine lv_irem C.1 C.2.1 dX10_finds_185 (by decide) ?_
          obtain ⟨hi186, hf⟩ := gd_some hf
          refine lm_ys C hK hP hi186 dX10_finds_186 ?_
          obtain ⟨σ187, hc187, hf⟩ := bd_some hf
          refine callWV (As := [_, _]) C hK hP hD hA hS wv_X10_182 hl (km_point l D cA ad _ F _ _ σ187 hc187) (rcM hK hP) rfl rfl rfl (Nat.le_of_ble_eq_true rfl) ⟨Nat.le_refl _, Nat.le_refl _⟩ dX10_finds_187 (fun H locs hP hD hS => ?_)
          exact hB190 _ _ _ ls _ _ _ _ _ _ _ hP hD hS (lv_sub hl [1, 2, 3, 4, 5, 7, 8, 0] rfl) hf
      have hB139 : ∀ (H : Heap) (locs : List Loc) (σ : MS) (ls : Array Slot) (x1 : Int32) (x2 : Int32) (x3 : Int32) (x4 : Int32) (x5 : Int32) (x6 : Int32) (x8 : Int32), va_P D vwCl (wM cA ad σ) H → va_D A (wM cA ad σ) → va_S A s.heap H locs → lv_has ls 10 [(0, .ref (ad 0)), (1, .int x1), (2, .int x2), (3, .int x3), (4, .int x4), (5, .int x5), (6, .int x6), (8, .int x8)] → fm_finds_L139 F (fm_finds_L68 F n68) σ x1 x2 x3 x4 x5 x6 x8 = some (r, σr) → WQ p l e 5 121 s m [.ref (ad 0), .int a1] below meth c (some (.int r)) D (tyG cA) (wM cA ad σ0) (wM cA ad σr) A H locs (F0 m 139 ls []) := by
        intro H locs σ ls x1 x2 x3 x4 x5 x6 x8 hP hD hS hl hf
        unfold fm_finds_L139 at hf
        refine lv_iload C.1 C.2.1 dX10_finds_139 (lv_at hl 6 rfl) ?_
        refine lv_if_eq (tgt := 149) C.1 C.2.1 dX10_finds_141 (by decide) (fun c141 => ?_) (fun c141 => ?_)
        · have hf := br_p c141 hf
          refine lv_aload_n C.1 C.2.1 dX10_finds_149 rfl (lv_at hl 0 rfl) ?_
          refine lv_iload_n C.1 C.2.1 dX10_finds_150 rfl (lv_at hl 1 rfl) ?_
          refine lv_iconst (v := (4 : Int32)) C.1 C.2.1 dX10_finds_151 (by decide) ?_
          obtain ⟨r152, hc152, hf⟩ := bd_some hf
          refine callRV (As := [_, _]) C hK hP wv_X10_95 hl (km_of l D cA ad _ F _ _ r152 hc152) (rcM hK hP) rfl rfl rfl (Nat.le_of_ble_eq_true rfl) ⟨Nat.le_refl _, Nat.le_refl _⟩ dX10_finds_152 ?_
          refine lv_iconst (v := (2 : Int32)) C.1 C.2.1 dX10_finds_155 (by decide) ?_
          refine lv_iadd C.1 C.2.1 dX10_finds_156 ?_
          refine lv_iconst (v := (4 : Int32)) C.1 C.2.1 dX10_finds_157 (by decide) ?_
          refine lv_irem C.1 C.2.1 dX10_finds_158 (by decide) ?_
          exact hB159 _ _ _ ls _ _ _ _ _ _ _ _ hP hD hS (lv_sub hl [0, 1, 2, 3, 4, 5, 6, 7] rfl) hf
        · have hf := br_n c141 hf
          refine lv_iload C.1 C.2.1 dX10_finds_144 (lv_at hl 7 rfl) ?_
          refine lv_goto (tgt := 159) C.1 C.2.1 dX10_finds_146 (by decide) ?_
          exact hB159 _ _ _ ls _ _ _ _ _ _ _ _ hP hD hS (lv_sub hl [0, 1, 2, 3, 4, 5, 6, 7] rfl) hf
      have hB114 : ∀ (n114 : Nat) (H : Heap) (locs : List Loc) (σ : MS) (ls : Array Slot) (x1 : Int32) (x2 : Int32) (x3 : Int32) (x4 : Int32) (x5 : Int32) (x6 : Int32) (x7 : Int32) (x8 : Int32), va_P D vwCl (wM cA ad σ) H → va_D A (wM cA ad σ) → va_S A s.heap H locs → lv_has ls 10 [(0, .ref (ad 0)), (1, .int x1), (2, .int x2), (3, .int x3), (4, .int x4), (5, .int x5), (6, .int x6), (7, .int x7), (8, .int x8)] → fm_finds_L114 F (fm_finds_L68 F n68) n114 σ x1 x2 x3 x4 x5 x6 x7 x8 = some (r, σr) → WQ p l e 5 121 s m [.ref (ad 0), .int a1] below meth c (some (.int r)) D (tyG cA) (wM cA ad σ0) (wM cA ad σr) A H locs (F0 m 114 ls []) := by
        intro n114
        induction n114 with
        | zero =>
          intro H locs σ ls x1 x2 x3 x4 x5 x6 x7 x8 hP hD hS hl hf
          cases (show (none : Option _) = _ from hf)
        | succ n114 ih114 =>
          intro H locs σ ls x1 x2 x3 x4 x5 x6 x7 x8 hP hD hS hl hf
          have hf : fm_finds_L114_c F (fm_finds_L68 F n68) (fm_finds_L114 F (fm_finds_L68 F n68) n114) σ x1 x2 x3 x4 x5 x6 x7 x8 = some (r, σr) := hf
          unfold fm_finds_L114_c at hf
          refine lv_iload C.1 C.2.1 dX10_finds_114 (lv_at hl 6 rfl) ?_
          refine lv_if_eq (tgt := 139) C.1 C.2.1 dX10_finds_116 (by decide) (fun c116 => ?_) (fun c116 => ?_)
          · have hf := br_p c116 hf
            exact hB139 _ _ _ ls _ _ _ _ _ _ _ hP hD hS (lv_sub hl [0, 1, 2, 3, 4, 5, 6, 8] rfl) hf
          · have hf := br_n c116 hf
            refine lv_aload_n C.1 C.2.1 dX10_finds_119 rfl (lv_at hl 0 rfl) ?_
            refine lv_iload_n C.1 C.2.1 dX10_finds_120 rfl (lv_at hl 3 rfl) ?_
            refine lv_iload C.1 C.2.1 dX10_finds_121 (lv_at hl 5 rfl) ?_
            refine lv_iload C.1 C.2.1 dX10_finds_123 (lv_at hl 8 rfl) ?_
            obtain ⟨r125, hc125, hf⟩ := bd_some hf
            refine callRV (As := [_, _, _]) C hK hP wv_X10_166 hl (km_goingOn l D cA ad _ F _ _ _ r125 hc125) (rcM hK hP) rfl rfl rfl (Nat.le_of_ble_eq_true rfl) ⟨Nat.le_refl _, Nat.le_refl _⟩ dX10_finds_125 ?_
            refine lv_iload C.1 C.2.1 dX10_finds_128 (lv_at hl 7 rfl) ?_
            refine lv_icmp_eq (tgt := 139) C.1 C.2.1 dX10_finds_130 (by decide) (fun c130 => ?_) (fun c130 => ?_)
            · have hf := br_p c130 hf
              exact hB139 _ _ _ ls _ _ _ _ _ _ _ hP hD hS (lv_sub hl [0, 1, 2, 3, 4, 5, 6, 8] rfl) hf
            · have hf := br_n c130 hf
              obtain ⟨x8_133, ex8_133, hf⟩ := lt_some hf
              refine lv_iinc (v := x8_133) (lv' := [(8, .int x8_133), (0, .ref (ad 0)), (1, .int x1), (2, .int x2), (3, .int x3), (4, .int x4), (5, .int x5), (6, .int x6), (7, .int x7)]) C.1 C.2.1 dX10_finds_133 hl (k := 8) rfl (by rw [ex8_133]; rfl) (by decide) rfl (fun ls hl => ?_)
              refine lv_goto (tgt := 114) C.1 C.2.1 dX10_finds_136 (by decide) ?_
              exact ih114 _ _ _ ls _ _ _ _ _ _ _ _ hP hD hS (lv_sub hl [1, 2, 3, 4, 5, 6, 7, 8, 0] rfl) hf
      have hB109 : ∀ (H : Heap) (locs : List Loc) (σ : MS) (ls : Array Slot) (x1 : Int32) (x2 : Int32) (x3 : Int32) (x4 : Int32) (x5 : Int32) (x7 : Int32) (s0 : Int32), va_P D vwCl (wM cA ad σ) H → va_D A (wM cA ad σ) → va_S A s.heap H locs → lv_has ls 10 [(0, .ref (ad 0)), (1, .int x1), (2, .int x2), (3, .int x3), (4, .int x4), (5, .int x5), (7, .int x7)] → fm_finds_L109 F (fm_finds_L68 F n68) σ x1 x2 x3 x4 x5 x7 s0 = some (r, σr) → WQ p l e 5 121 s m [.ref (ad 0), .int a1] below meth c (some (.int r)) D (tyG cA) (wM cA ad σ0) (wM cA ad σr) A H locs (F0 m 109 ls [.int s0]) := by
        intro H locs σ ls x1 x2 x3 x4 x5 x7 s0 hP hD hS hl hf
        unfold fm_finds_L109 at hf
        refine lv_istore (lv' := [(6, .int s0), (0, .ref (ad 0)), (1, .int x1), (2, .int x2), (3, .int x3), (4, .int x4), (5, .int x5), (7, .int x7)]) C.1 C.2.1 dX10_finds_109 hl (by decide) rfl (fun ls hl => ?_)
        refine lv_iconst (v := (0 : Int32)) C.1 C.2.1 dX10_finds_111 (by decide) ?_
        refine lv_istore (lv' := [(8, .int (0 : Int32)), (6, .int s0), (0, .ref (ad 0)), (1, .int x1), (2, .int x2), (3, .int x3), (4, .int x4), (5, .int x5), (7, .int x7)]) C.1 C.2.1 dX10_finds_112 hl (by decide) rfl (fun ls hl => ?_)
        exact hB114 F _ _ _ ls _ _ _ _ _ _ _ _ hP hD hS (lv_sub hl [2, 3, 4, 5, 6, 7, 1, 8, 0] rfl) hf
      have hB104 : ∀ (H : Heap) (locs : List Loc) (σ : MS) (ls : Array Slot) (x1 : Int32) (x2 : Int32) (x3 : Int32) (x4 : Int32) (x5 : Int32) (x7 : Int32), va_P D vwCl (wM cA ad σ) H → va_D A (wM cA ad σ) → va_S A s.heap H locs → lv_has ls 10 [(0, .ref (ad 0)), (1, .int x1), (2, .int x2), (3, .int x3), (4, .int x4), (5, .int x5), (7, .int x7)] → fm_finds_L104 F (fm_finds_L68 F n68) σ x1 x2 x3 x4 x5 x7 = some (r, σr) → WQ p l e 5 121 s m [.ref (ad 0), .int a1] below meth c (some (.int r)) D (tyG cA) (wM cA ad σ0) (wM cA ad σr) A H locs (F0 m 104 ls []) := by
        intro H locs σ ls x1 x2 x3 x4 x5 x7 hP hD hS hl hf
        unfold fm_finds_L104 at hf
        refine lv_iconst (v := (1 : Int32)) C.1 C.2.1 dX10_finds_104 (by decide) ?_
        refine lv_goto (tgt := 109) C.1 C.2.1 dX10_finds_105 (by decide) ?_
        exact hB109 _ _ _ ls _ _ _ _ _ _ _ hP hD hS (lv_sub hl [0, 1, 2, 3, 4, 5, 6] rfl) hf
      intro H locs σ ls x1 x2 x3 x4 x5 x6 hP hD hS hl hf
      have hf : fm_finds_L68_c F (fm_finds_L68 F n68) σ x1 x2 x3 x4 x5 x6 = some (r, σr) := hf
      unfold fm_finds_L68_c at hf
      refine lv_iload C.1 C.2.1 dX10_finds_68 (lv_at hl 6 rfl) ?_
      refine lv_if_eq (tgt := 214) C.1 C.2.1 dX10_finds_70 (by decide) (fun c70 => ?_) (fun c70 => ?_)
      · have hf := br_p c70 hf
        refine lv_aload_n C.1 C.2.1 dX10_finds_214 rfl (lv_at hl 0 rfl) ?_
        refine lv_aload_n C.1 C.2.1 dX10_finds_215 rfl (lv_at hl 0 rfl) ?_
        refine lv_iload_n C.1 C.2.1 dX10_finds_216 rfl (lv_at hl 1 rfl) ?_
        refine lv_iconst (v := (1 : Int32)) C.1 C.2.1 dX10_finds_217 (by decide) ?_
        refine lv_iconst (v := (1 : Int32)) C.1 C.2.1 dX10_finds_218 (by decide) ?_
        refine lv_iconst (v := (0 : Int32)) C.1 C.2.1 dX10_finds_219 (by decide) ?_
        obtain ⟨r220, hc220, hf⟩ := bd_some hf
        refine callRV (As := [_, _, _, _]) C hK hP wv_X10_120 hl (km_portOf l D cA ad _ F _ _ _ _ r220 hc220) (rcM hK hP) rfl rfl rfl (Nat.le_of_ble_eq_true rfl) ⟨Nat.le_refl _, Nat.le_refl _⟩ dX10_finds_220 ?_
        refine lv_aload_n C.1 C.2.1 dX10_finds_223 rfl (lv_at hl 0 rfl) ?_
        refine lv_iload_n C.1 C.2.1 dX10_finds_224 rfl (lv_at hl 1 rfl) ?_
        refine lv_iconst (v := (1 : Int32)) C.1 C.2.1 dX10_finds_225 (by decide) ?_
        refine lv_iconst (v := (0 : Int32)) C.1 C.2.1 dX10_finds_226 (by decide) ?_
        refine lv_iconst (v := (0 : Int32)) C.1 C.2.1 dX10_finds_227 (by decide) ?_
        obtain ⟨r228, hc228, hf⟩ := bd_some hf
        refine callRV (As := [_, _, _, _]) C hK hP wv_X10_120 hl (km_portOf l D cA ad _ F _ _ _ _ r228 hc228) (rcM hK hP) rfl rfl rfl (Nat.le_of_ble_eq_true rfl) ⟨Nat.le_refl _, Nat.le_refl _⟩ dX10_finds_228 ?_
        obtain ⟨σ231, hc231, hf⟩ := bd_some hf
        refine callWV (As := [_, _]) C hK hP hD hA hS wv_X10_182 hl (km_point l D cA ad _ F _ _ σ231 hc231) (rcM hK hP) rfl rfl rfl (Nat.le_of_ble_eq_true rfl) ⟨Nat.le_refl _, Nat.le_refl _⟩ dX10_finds_231 (fun H locs hP hD hS => ?_)
        refine lv_iload_n C.1 C.2.1 dX10_finds_234 rfl (lv_at hl 2 rfl) ?_
        obtain ⟨rfl, rfl⟩ := Prod.mk.inj (Option.some.inj hf)
        exact KW.iret C hr hlk hK hAe hP hD hS rfl dX10_finds_235
      · have hf := br_n c70 hf
        refine lv_aload_n C.1 C.2.1 dX10_finds_73 rfl (lv_at hl 0 rfl) ?_
        refine gm_toEnd C hK hP dX10_finds_74 ?_
        refine lv_iconst (v := (4 : Int32)) C.1 C.2.1 dX10_finds_77 (by decide) ?_
        refine lv_iload_n C.1 C.2.1 dX10_finds_78 rfl (lv_at hl 3 rfl) ?_
        refine lv_imul C.1 C.2.1 dX10_finds_79 ?_
        refine lv_iload C.1 C.2.1 dX10_finds_80 (lv_at hl 5 rfl) ?_
        refine lv_iadd C.1 C.2.1 dX10_finds_82 ?_
        obtain ⟨hi83, hf⟩ := gd_some hf
        refine lm_toEnd C hK hP hi83 dX10_finds_83 ?_
        obtain ⟨x7_84, ex7_84, hf⟩ := lt_some hf
        refine lv_tope ex7_84 ?_
        refine lv_istore (lv' := [(7, .int x7_84), (0, .ref (ad 0)), (1, .int x1), (2, .int x2), (3, .int x3), (4, .int x4), (5, .int x5), (6, .int x6)]) C.1 C.2.1 dX10_finds_84 hl (by decide) rfl (fun ls hl => ?_)
        refine lv_iload_n C.1 C.2.1 dX10_finds_86 rfl (lv_at hl 4 rfl) ?_
        refine lv_iload C.1 C.2.1 dX10_finds_87 (lv_at hl 5 rfl) ?_
        refine lv_icmp_ne (tgt := 104) C.1 C.2.1 dX10_finds_89 (by decide) (fun c89 => ?_) (fun c89 => ?_)
        · have hf := br_n c89 hf
          exact hB104 _ _ _ ls _ _ _ _ _ _ hP hD hS (lv_sub hl [1, 2, 3, 4, 5, 6, 0] rfl) hf
        · have hf := br_p c89 hf
          refine lv_aload_n C.1 C.2.1 dX10_finds_92 rfl (lv_at hl 1 rfl) ?_
          refine lv_iload_n C.1 C.2.1 dX10_finds_93 rfl (lv_at hl 2 rfl) ?_
          refine lv_iload C.1 C.2.1 dX10_finds_94 (lv_at hl 6 rfl) ?_
          obtain ⟨r96, hc96, hf⟩ := bd_some hf
          refine callRV (As := [_, _]) C hK hP wv_X10_163 hl (km_ending l D cA ad _ F _ _ r96 hc96) (rcM hK hP) rfl rfl rfl (Nat.le_of_ble_eq_true rfl) ⟨Nat.le_refl _, Nat.le_refl _⟩ dX10_finds_96 ?_
          refine lv_iload C.1 C.2.1 dX10_finds_99 (lv_at hl 0 rfl) ?_
          refine lv_icmp_eq (tgt := 108) C.1 C.2.1 dX10_finds_101 (by decide) (fun c101 => ?_) (fun c101 => ?_)
          · have hf := br_p c101 hf
            refine lv_iconst (v := (0 : Int32)) C.1 C.2.1 dX10_finds_108 (by decide) ?_
            exact hB109 _ _ _ ls _ _ _ _ _ _ _ hP hD hS (lv_sub hl [1, 2, 3, 4, 5, 6, 0] rfl) hf
          · have hf := br_n c101 hf
            exact hB104 _ _ _ ls _ _ _ _ _ _ hP hD hS (lv_sub hl [1, 2, 3, 4, 5, 6, 0] rfl) hf
  unfold fm_finds at hf
  refine lv_aload_n C.1 C.2.1 dX10_finds_0 rfl (lv_at hl 0 rfl) ?_
  refine lv_iload_n C.1 C.2.1 dX10_finds_1 rfl (lv_at hl 1 rfl) ?_
  obtain ⟨r2, σ2, hc2, hf⟩ := bd2_some hf
  refine callWV (As := [_]) C hK hP hD hA hS wv_X10_179 hl (km_bestOf l D cA ad _ F _ r2 σ2 hc2) (rcM hK hP) rfl rfl rfl (Nat.le_of_ble_eq_true rfl) ⟨Nat.le_refl _, Nat.le_refl _⟩ dX10_finds_2 (fun H locs hP hD hS => ?_)
  refine lv_istore_n (lv' := [(2, .int r2), (0, .ref (ad 0)), (1, .int a1)]) C.1 C.2.1 dX10_finds_5 rfl hl (by decide) rfl (fun ls hl => ?_)
  refine lv_iload_n C.1 C.2.1 dX10_finds_6 rfl (lv_at hl 0 rfl) ?_
  refine lv_sipush (v := (-1000 : Int32)) C.1 C.2.1 dX10_finds_7 (by decide) ?_
  refine lv_icmp_ne (tgt := 17) C.1 C.2.1 dX10_finds_10 (by decide) (fun c10 => ?_) (fun c10 => ?_)
  · have hf := br_n c10 hf
    refine lv_aload_n C.1 C.2.1 dX10_finds_17 rfl (lv_at hl 1 rfl) ?_
    refine lv_iload_n C.1 C.2.1 dX10_finds_18 rfl (lv_at hl 2 rfl) ?_
    refine lv_iconst (v := (0 : Int32)) C.1 C.2.1 dX10_finds_19 (by decide) ?_
    obtain ⟨r20, hc20, hf⟩ := bd_some hf
    refine callRV (As := [_, _]) C hK hP wv_X10_160 hl (km_outer l D cA ad _ F _ _ r20 hc20) (rcM hK hP) rfl rfl rfl (Nat.le_of_ble_eq_true rfl) ⟨Nat.le_refl _, Nat.le_refl _⟩ dX10_finds_20 ?_
    refine lv_istore_n (lv' := [(3, .int r20), (2, .int r2), (0, .ref (ad 0)), (1, .int a1)]) C.1 C.2.1 dX10_finds_23 rfl hl (by decide) rfl (fun ls hl => ?_)
    refine lv_aload_n C.1 C.2.1 dX10_finds_24 rfl (lv_at hl 2 rfl) ?_
    refine lv_iload_n C.1 C.2.1 dX10_finds_25 rfl (lv_at hl 3 rfl) ?_
    refine lv_iconst (v := (1 : Int32)) C.1 C.2.1 dX10_finds_26 (by decide) ?_
    obtain ⟨r27, hc27, hf⟩ := bd_some hf
    refine callRV (As := [_, _]) C hK hP wv_X10_160 hl (km_outer l D cA ad _ F _ _ r27 hc27) (rcM hK hP) rfl rfl rfl (Nat.le_of_ble_eq_true rfl) ⟨Nat.le_refl _, Nat.le_refl _⟩ dX10_finds_27 ?_
    refine lv_istore (lv' := [(4, .int r27), (3, .int r20), (2, .int r2), (0, .ref (ad 0)), (1, .int a1)]) C.1 C.2.1 dX10_finds_30 hl (by decide) rfl (fun ls hl => ?_)
    refine lv_aload_n C.1 C.2.1 dX10_finds_32 rfl (lv_at hl 3 rfl) ?_
    refine lv_iload_n C.1 C.2.1 dX10_finds_33 rfl (lv_at hl 4 rfl) ?_
    refine lv_iconst (v := (1 : Int32)) C.1 C.2.1 dX10_finds_34 (by decide) ?_
    obtain ⟨r35, hc35, hf⟩ := bd_some hf
    refine callRV (As := [_, _]) C hK hP wv_X10_95 hl (km_of l D cA ad _ F _ _ r35 hc35) (rcM hK hP) rfl rfl rfl (Nat.le_of_ble_eq_true rfl) ⟨Nat.le_refl _, Nat.le_refl _⟩ dX10_finds_35 ?_
    refine lv_istore (lv' := [(5, .int r35), (4, .int r27), (3, .int r20), (2, .int r2), (0, .ref (ad 0)), (1, .int a1)]) C.1 C.2.1 dX10_finds_38 hl (by decide) rfl (fun ls hl => ?_)
    refine lv_aload_n C.1 C.2.1 dX10_finds_40 rfl (lv_at hl 4 rfl) ?_
    refine lv_iconst (v := (0 : Int32)) C.1 C.2.1 dX10_finds_41 (by decide) ?_
    replace hf := lt_e hf
    refine pm_wayMany C hK hP hD hS dX10_finds_42 (fun H locs hP hD hS => ?_)
    refine lv_aload_n C.1 C.2.1 dX10_finds_45 rfl (lv_at hl 4 rfl) ?_
    refine lv_aload_n C.1 C.2.1 dX10_finds_46 rfl (lv_at hl 4 rfl) ?_
    refine lv_iload_n C.1 C.2.1 dX10_finds_47 rfl (lv_at hl 5 rfl) ?_
    refine lv_iconst (v := (0 : Int32)) C.1 C.2.1 dX10_finds_48 (by decide) ?_
    refine lv_iconst (v := (1 : Int32)) C.1 C.2.1 dX10_finds_49 (by decide) ?_
    refine lv_iconst (v := (0 : Int32)) C.1 C.2.1 dX10_finds_50 (by decide) ?_
    obtain ⟨r51, hc51, hf⟩ := bd_some hf
    refine callRV (As := [_, _, _, _]) C hK hP wv_X10_120 hl (km_portOf l D cA ad _ F _ _ _ _ r51 hc51) (rcM hK hP) rfl rfl rfl (Nat.le_of_ble_eq_true rfl) ⟨Nat.le_refl _, Nat.le_refl _⟩ dX10_finds_51 ?_
    refine lv_aload_n C.1 C.2.1 dX10_finds_54 rfl (lv_at hl 4 rfl) ?_
    refine lv_iload_n C.1 C.2.1 dX10_finds_55 rfl (lv_at hl 5 rfl) ?_
    refine lv_iconst (v := (0 : Int32)) C.1 C.2.1 dX10_finds_56 (by decide) ?_
    refine lv_iconst (v := (0 : Int32)) C.1 C.2.1 dX10_finds_57 (by decide) ?_
    refine lv_iconst (v := (0 : Int32)) C.1 C.2.1 dX10_finds_58 (by decide) ?_
    obtain ⟨r59, hc59, hf⟩ := bd_some hf
    refine callRV (As := [_, _, _, _]) C hK hP wv_X10_120 hl (km_portOf l D cA ad _ F _ _ _ _ r59 hc59) (rcM hK hP) rfl rfl rfl (Nat.le_of_ble_eq_true rfl) ⟨Nat.le_refl _, Nat.le_refl _⟩ dX10_finds_59 ?_
    obtain ⟨σ62, hc62, hf⟩ := bd_some hf
    refine callWV (As := [_, _]) C hK hP hD hA hS wv_X10_182 hl (km_point l D cA ad _ F _ _ σ62 hc62) (rcM hK hP) rfl rfl rfl (Nat.le_of_ble_eq_true rfl) ⟨Nat.le_refl _, Nat.le_refl _⟩ dX10_finds_62 (fun H locs hP hD hS => ?_)
    refine lv_iconst (v := (1 : Int32)) C.1 C.2.1 dX10_finds_65 (by decide) ?_
    refine lv_istore (lv' := [(6, .int (1 : Int32)), (5, .int r35), (4, .int r27), (3, .int r20), (2, .int r2), (0, .ref (ad 0)), (1, .int a1)]) C.1 C.2.1 dX10_finds_66 hl (by decide) rfl (fun ls hl => ?_)
    exact hB68 F _ _ _ ls _ _ _ _ _ _ hP hD hS (lv_sub hl [5, 6, 4, 3, 2, 1, 0] rfl) hf
  · have hf := br_p c10 hf
    refine lv_sipush (v := (-1000 : Int32)) C.1 C.2.1 dX10_finds_13 (by decide) ?_
    obtain ⟨rfl, rfl⟩ := Prod.mk.inj (Option.some.inj hf)
    exact KW.iret C hr hlk hK hAe hP hD hS rfl dX10_finds_16
def fm_takes_L83 (F : Nat) (k31 : MS → Int32 → Int32 → Int32 → Int32 → Option (Int32 × MS)) (σ : MS) (x1 : Int32) (x2 : Int32) (x4 : Int32) (s0 : Int32) : Option (Int32 × MS) :=
  gd (ix x4 400 = true) (bd (fm_puts F σ x1 ((9 : Int32) + ((2 : Int32) * x4)) (ms_wayX σ x4.toNatClampNeg)) (fun σ100 => gd (ix x4 400 = true) (bd (fm_puts F σ100 x1 ((10 : Int32) + ((2 : Int32) * x4)) (ms_wayY σ100 x4.toNatClampNeg)) (fun σ119 => lt (x4 + (1 : Int32)) (fun x4_122 => k31 σ119 x1 x2 s0 x4_122)))))
def fm_takes_L78 (F : Nat) (k31 : MS → Int32 → Int32 → Int32 → Int32 → Option (Int32 × MS)) (σ : MS) (x1 : Int32) (x2 : Int32) (x4 : Int32) : Option (Int32 × MS) :=
  fm_takes_L83 F k31 σ x1 x2 x4 (1 : Int32)
def fm_takes_L31_c (F : Nat) (k31 : MS → Int32 → Int32 → Int32 → Int32 → Option (Int32 × MS)) (σ : MS) (x1 : Int32) (x2 : Int32) (x3 : Int32) (x4 : Int32) : Option (Int32 × MS) :=
  if (ms_wayMany σ) ≤ x4 then (bd (fm_puts F σ x1 (6 : Int32) (1 : Int32)) (fun σ133 => bd (fm_puts F σ133 x1 (7 : Int32) x2) (fun σ141 => bd (fm_puts F σ141 x1 (8 : Int32) (ms_wayMany σ141)) (fun σ152 => gd (x3 = 0 ∨ x3 = 1) (some (x3, σ152)))))) else (if x3 = 0 then (bd (fm_cornerX F σ x1 x4) (fun r48 => gd (ix x4 400 = true) (if r48 = (ms_wayX σ x4.toNatClampNeg) then (bd (fm_cornerY F σ x1 x4) (fun r65 => gd (ix x4 400 = true) (if r65 = (ms_wayY σ x4.toNatClampNeg) then (fm_takes_L83 F k31 σ x1 x2 x4 (0 : Int32)) else (fm_takes_L78 F k31 σ x1 x2 x4)))) else (fm_takes_L78 F k31 σ x1 x2 x4)))) else (fm_takes_L78 F k31 σ x1 x2 x4))
def fm_takes_L31 (F : Nat) (n : Nat) (σ : MS) (x1 : Int32) (x2 : Int32) (x3 : Int32) (x4 : Int32) : Option (Int32 × MS) := lpN (fun (k : MS × Int32 × Int32 × Int32 × Int32 → Option (Int32 × MS)) a => fm_takes_L31_c F (fun σ x1 x2 x3 x4 => k (σ, x1, x2, x3, x4)) a.1 a.2.1 a.2.2.1 a.2.2.2.1 a.2.2.2.2) n (σ, x1, x2, x3, x4)
def fm_takes_L27 (F : Nat) (σ : MS) (x1 : Int32) (x2 : Int32) (s0 : Int32) : Option (Int32 × MS) :=
  fm_takes_L31 F F σ x1 x2 s0 (0 : Int32)
def fm_takes_L22 (F : Nat) (σ : MS) (x1 : Int32) (x2 : Int32) : Option (Int32 × MS) :=
  fm_takes_L27 F σ x1 x2 (1 : Int32)
def fm_takes (F : Nat) (σ : MS) (x1 : Int32) (x2 : Int32) : Option (Int32 × MS) :=
  bd (fm_hasRoute F σ x1) (fun r2 => if r2 = 0 then (fm_takes_L22 F σ x1 x2) else (bd (fm_of F σ x1 (8 : Int32)) (fun r12 => if r12 = (ms_wayMany σ) then (fm_takes_L27 F σ x1 x2 (0 : Int32)) else (fm_takes_L22 F σ x1 x2))))
set_option maxHeartbeats 4000000 in
set_option maxRecDepth 100000 in
theorem km_takes (l : Launch) (D : va_G) (cA : Nat → ClassId) (ad : Nat → Nat) (σ0 : MS) (F : Nat) (a1 : Int32) (a2 : Int32) (r : Int32) (σr : MS) (hf : fm_takes F σ0 a1 a2 = some (r, σr)) : KW l D (tyG cA) yX10_takes cX10_takes 5 (some .boolean) (rmk 2 44) (wM cA ad σ0) [.ref (ad 0), .int a1, .int a2] (some (.int r)) (wM cA ad σr) := by
  refine KW.of (by decide) (Nat.le_of_ble_eq_true rfl) ?_
  intro p e s m below meth c A hAe hA C hr hlk hK hP hD hS ls hl
  have hl : lv_has ls 5 [(0, .ref (ad 0)), (1, .int a1), (2, .int a2)] := hl
  have hB31 : ∀ (n31 : Nat) (H : Heap) (locs : List Loc) (σ : MS) (ls : Array Slot) (x1 : Int32) (x2 : Int32) (x3 : Int32) (x4 : Int32), va_P D vwCl (wM cA ad σ) H → va_D A (wM cA ad σ) → va_S A s.heap H locs → lv_has ls 5 [(0, .ref (ad 0)), (1, .int x1), (2, .int x2), (3, .int x3), (4, .int x4)] → fm_takes_L31 F n31 σ x1 x2 x3 x4 = some (r, σr) → WQ p l e 2 44 s m [.ref (ad 0), .int a1, .int a2] below meth c (some (.int r)) D (tyG cA) (wM cA ad σ0) (wM cA ad σr) A H locs (F0 m 31 ls []) := by
    intro n31
    induction n31 with
    | zero =>
      intro H locs σ ls x1 x2 x3 x4 hP hD hS hl hf
      cases (show (none : Option _) = _ from hf)
    | succ n31 ih31 =>
      have hB83 : ∀ (H : Heap) (locs : List Loc) (σ : MS) (ls : Array Slot) (x1 : Int32) (x2 : Int32) (x4 : Int32) (s0 : Int32), va_P D vwCl (wM cA ad σ) H → va_D A (wM cA ad σ) → va_S A s.heap H locs → lv_has ls 5 [(0, .ref (ad 0)), (1, .int x1), (2, .int x2), (4, .int x4)] → fm_takes_L83 F (fm_takes_L31 F n31) σ x1 x2 x4 s0 = some (r, σr) → WQ p l e 2 44 s m [.ref (ad 0), .int a1, .int a2] below meth c (some (.int r)) D (tyG cA) (wM cA ad σ0) (wM cA ad σr) A H locs (F0 m 83 ls [.int s0]) := by
        intro H locs σ ls x1 x2 x4 s0 hP hD hS hl hf
        unfold fm_takes_L83 at hf
        refine lv_istore_n (lv' := [(3, .int s0), (0, .ref (ad 0)), (1, .int x1), (2, .int x2), (4, .int x4)]) C.1 C.2.1 dX10_takes_83 rfl hl (by decide) rfl (fun ls hl => ?_)
        refine lv_aload_n C.1 C.2.1 dX10_takes_84 rfl (lv_at hl 1 rfl) ?_
        refine lv_iload_n C.1 C.2.1 dX10_takes_85 rfl (lv_at hl 2 rfl) ?_
        refine lv_bipush (v := (9 : Int32)) C.1 C.2.1 dX10_takes_86 (by decide) ?_
        refine lv_iconst (v := (2 : Int32)) C.1 C.2.1 dX10_takes_88 (by decide) ?_
        refine lv_iload C.1 C.2.1 dX10_takes_89 (lv_at hl 4 rfl) ?_
        refine lv_imul C.1 C.2.1 dX10_takes_91 ?_
        refine lv_iadd C.1 C.2.1 dX10_takes_92 ?_
        refine lv_aload_n C.1 C.2.1 dX10_takes_93 rfl (lv_at hl 1 rfl) ?_
        refine gm_wayX C hK hP dX10_takes_94 ?_
        refine lv_iload C.1 C.2.1 dX10_takes_97 (lv_at hl 4 rfl) ?_
        obtain ⟨hi99, hf⟩ := gd_some hf
        refine lm_wayX C hK hP hi99 dX10_takes_99 ?_
        obtain ⟨σ100, hc100, hf⟩ := bd_some hf
        refine callWV (As := [_, _, _]) C hK hP hD hA hS wv_X10_107 hl (km_puts l D cA ad _ F _ _ _ σ100 hc100) (rcM hK hP) rfl rfl rfl (Nat.le_of_ble_eq_true rfl) ⟨Nat.le_refl _, Nat.le_refl _⟩ dX10_takes_100 (fun H locs hP hD hS => ?_)
        refine lv_aload_n C.1 C.2.1 dX10_takes_103 rfl (lv_at hl 1 rfl) ?_
        refine lv_iload_n C.1 C.2.1 dX10_takes_104 rfl (lv_at hl 2 rfl) ?_
        refine lv_bipush (v := (10 : Int32)) C.1 C.2.1 dX10_takes_105 (by decide) ?_
        refine lv_iconst (v := (2 : Int32)) C.1 C.2.1 dX10_takes_107 (by decide) ?_
        refine lv_iload C.1 C.2.1 dX10_takes_108 (lv_at hl 4 rfl) ?_
        refine lv_imul C.1 C.2.1 dX10_takes_110 ?_
        refine lv_iadd C.1 C.2.1 dX10_takes_111 ?_
        refine lv_aload_n C.1 C.2.1 dX10_takes_112 rfl (lv_at hl 1 rfl) ?_
        refine gm_wayY C hK hP dX10_takes_113 ?_
        refine lv_iload C.1 C.2.1 dX10_takes_116 (lv_at hl 4 rfl) ?_
        obtain ⟨hi118, hf⟩ := gd_some hf
        refine lm_wayY C hK hP hi118 dX10_takes_118 ?_
        obtain ⟨σ119, hc119, hf⟩ := bd_some hf
        refine callWV (As := [_, _, _]) C hK hP hD hA hS wv_X10_107 hl (km_puts l D cA ad _ F _ _ _ σ119 hc119) (rcM hK hP) rfl rfl rfl (Nat.le_of_ble_eq_true rfl) ⟨Nat.le_refl _, Nat.le_refl _⟩ dX10_takes_119 (fun H locs hP hD hS => ?_)
        obtain ⟨x4_122, ex4_122, hf⟩ := lt_some hf
        refine lv_iinc (v := x4_122) (lv' := [(4, .int x4_122), (3, .int s0), (0, .ref (ad 0)), (1, .int x1), (2, .int x2)]) C.1 C.2.1 dX10_takes_122 hl (k := 4) rfl (by rw [ex4_122]; rfl) (by decide) rfl (fun ls hl => ?_)
        refine lv_goto (tgt := 31) C.1 C.2.1 dX10_takes_125 (by decide) ?_
        exact ih31 _ _ _ ls _ _ _ _ hP hD hS (lv_sub hl [2, 3, 4, 1, 0] rfl) hf
      have hB78 : ∀ (H : Heap) (locs : List Loc) (σ : MS) (ls : Array Slot) (x1 : Int32) (x2 : Int32) (x4 : Int32), va_P D vwCl (wM cA ad σ) H → va_D A (wM cA ad σ) → va_S A s.heap H locs → lv_has ls 5 [(0, .ref (ad 0)), (1, .int x1), (2, .int x2), (4, .int x4)] → fm_takes_L78 F (fm_takes_L31 F n31) σ x1 x2 x4 = some (r, σr) → WQ p l e 2 44 s m [.ref (ad 0), .int a1, .int a2] below meth c (some (.int r)) D (tyG cA) (wM cA ad σ0) (wM cA ad σr) A H locs (F0 m 78 ls []) := by
        intro H locs σ ls x1 x2 x4 hP hD hS hl hf
        unfold fm_takes_L78 at hf
        refine lv_iconst (v := (1 : Int32)) C.1 C.2.1 dX10_takes_78 (by decide) ?_
        refine lv_goto (tgt := 83) C.1 C.2.1 dX10_takes_79 (by decide) ?_
        exact hB83 _ _ _ ls _ _ _ _ hP hD hS (lv_sub hl [0, 1, 2, 3] rfl) hf
      intro H locs σ ls x1 x2 x3 x4 hP hD hS hl hf
      have hf : fm_takes_L31_c F (fm_takes_L31 F n31) σ x1 x2 x3 x4 = some (r, σr) := hf
      unfold fm_takes_L31_c at hf
      refine lv_iload C.1 C.2.1 dX10_takes_31 (lv_at hl 4 rfl) ?_
      refine lv_aload_n C.1 C.2.1 dX10_takes_33 rfl (lv_at hl 0 rfl) ?_
      refine gm_wayMany C hK hP dX10_takes_34 ?_
      refine lv_icmp_ge (tgt := 128) C.1 C.2.1 dX10_takes_37 (by decide) (fun c37 => ?_) (fun c37 => ?_)
      · have hf := br_p c37 hf
        refine lv_aload_n C.1 C.2.1 dX10_takes_128 rfl (lv_at hl 0 rfl) ?_
        refine lv_iload_n C.1 C.2.1 dX10_takes_129 rfl (lv_at hl 1 rfl) ?_
        refine lv_bipush (v := (6 : Int32)) C.1 C.2.1 dX10_takes_130 (by decide) ?_
        refine lv_iconst (v := (1 : Int32)) C.1 C.2.1 dX10_takes_132 (by decide) ?_
        obtain ⟨σ133, hc133, hf⟩ := bd_some hf
        refine callWV (As := [_, _, _]) C hK hP hD hA hS wv_X10_107 hl (km_puts l D cA ad _ F _ _ _ σ133 hc133) (rcM hK hP) rfl rfl rfl (Nat.le_of_ble_eq_true rfl) ⟨Nat.le_refl _, Nat.le_refl _⟩ dX10_takes_133 (fun H locs hP hD hS => ?_)
        refine lv_aload_n C.1 C.2.1 dX10_takes_136 rfl (lv_at hl 0 rfl) ?_
        refine lv_iload_n C.1 C.2.1 dX10_takes_137 rfl (lv_at hl 1 rfl) ?_
        refine lv_bipush (v := (7 : Int32)) C.1 C.2.1 dX10_takes_138 (by decide) ?_
        refine lv_iload_n C.1 C.2.1 dX10_takes_140 rfl (lv_at hl 2 rfl) ?_
        obtain ⟨σ141, hc141, hf⟩ := bd_some hf
        refine callWV (As := [_, _, _]) C hK hP hD hA hS wv_X10_107 hl (km_puts l D cA ad _ F _ _ _ σ141 hc141) (rcM hK hP) rfl rfl rfl (Nat.le_of_ble_eq_true rfl) ⟨Nat.le_refl _, Nat.le_refl _⟩ dX10_takes_141 (fun H locs hP hD hS => ?_)
        refine lv_aload_n C.1 C.2.1 dX10_takes_144 rfl (lv_at hl 0 rfl) ?_
        refine lv_iload_n C.1 C.2.1 dX10_takes_145 rfl (lv_at hl 1 rfl) ?_
        refine lv_bipush (v := (8 : Int32)) C.1 C.2.1 dX10_takes_146 (by decide) ?_
        refine lv_aload_n C.1 C.2.1 dX10_takes_148 rfl (lv_at hl 0 rfl) ?_
        refine gm_wayMany C hK hP dX10_takes_149 ?_
        obtain ⟨σ152, hc152, hf⟩ := bd_some hf
        refine callWV (As := [_, _, _]) C hK hP hD hA hS wv_X10_107 hl (km_puts l D cA ad _ F _ _ _ σ152 hc152) (rcM hK hP) rfl rfl rfl (Nat.le_of_ble_eq_true rfl) ⟨Nat.le_refl _, Nat.le_refl _⟩ dX10_takes_152 (fun H locs hP hD hS => ?_)
        refine lv_iload_n C.1 C.2.1 dX10_takes_155 rfl (lv_at hl 3 rfl) ?_
        obtain ⟨hz156, hf⟩ := gd_some hf
        obtain ⟨rfl, rfl⟩ := Prod.mk.inj (Option.some.inj hf)
        exact KW.zret C hr hlk hK hAe hP hD hS hz156 rfl dX10_takes_156
      · have hf := br_n c37 hf
        refine lv_iload_n C.1 C.2.1 dX10_takes_40 rfl (lv_at hl 3 rfl) ?_
        refine lv_if_ne (tgt := 78) C.1 C.2.1 dX10_takes_41 (by decide) (fun c41 => ?_) (fun c41 => ?_)
        · have hf := br_n c41 hf
          exact hB78 _ _ _ ls _ _ _ hP hD hS (lv_sub hl [0, 1, 2, 4] rfl) hf
        · have hf := br_p c41 hf
          refine lv_aload_n C.1 C.2.1 dX10_takes_44 rfl (lv_at hl 0 rfl) ?_
          refine lv_iload_n C.1 C.2.1 dX10_takes_45 rfl (lv_at hl 1 rfl) ?_
          refine lv_iload C.1 C.2.1 dX10_takes_46 (lv_at hl 4 rfl) ?_
          obtain ⟨r48, hc48, hf⟩ := bd_some hf
          refine callRV (As := [_, _]) C hK hP wv_X10_117 hl (km_cornerX l D cA ad _ F _ _ r48 hc48) (rcM hK hP) rfl rfl rfl (Nat.le_of_ble_eq_true rfl) ⟨Nat.le_refl _, Nat.le_refl _⟩ dX10_takes_48 ?_
          refine lv_aload_n C.1 C.2.1 dX10_takes_51 rfl (lv_at hl 0 rfl) ?_
          refine gm_wayX C hK hP dX10_takes_52 ?_
          refine lv_iload C.1 C.2.1 dX10_takes_55 (lv_at hl 4 rfl) ?_
          obtain ⟨hi57, hf⟩ := gd_some hf
          refine lm_wayX C hK hP hi57 dX10_takes_57 ?_
          refine lv_icmp_ne (tgt := 78) C.1 C.2.1 dX10_takes_58 (by decide) (fun c58 => ?_) (fun c58 => ?_)
          · have hf := br_n c58 hf
            exact hB78 _ _ _ ls _ _ _ hP hD hS (lv_sub hl [0, 1, 2, 4] rfl) hf
          · have hf := br_p c58 hf
            refine lv_aload_n C.1 C.2.1 dX10_takes_61 rfl (lv_at hl 0 rfl) ?_
            refine lv_iload_n C.1 C.2.1 dX10_takes_62 rfl (lv_at hl 1 rfl) ?_
            refine lv_iload C.1 C.2.1 dX10_takes_63 (lv_at hl 4 rfl) ?_
            obtain ⟨r65, hc65, hf⟩ := bd_some hf
            refine callRV (As := [_, _]) C hK hP wv_X10_124 hl (km_cornerY l D cA ad _ F _ _ r65 hc65) (rcM hK hP) rfl rfl rfl (Nat.le_of_ble_eq_true rfl) ⟨Nat.le_refl _, Nat.le_refl _⟩ dX10_takes_65 ?_
            refine lv_aload_n C.1 C.2.1 dX10_takes_68 rfl (lv_at hl 0 rfl) ?_
            refine gm_wayY C hK hP dX10_takes_69 ?_
            refine lv_iload C.1 C.2.1 dX10_takes_72 (lv_at hl 4 rfl) ?_
            obtain ⟨hi74, hf⟩ := gd_some hf
            refine lm_wayY C hK hP hi74 dX10_takes_74 ?_
            refine lv_icmp_eq (tgt := 82) C.1 C.2.1 dX10_takes_75 (by decide) (fun c75 => ?_) (fun c75 => ?_)
            · have hf := br_p c75 hf
              refine lv_iconst (v := (0 : Int32)) C.1 C.2.1 dX10_takes_82 (by decide) ?_
              exact hB83 _ _ _ ls _ _ _ _ hP hD hS (lv_sub hl [0, 1, 2, 4] rfl) hf
            · have hf := br_n c75 hf
              exact hB78 _ _ _ ls _ _ _ hP hD hS (lv_sub hl [0, 1, 2, 4] rfl) hf
  have hB27 : ∀ (H : Heap) (locs : List Loc) (σ : MS) (ls : Array Slot) (x1 : Int32) (x2 : Int32) (s0 : Int32), va_P D vwCl (wM cA ad σ) H → va_D A (wM cA ad σ) → va_S A s.heap H locs → lv_has ls 5 [(0, .ref (ad 0)), (1, .int x1), (2, .int x2)] → fm_takes_L27 F σ x1 x2 s0 = some (r, σr) → WQ p l e 2 44 s m [.ref (ad 0), .int a1, .int a2] below meth c (some (.int r)) D (tyG cA) (wM cA ad σ0) (wM cA ad σr) A H locs (F0 m 27 ls [.int s0]) := by
    intro H locs σ ls x1 x2 s0 hP hD hS hl hf
    unfold fm_takes_L27 at hf
    refine lv_istore_n (lv' := [(3, .int s0), (0, .ref (ad 0)), (1, .int x1), (2, .int x2)]) C.1 C.2.1 dX10_takes_27 rfl hl (by decide) rfl (fun ls hl => ?_)
    refine lv_iconst (v := (0 : Int32)) C.1 C.2.1 dX10_takes_28 (by decide) ?_
    refine lv_istore (lv' := [(4, .int (0 : Int32)), (3, .int s0), (0, .ref (ad 0)), (1, .int x1), (2, .int x2)]) C.1 C.2.1 dX10_takes_29 hl (by decide) rfl (fun ls hl => ?_)
    exact hB31 F _ _ _ ls _ _ _ _ hP hD hS (lv_sub hl [2, 3, 4, 1, 0] rfl) hf
  have hB22 : ∀ (H : Heap) (locs : List Loc) (σ : MS) (ls : Array Slot) (x1 : Int32) (x2 : Int32), va_P D vwCl (wM cA ad σ) H → va_D A (wM cA ad σ) → va_S A s.heap H locs → lv_has ls 5 [(0, .ref (ad 0)), (1, .int x1), (2, .int x2)] → fm_takes_L22 F σ x1 x2 = some (r, σr) → WQ p l e 2 44 s m [.ref (ad 0), .int a1, .int a2] below meth c (some (.int r)) D (tyG cA) (wM cA ad σ0) (wM cA ad σr) A H locs (F0 m 22 ls []) := by
    intro H locs σ ls x1 x2 hP hD hS hl hf
    unfold fm_takes_L22 at hf
    refine lv_iconst (v := (1 : Int32)) C.1 C.2.1 dX10_takes_22 (by decide) ?_
    refine lv_goto (tgt := 27) C.1 C.2.1 dX10_takes_23 (by decide) ?_
    exact hB27 _ _ _ ls _ _ _ hP hD hS (lv_sub hl [0, 1, 2] rfl) hf
  unfold fm_takes at hf
  refine lv_aload_n C.1 C.2.1 dX10_takes_0 rfl (lv_at hl 0 rfl) ?_
  refine lv_iload_n C.1 C.2.1 dX10_takes_1 rfl (lv_at hl 1 rfl) ?_
  obtain ⟨r2, hc2, hf⟩ := bd_some hf
  refine callRV (As := [_]) C hK hP wv_X10_114 hl (km_hasRoute l D cA ad _ F _ r2 hc2) (rcM hK hP) rfl rfl rfl (Nat.le_of_ble_eq_true rfl) ⟨Nat.le_refl _, Nat.le_refl _⟩ dX10_takes_2 ?_
  refine lv_if_eq (tgt := 22) C.1 C.2.1 dX10_takes_5 (by decide) (fun c5 => ?_) (fun c5 => ?_)
  · have hf := br_p c5 hf
    exact hB22 _ _ _ ls _ _ hP hD hS (lv_sub hl [0, 1, 2] rfl) hf
  · have hf := br_n c5 hf
    refine lv_aload_n C.1 C.2.1 dX10_takes_8 rfl (lv_at hl 0 rfl) ?_
    refine lv_iload_n C.1 C.2.1 dX10_takes_9 rfl (lv_at hl 1 rfl) ?_
    refine lv_bipush (v := (8 : Int32)) C.1 C.2.1 dX10_takes_10 (by decide) ?_
    obtain ⟨r12, hc12, hf⟩ := bd_some hf
    refine callRV (As := [_, _]) C hK hP wv_X10_95 hl (km_of l D cA ad _ F _ _ r12 hc12) (rcM hK hP) rfl rfl rfl (Nat.le_of_ble_eq_true rfl) ⟨Nat.le_refl _, Nat.le_refl _⟩ dX10_takes_12 ?_
    refine lv_aload_n C.1 C.2.1 dX10_takes_15 rfl (lv_at hl 0 rfl) ?_
    refine gm_wayMany C hK hP dX10_takes_16 ?_
    refine lv_icmp_eq (tgt := 26) C.1 C.2.1 dX10_takes_19 (by decide) (fun c19 => ?_) (fun c19 => ?_)
    · have hf := br_p c19 hf
      refine lv_iconst (v := (0 : Int32)) C.1 C.2.1 dX10_takes_26 (by decide) ?_
      exact hB27 _ _ _ ls _ _ _ hP hD hS (lv_sub hl [0, 1, 2] rfl) hf
    · have hf := br_n c19 hf
      exact hB22 _ _ _ ls _ _ hP hD hS (lv_sub hl [0, 1, 2] rfl) hf
def fm_route_L43 (F : Nat) (σ : MS) (x2 : Int32) (s0 : Int32) : Option (Int32 × MS) :=
  some (x2, σ)
def fm_route_L42 (F : Nat) (σ : MS) (x2 : Int32) : Option (Int32 × MS) :=
  fm_route_L43 F σ x2 (0 : Int32)
def fm_route (F : Nat) (σ : MS) (x1 : Int32) : Option (Int32 × MS) :=
  bd (fm_isLink F σ x1) (fun r2 => if r2 = 0 then (some ((-1001 : Int32), σ)) else (bd (fm_records F σ) (fun σ13 => bd2 (fm_finds F σ13 x1) (fun r18 σ18 => if r18 = (-1000 : Int32) then (fm_route_L42 F σ18 r18) else (bd2 (fm_takes F σ18 x1 r18) (fun r32 σ32 => if r32 = 0 then (fm_route_L42 F σ32 r18) else (fm_route_L43 F σ32 r18 (1 : Int32))))))))
set_option maxHeartbeats 4000000 in
set_option maxRecDepth 100000 in
theorem km_route (l : Launch) (D : va_G) (cA : Nat → ClassId) (ad : Nat → Nat) (σ0 : MS) (F : Nat) (a1 : Int32) (r : Int32) (σr : MS) (hf : fm_route F σ0 a1 = some (r, σr)) : KW l D (tyG cA) yX10_route cX10_route 4 (some .int) (rmk 6 150) (wM cA ad σ0) [.ref (ad 0), .int a1] (some (.int r)) (wM cA ad σr) := by
  refine KW.of (by decide) (Nat.le_of_ble_eq_true rfl) ?_
  intro p e s m below meth c A hAe hA C hr hlk hK hP hD hS ls hl
  have hl : lv_has ls 4 [(0, .ref (ad 0)), (1, .int a1)] := hl
  have hB43 : ∀ (H : Heap) (locs : List Loc) (σ : MS) (ls : Array Slot) (x2 : Int32) (s0 : Int32), va_P D vwCl (wM cA ad σ) H → va_D A (wM cA ad σ) → va_S A s.heap H locs → lv_has ls 4 [(0, .ref (ad 0)), (2, .int x2)] → fm_route_L43 F σ x2 s0 = some (r, σr) → WQ p l e 6 150 s m [.ref (ad 0), .int a1] below meth c (some (.int r)) D (tyG cA) (wM cA ad σ0) (wM cA ad σr) A H locs (F0 m 43 ls [.int s0]) := by
    intro H locs σ ls x2 s0 hP hD hS hl hf
    unfold fm_route_L43 at hf
    refine lv_istore_n (lv' := [(3, .int s0), (0, .ref (ad 0)), (2, .int x2)]) C.1 C.2.1 dX10_route_43 rfl hl (by decide) rfl (fun ls hl => ?_)
    refine lv_iload_n C.1 C.2.1 dX10_route_44 rfl (lv_at hl 2 rfl) ?_
    obtain ⟨rfl, rfl⟩ := Prod.mk.inj (Option.some.inj hf)
    exact KW.iret C hr hlk hK hAe hP hD hS rfl dX10_route_45
  have hB42 : ∀ (H : Heap) (locs : List Loc) (σ : MS) (ls : Array Slot) (x2 : Int32), va_P D vwCl (wM cA ad σ) H → va_D A (wM cA ad σ) → va_S A s.heap H locs → lv_has ls 4 [(0, .ref (ad 0)), (2, .int x2)] → fm_route_L42 F σ x2 = some (r, σr) → WQ p l e 6 150 s m [.ref (ad 0), .int a1] below meth c (some (.int r)) D (tyG cA) (wM cA ad σ0) (wM cA ad σr) A H locs (F0 m 42 ls []) := by
    intro H locs σ ls x2 hP hD hS hl hf
    unfold fm_route_L42 at hf
    refine lv_iconst (v := (0 : Int32)) C.1 C.2.1 dX10_route_42 (by decide) ?_
    exact hB43 _ _ _ ls _ _ hP hD hS (lv_sub hl [0, 1] rfl) hf
  unfold fm_route at hf
  refine lv_aload_n C.1 C.2.1 dX10_route_0 rfl (lv_at hl 0 rfl) ?_
  refine lv_iload_n C.1 C.2.1 dX10_route_1 rfl (lv_at hl 1 rfl) ?_
  obtain ⟨r2, hc2, hf⟩ := bd_some hf
  refine callRV (As := [_]) C hK hP wv_X10_111 hl (km_isLink l D cA ad _ F _ r2 hc2) (rcM hK hP) rfl rfl rfl (Nat.le_of_ble_eq_true rfl) ⟨Nat.le_refl _, Nat.le_refl _⟩ dX10_route_2 ?_
  refine lv_if_ne (tgt := 12) C.1 C.2.1 dX10_route_5 (by decide) (fun c5 => ?_) (fun c5 => ?_)
  · have hf := br_n c5 hf
    refine lv_aload_n C.1 C.2.1 dX10_route_12 rfl (lv_at hl 0 rfl) ?_
    obtain ⟨σ13, hc13, hf⟩ := bd_some hf
    refine callWV (As := []) C hK hP hD hA hS wv_X10_84 hl (km_records l D cA ad _ F σ13 hc13) (rcM hK hP) rfl rfl rfl (Nat.le_of_ble_eq_true rfl) ⟨Nat.le_refl _, Nat.le_refl _⟩ dX10_route_13 (fun H locs hP hD hS => ?_)
    refine lv_aload_n C.1 C.2.1 dX10_route_16 rfl (lv_at hl 0 rfl) ?_
    refine lv_iload_n C.1 C.2.1 dX10_route_17 rfl (lv_at hl 1 rfl) ?_
    obtain ⟨r18, σ18, hc18, hf⟩ := bd2_some hf
    refine callWV (As := [_]) C hK hP hD hA hS wv_X10_185 hl (km_finds l D cA ad _ F _ r18 σ18 hc18) (rcM hK hP) rfl rfl rfl (Nat.le_of_ble_eq_true rfl) ⟨Nat.le_refl _, Nat.le_refl _⟩ dX10_route_18 (fun H locs hP hD hS => ?_)
    refine lv_istore_n (lv' := [(2, .int r18), (0, .ref (ad 0)), (1, .int a1)]) C.1 C.2.1 dX10_route_21 rfl hl (by decide) rfl (fun ls hl => ?_)
    refine lv_iload_n C.1 C.2.1 dX10_route_22 rfl (lv_at hl 0 rfl) ?_
    refine lv_sipush (v := (-1000 : Int32)) C.1 C.2.1 dX10_route_23 (by decide) ?_
    refine lv_icmp_eq (tgt := 42) C.1 C.2.1 dX10_route_26 (by decide) (fun c26 => ?_) (fun c26 => ?_)
    · have hf := br_p c26 hf
      exact hB42 _ _ _ ls _ hP hD hS (lv_sub hl [1, 0] rfl) hf
    · have hf := br_n c26 hf
      refine lv_aload_n C.1 C.2.1 dX10_route_29 rfl (lv_at hl 1 rfl) ?_
      refine lv_iload_n C.1 C.2.1 dX10_route_30 rfl (lv_at hl 2 rfl) ?_
      refine lv_iload_n C.1 C.2.1 dX10_route_31 rfl (lv_at hl 0 rfl) ?_
      obtain ⟨r32, σ32, hc32, hf⟩ := bd2_some hf
      refine callWV (As := [_, _]) C hK hP hD hA hS wv_X10_188 hl (km_takes l D cA ad _ F _ _ r32 σ32 hc32) (rcM hK hP) rfl rfl rfl (Nat.le_of_ble_eq_true rfl) ⟨Nat.le_refl _, Nat.le_refl _⟩ dX10_route_32 (fun H locs hP hD hS => ?_)
      refine lv_if_eq (tgt := 42) C.1 C.2.1 dX10_route_35 (by decide) (fun c35 => ?_) (fun c35 => ?_)
      · have hf := br_p c35 hf
        exact hB42 _ _ _ ls _ hP hD hS (lv_sub hl [1, 0] rfl) hf
      · have hf := br_n c35 hf
        refine lv_iconst (v := (1 : Int32)) C.1 C.2.1 dX10_route_38 (by decide) ?_
        refine lv_goto (tgt := 43) C.1 C.2.1 dX10_route_39 (by decide) ?_
        exact hB43 _ _ _ ls _ _ hP hD hS (lv_sub hl [1, 0] rfl) hf
  · have hf := br_p c5 hf
    refine lv_sipush (v := (-1001 : Int32)) C.1 C.2.1 dX10_route_8 (by decide) ?_
    obtain ⟨rfl, rfl⟩ := Prod.mk.inj (Option.some.inj hf)
    exact KW.iret C hr hlk hK hAe hP hD hS rfl dX10_route_11
def fm_routeAll_L46 (F : Nat) (k8 : MS → Int32 → Int32 → Option (Int32 × MS)) (σ : MS) (x2 : Int32) (s0 : Int32) (s1 : Int32) : Option (Int32 × MS) :=
  lt (s1 + s0) (fun x1_47 => lt (x2 + (1 : Int32)) (fun x2_48 => k8 σ x1_47 x2_48))
def fm_routeAll_L45 (F : Nat) (k8 : MS → Int32 → Int32 → Option (Int32 × MS)) (σ : MS) (x2 : Int32) (s0 : Int32) : Option (Int32 × MS) :=
  fm_routeAll_L46 F k8 σ x2 (0 : Int32) s0
def fm_routeAll_L8_c (F : Nat) (k8 : MS → Int32 → Int32 → Option (Int32 × MS)) (σ : MS) (x1 : Int32) (x2 : Int32) : Option (Int32 × MS) :=
  gd (ix (1 : Int32) 8625 = true) (if (ms_row σ (1 : Int32).toNatClampNeg) ≤ x2 then (some (x1, σ)) else (bd2 (fm_finds F σ x2) (fun r20 σ20 => if r20 = (-1000 : Int32) then (fm_routeAll_L45 F k8 σ20 x2 x1) else (bd2 (fm_takes F σ20 x2 r20) (fun r35 σ35 => if r35 = 0 then (fm_routeAll_L45 F k8 σ35 x2 x1) else (fm_routeAll_L46 F k8 σ35 x2 (1 : Int32) x1))))))
def fm_routeAll_L8 (F : Nat) (n : Nat) (σ : MS) (x1 : Int32) (x2 : Int32) : Option (Int32 × MS) := lpN (fun (k : MS × Int32 × Int32 → Option (Int32 × MS)) a => fm_routeAll_L8_c F (fun σ x1 x2 => k (σ, x1, x2)) a.1 a.2.1 a.2.2) n (σ, x1, x2)
def fm_routeAll (F : Nat) (σ : MS) : Option (Int32 × MS) :=
  bd (fm_records F σ) (fun σ1 => fm_routeAll_L8 F F σ1 (0 : Int32) (0 : Int32))
set_option maxHeartbeats 4000000 in
set_option maxRecDepth 100000 in
theorem km_routeAll (l : Launch) (D : va_G) (cA : Nat → ClassId) (ad : Nat → Nat) (σ0 : MS) (F : Nat)  (r : Int32) (σr : MS) (hf : fm_routeAll F σ0  = some (r, σr)) : KW l D (tyG cA) yX10_routeAll cX10_routeAll 4 (some .int) (rmk 6 150) (wM cA ad σ0) [.ref (ad 0)] (some (.int r)) (wM cA ad σr) := by
  refine KW.of (by decide) (Nat.le_of_ble_eq_true rfl) ?_
  intro p e s m below meth c A hAe hA C hr hlk hK hP hD hS ls hl
  have hl : lv_has ls 4 [(0, .ref (ad 0))] := hl
  have hB8 : ∀ (n8 : Nat) (H : Heap) (locs : List Loc) (σ : MS) (ls : Array Slot) (x1 : Int32) (x2 : Int32), va_P D vwCl (wM cA ad σ) H → va_D A (wM cA ad σ) → va_S A s.heap H locs → lv_has ls 4 [(0, .ref (ad 0)), (1, .int x1), (2, .int x2)] → fm_routeAll_L8 F n8 σ x1 x2 = some (r, σr) → WQ p l e 6 150 s m [.ref (ad 0)] below meth c (some (.int r)) D (tyG cA) (wM cA ad σ0) (wM cA ad σr) A H locs (F0 m 8 ls []) := by
    intro n8
    induction n8 with
    | zero =>
      intro H locs σ ls x1 x2 hP hD hS hl hf
      cases (show (none : Option _) = _ from hf)
    | succ n8 ih8 =>
      have hB46 : ∀ (H : Heap) (locs : List Loc) (σ : MS) (ls : Array Slot) (x2 : Int32) (s0 : Int32) (s1 : Int32), va_P D vwCl (wM cA ad σ) H → va_D A (wM cA ad σ) → va_S A s.heap H locs → lv_has ls 4 [(0, .ref (ad 0)), (2, .int x2)] → fm_routeAll_L46 F (fm_routeAll_L8 F n8) σ x2 s0 s1 = some (r, σr) → WQ p l e 6 150 s m [.ref (ad 0)] below meth c (some (.int r)) D (tyG cA) (wM cA ad σ0) (wM cA ad σr) A H locs (F0 m 46 ls [.int s0, .int s1]) := by
        intro H locs σ ls x2 s0 s1 hP hD hS hl hf
        unfold fm_routeAll_L46 at hf
        refine lv_iadd C.1 C.2.1 dX10_routeAll_46 ?_
        obtain ⟨x1_47, ex1_47, hf⟩ := lt_some hf
        refine lv_tope ex1_47 ?_
        refine lv_istore_n (lv' := [(1, .int x1_47), (0, .ref (ad 0)), (2, .int x2)]) C.1 C.2.1 dX10_routeAll_47 rfl hl (by decide) rfl (fun ls hl => ?_)
        obtain ⟨x2_48, ex2_48, hf⟩ := lt_some hf
        refine lv_iinc (v := x2_48) (lv' := [(2, .int x2_48), (1, .int x1_47), (0, .ref (ad 0))]) C.1 C.2.1 dX10_routeAll_48 hl (k := 2) rfl (by rw [ex2_48]; rfl) (by decide) rfl (fun ls hl => ?_)
        refine lv_goto (tgt := 8) C.1 C.2.1 dX10_routeAll_51 (by decide) ?_
        exact ih8 _ _ _ ls _ _ hP hD hS (lv_sub hl [2, 1, 0] rfl) hf
      have hB45 : ∀ (H : Heap) (locs : List Loc) (σ : MS) (ls : Array Slot) (x2 : Int32) (s0 : Int32), va_P D vwCl (wM cA ad σ) H → va_D A (wM cA ad σ) → va_S A s.heap H locs → lv_has ls 4 [(0, .ref (ad 0)), (2, .int x2)] → fm_routeAll_L45 F (fm_routeAll_L8 F n8) σ x2 s0 = some (r, σr) → WQ p l e 6 150 s m [.ref (ad 0)] below meth c (some (.int r)) D (tyG cA) (wM cA ad σ0) (wM cA ad σr) A H locs (F0 m 45 ls [.int s0]) := by
        intro H locs σ ls x2 s0 hP hD hS hl hf
        unfold fm_routeAll_L45 at hf
        refine lv_iconst (v := (0 : Int32)) C.1 C.2.1 dX10_routeAll_45 (by decide) ?_
        exact hB46 _ _ _ ls _ _ _ hP hD hS (lv_sub hl [0, 1] rfl) hf
      intro H locs σ ls x1 x2 hP hD hS hl hf
      have hf : fm_routeAll_L8_c F (fm_routeAll_L8 F n8) σ x1 x2 = some (r, σr) := hf
      unfold fm_routeAll_L8_c at hf
      refine lv_iload_n C.1 C.2.1 dX10_routeAll_8 rfl (lv_at hl 2 rfl) ?_
      refine lv_aload_n C.1 C.2.1 dX10_routeAll_9 rfl (lv_at hl 0 rfl) ?_
      refine gm_row C hK hP dX10_routeAll_10 ?_
      refine lv_iconst (v := (1 : Int32)) C.1 C.2.1 dX10_routeAll_13 (by decide) ?_
      obtain ⟨hi14, hf⟩ := gd_some hf
      refine lm_row C hK hP hi14 dX10_routeAll_14 ?_
      refine lv_icmp_ge (tgt := 54) C.1 C.2.1 dX10_routeAll_15 (by decide) (fun c15 => ?_) (fun c15 => ?_)
      · have hf := br_p c15 hf
        refine lv_iload_n C.1 C.2.1 dX10_routeAll_54 rfl (lv_at hl 1 rfl) ?_
        obtain ⟨rfl, rfl⟩ := Prod.mk.inj (Option.some.inj hf)
        exact KW.iret C hr hlk hK hAe hP hD hS rfl dX10_routeAll_55
      · have hf := br_n c15 hf
        refine lv_aload_n C.1 C.2.1 dX10_routeAll_18 rfl (lv_at hl 0 rfl) ?_
        refine lv_iload_n C.1 C.2.1 dX10_routeAll_19 rfl (lv_at hl 2 rfl) ?_
        obtain ⟨r20, σ20, hc20, hf⟩ := bd2_some hf
        refine callWV (As := [_]) C hK hP hD hA hS wv_X10_185 hl (km_finds l D cA ad _ F _ r20 σ20 hc20) (rcM hK hP) rfl rfl rfl (Nat.le_of_ble_eq_true rfl) ⟨Nat.le_refl _, Nat.le_refl _⟩ dX10_routeAll_20 (fun H locs hP hD hS => ?_)
        refine lv_istore_n (lv' := [(3, .int r20), (0, .ref (ad 0)), (1, .int x1), (2, .int x2)]) C.1 C.2.1 dX10_routeAll_23 rfl hl (by decide) rfl (fun ls hl => ?_)
        refine lv_iload_n C.1 C.2.1 dX10_routeAll_24 rfl (lv_at hl 2 rfl) ?_
        refine lv_iload_n C.1 C.2.1 dX10_routeAll_25 rfl (lv_at hl 0 rfl) ?_
        refine lv_sipush (v := (-1000 : Int32)) C.1 C.2.1 dX10_routeAll_26 (by decide) ?_
        refine lv_icmp_eq (tgt := 45) C.1 C.2.1 dX10_routeAll_29 (by decide) (fun c29 => ?_) (fun c29 => ?_)
        · have hf := br_p c29 hf
          exact hB45 _ _ _ ls _ _ hP hD hS (lv_sub hl [1, 3] rfl) hf
        · have hf := br_n c29 hf
          refine lv_aload_n C.1 C.2.1 dX10_routeAll_32 rfl (lv_at hl 1 rfl) ?_
          refine lv_iload_n C.1 C.2.1 dX10_routeAll_33 rfl (lv_at hl 3 rfl) ?_
          refine lv_iload_n C.1 C.2.1 dX10_routeAll_34 rfl (lv_at hl 0 rfl) ?_
          obtain ⟨r35, σ35, hc35, hf⟩ := bd2_some hf
          refine callWV (As := [_, _]) C hK hP hD hA hS wv_X10_188 hl (km_takes l D cA ad _ F _ _ r35 σ35 hc35) (rcM hK hP) rfl rfl rfl (Nat.le_of_ble_eq_true rfl) ⟨Nat.le_refl _, Nat.le_refl _⟩ dX10_routeAll_35 (fun H locs hP hD hS => ?_)
          refine lv_if_eq (tgt := 45) C.1 C.2.1 dX10_routeAll_38 (by decide) (fun c38 => ?_) (fun c38 => ?_)
          · have hf := br_p c38 hf
            exact hB45 _ _ _ ls _ _ hP hD hS (lv_sub hl [1, 3] rfl) hf
          · have hf := br_n c38 hf
            refine lv_iconst (v := (1 : Int32)) C.1 C.2.1 dX10_routeAll_41 (by decide) ?_
            refine lv_goto (tgt := 46) C.1 C.2.1 dX10_routeAll_42 (by decide) ?_
            exact hB46 _ _ _ ls _ _ _ hP hD hS (lv_sub hl [1, 3] rfl) hf
  unfold fm_routeAll at hf
  refine lv_aload_n C.1 C.2.1 dX10_routeAll_0 rfl (lv_at hl 0 rfl) ?_
  obtain ⟨σ1, hc1, hf⟩ := bd_some hf
  refine callWV (As := []) C hK hP hD hA hS wv_X10_84 hl (km_records l D cA ad _ F σ1 hc1) (rcM hK hP) rfl rfl rfl (Nat.le_of_ble_eq_true rfl) ⟨Nat.le_refl _, Nat.le_refl _⟩ dX10_routeAll_1 (fun H locs hP hD hS => ?_)
  refine lv_iconst (v := (0 : Int32)) C.1 C.2.1 dX10_routeAll_4 (by decide) ?_
  refine lv_istore_n (lv' := [(1, .int (0 : Int32)), (0, .ref (ad 0))]) C.1 C.2.1 dX10_routeAll_5 rfl hl (by decide) rfl (fun ls hl => ?_)
  refine lv_iconst (v := (0 : Int32)) C.1 C.2.1 dX10_routeAll_6 (by decide) ?_
  refine lv_istore_n (lv' := [(2, .int (0 : Int32)), (1, .int (0 : Int32)), (0, .ref (ad 0))]) C.1 C.2.1 dX10_routeAll_7 rfl hl (by decide) rfl (fun ls hl => ?_)
  exact hB8 F _ _ _ ls _ _ hP hD hS (lv_sub hl [2, 1, 0] rfl) hf
def fm_routesThose_L78 (F : Nat) (k8 : MS → Int32 → Int32 → Int32 → Option (Int32 × MS)) (σ : MS) (x1 : Int32) (x2 : Int32) (x3 : Int32) : Option (Int32 × MS) :=
  lt (x3 + (1 : Int32)) (fun x3_78 => k8 σ x1 x2 x3_78)
def fm_routesThose_L66 (F : Nat) (k8 : MS → Int32 → Int32 → Int32 → Option (Int32 × MS)) (σ : MS) (x1 : Int32) (x2 : Int32) (x3 : Int32) (x5 : Int32) : Option (Int32 × MS) :=
  bd2 (fm_takes F σ x3 x5) (fun r70 σ70 => lt (x2 + (1 : Int32)) (fun x2_75 => fm_routesThose_L78 F k8 σ70 x1 x2_75 x3))
def fm_routesThose_L34 (F : Nat) (k8 : MS → Int32 → Int32 → Int32 → Option (Int32 × MS)) (σ : MS) (x1 : Int32) (x2 : Int32) (x3 : Int32) (x4 : Int32) : Option (Int32 × MS) :=
  bd2 (fm_finds F σ x3) (fun r36 σ36 => if r36 = (-1000 : Int32) then (fm_routesThose_L78 F k8 σ36 x1 x2 x3) else (if x4 = 0 then (bd (fm_of F σ36 x3 (7 : Int32)) (fun r58 => if r58 ≤ r36 then (fm_routesThose_L78 F k8 σ36 x1 x2 x3) else (fm_routesThose_L66 F k8 σ36 x1 x2 x3 r36))) else (fm_routesThose_L66 F k8 σ36 x1 x2 x3 r36)))
def fm_routesThose_L8_c (F : Nat) (k8 : MS → Int32 → Int32 → Int32 → Option (Int32 × MS)) (σ : MS) (x1 : Int32) (x2 : Int32) (x3 : Int32) : Option (Int32 × MS) :=
  gd (ix (1 : Int32) 8625 = true) (if (ms_row σ (1 : Int32).toNatClampNeg) ≤ x3 then (some (x2, σ)) else (bd (fm_isTouched F σ x3) (fun r20 => if r20 = 0 then (if x1 = 0 then (fm_routesThose_L78 F k8 σ x1 x2 x3) else (fm_routesThose_L34 F k8 σ x1 x2 x3 r20)) else (fm_routesThose_L34 F k8 σ x1 x2 x3 r20))))
def fm_routesThose_L8 (F : Nat) (n : Nat) (σ : MS) (x1 : Int32) (x2 : Int32) (x3 : Int32) : Option (Int32 × MS) := lpN (fun (k : MS × Int32 × Int32 × Int32 → Option (Int32 × MS)) a => fm_routesThose_L8_c F (fun σ x1 x2 x3 => k (σ, x1, x2, x3)) a.1 a.2.1 a.2.2.1 a.2.2.2) n (σ, x1, x2, x3)
def fm_routesThose (F : Nat) (σ : MS) (x1 : Int32) : Option (Int32 × MS) :=
  bd (fm_records F σ) (fun σ1 => fm_routesThose_L8 F F σ1 x1 (0 : Int32) (0 : Int32))
set_option maxHeartbeats 4000000 in
set_option maxRecDepth 100000 in
theorem km_routesThose (l : Launch) (D : va_G) (cA : Nat → ClassId) (ad : Nat → Nat) (σ0 : MS) (F : Nat) (a1 : Int32) (r : Int32) (σr : MS) (hf : fm_routesThose F σ0 a1 = some (r, σr)) : KW l D (tyG cA) yX10_routesThose cX10_routesThose 7 (some .int) (rmk 6 150) (wM cA ad σ0) [.ref (ad 0), .int a1] (some (.int r)) (wM cA ad σr) := by
  refine KW.of (by decide) (Nat.le_of_ble_eq_true rfl) ?_
  intro p e s m below meth c A hAe hA C hr hlk hK hP hD hS ls hl
  have hl : lv_has ls 7 [(0, .ref (ad 0)), (1, .int a1)] := hl
  have hB8 : ∀ (n8 : Nat) (H : Heap) (locs : List Loc) (σ : MS) (ls : Array Slot) (x1 : Int32) (x2 : Int32) (x3 : Int32), va_P D vwCl (wM cA ad σ) H → va_D A (wM cA ad σ) → va_S A s.heap H locs → lv_has ls 7 [(0, .ref (ad 0)), (1, .int x1), (2, .int x2), (3, .int x3)] → fm_routesThose_L8 F n8 σ x1 x2 x3 = some (r, σr) → WQ p l e 6 150 s m [.ref (ad 0), .int a1] below meth c (some (.int r)) D (tyG cA) (wM cA ad σ0) (wM cA ad σr) A H locs (F0 m 8 ls []) := by
    intro n8
    induction n8 with
    | zero =>
      intro H locs σ ls x1 x2 x3 hP hD hS hl hf
      cases (show (none : Option _) = _ from hf)
    | succ n8 ih8 =>
      have hB78 : ∀ (H : Heap) (locs : List Loc) (σ : MS) (ls : Array Slot) (x1 : Int32) (x2 : Int32) (x3 : Int32), va_P D vwCl (wM cA ad σ) H → va_D A (wM cA ad σ) → va_S A s.heap H locs → lv_has ls 7 [(0, .ref (ad 0)), (1, .int x1), (2, .int x2), (3, .int x3)] → fm_routesThose_L78 F (fm_routesThose_L8 F n8) σ x1 x2 x3 = some (r, σr) → WQ p l e 6 150 s m [.ref (ad 0), .int a1] below meth c (some (.int r)) D (tyG cA) (wM cA ad σ0) (wM cA ad σr) A H locs (F0 m 78 ls []) := by
        intro H locs σ ls x1 x2 x3 hP hD hS hl hf
        unfold fm_routesThose_L78 at hf
        obtain ⟨x3_78, ex3_78, hf⟩ := lt_some hf
        refine lv_iinc (v := x3_78) (lv' := [(3, .int x3_78), (0, .ref (ad 0)), (1, .int x1), (2, .int x2)]) C.1 C.2.1 dX10_routesThose_78 hl (k := 3) rfl (by rw [ex3_78]; rfl) (by decide) rfl (fun ls hl => ?_)
        refine lv_goto (tgt := 8) C.1 C.2.1 dX10_routesThose_81 (by decide) ?_
        exact ih8 _ _ _ ls _ _ _ hP hD hS (lv_sub hl [1, 2, 3, 0] rfl) hf
      have hB66 : ∀ (H : Heap) (locs : List Loc) (σ : MS) (ls : Array Slot) (x1 : Int32) (x2 : Int32) (x3 : Int32) (x5 : Int32), va_P D vwCl (wM cA ad σ) H → va_D A (wM cA ad σ) → va_S A s.heap H locs → lv_has ls 7 [(0, .ref (ad 0)), (1, .int x1), (2, .int x2), (3, .int x3), (5, .int x5)] → fm_routesThose_L66 F (fm_routesThose_L8 F n8) σ x1 x2 x3 x5 = some (r, σr) → WQ p l e 6 150 s m [.ref (ad 0), .int a1] below meth c (some (.int r)) D (tyG cA) (wM cA ad σ0) (wM cA ad σr) A H locs (F0 m 66 ls []) := by
        intro H locs σ ls x1 x2 x3 x5 hP hD hS hl hf
        unfold fm_routesThose_L66 at hf
        refine lv_aload_n C.1 C.2.1 dX10_routesThose_66 rfl (lv_at hl 0 rfl) ?_
        refine lv_iload_n C.1 C.2.1 dX10_routesThose_67 rfl (lv_at hl 3 rfl) ?_
        refine lv_iload C.1 C.2.1 dX10_routesThose_68 (lv_at hl 4 rfl) ?_
        obtain ⟨r70, σ70, hc70, hf⟩ := bd2_some hf
        refine callWV (As := [_, _]) C hK hP hD hA hS wv_X10_188 hl (km_takes l D cA ad _ F _ _ r70 σ70 hc70) (rcM hK hP) rfl rfl rfl (Nat.le_of_ble_eq_true rfl) ⟨Nat.le_refl _, Nat.le_refl _⟩ dX10_routesThose_70 (fun H locs hP hD hS => ?_)
        refine lv_istore (lv' := [(6, .int r70), (0, .ref (ad 0)), (1, .int x1), (2, .int x2), (3, .int x3), (5, .int x5)]) C.1 C.2.1 dX10_routesThose_73 hl (by decide) rfl (fun ls hl => ?_)
        obtain ⟨x2_75, ex2_75, hf⟩ := lt_some hf
        refine lv_iinc (v := x2_75) (lv' := [(2, .int x2_75), (6, .int r70), (0, .ref (ad 0)), (1, .int x1), (3, .int x3), (5, .int x5)]) C.1 C.2.1 dX10_routesThose_75 hl (k := 3) rfl (by rw [ex2_75]; rfl) (by decide) rfl (fun ls hl => ?_)
        exact hB78 _ _ _ ls _ _ _ hP hD hS (lv_sub hl [2, 3, 0, 4] rfl) hf
      have hB34 : ∀ (H : Heap) (locs : List Loc) (σ : MS) (ls : Array Slot) (x1 : Int32) (x2 : Int32) (x3 : Int32) (x4 : Int32), va_P D vwCl (wM cA ad σ) H → va_D A (wM cA ad σ) → va_S A s.heap H locs → lv_has ls 7 [(0, .ref (ad 0)), (1, .int x1), (2, .int x2), (3, .int x3), (4, .int x4)] → fm_routesThose_L34 F (fm_routesThose_L8 F n8) σ x1 x2 x3 x4 = some (r, σr) → WQ p l e 6 150 s m [.ref (ad 0), .int a1] below meth c (some (.int r)) D (tyG cA) (wM cA ad σ0) (wM cA ad σr) A H locs (F0 m 34 ls []) := by
        intro H locs σ ls x1 x2 x3 x4 hP hD hS hl hf
        unfold fm_routesThose_L34 at hf
        refine lv_aload_n C.1 C.2.1 dX10_routesThose_34 rfl (lv_at hl 0 rfl) ?_
        refine lv_iload_n C.1 C.2.1 dX10_routesThose_35 rfl (lv_at hl 3 rfl) ?_
        obtain ⟨r36, σ36, hc36, hf⟩ := bd2_some hf
        refine callWV (As := [_]) C hK hP hD hA hS wv_X10_185 hl (km_finds l D cA ad _ F _ r36 σ36 hc36) (rcM hK hP) rfl rfl rfl (Nat.le_of_ble_eq_true rfl) ⟨Nat.le_refl _, Nat.le_refl _⟩ dX10_routesThose_36 (fun H locs hP hD hS => ?_)
        refine lv_istore (lv' := [(5, .int r36), (0, .ref (ad 0)), (1, .int x1), (2, .int x2), (3, .int x3), (4, .int x4)]) C.1 C.2.1 dX10_routesThose_39 hl (by decide) rfl (fun ls hl => ?_)
        refine lv_iload C.1 C.2.1 dX10_routesThose_41 (lv_at hl 0 rfl) ?_
        refine lv_sipush (v := (-1000 : Int32)) C.1 C.2.1 dX10_routesThose_43 (by decide) ?_
        refine lv_icmp_eq (tgt := 78) C.1 C.2.1 dX10_routesThose_46 (by decide) (fun c46 => ?_) (fun c46 => ?_)
        · have hf := br_p c46 hf
          exact hB78 _ _ _ ls _ _ _ hP hD hS (lv_sub hl [1, 2, 3, 4] rfl) hf
        · have hf := br_n c46 hf
          refine lv_iload C.1 C.2.1 dX10_routesThose_49 (lv_at hl 5 rfl) ?_
          refine lv_if_ne (tgt := 66) C.1 C.2.1 dX10_routesThose_51 (by decide) (fun c51 => ?_) (fun c51 => ?_)
          · have hf := br_n c51 hf
            exact hB66 _ _ _ ls _ _ _ _ hP hD hS (lv_sub hl [1, 2, 3, 4, 0] rfl) hf
          · have hf := br_p c51 hf
            refine lv_aload_n C.1 C.2.1 dX10_routesThose_54 rfl (lv_at hl 1 rfl) ?_
            refine lv_iload_n C.1 C.2.1 dX10_routesThose_55 rfl (lv_at hl 4 rfl) ?_
            refine lv_bipush (v := (7 : Int32)) C.1 C.2.1 dX10_routesThose_56 (by decide) ?_
            obtain ⟨r58, hc58, hf⟩ := bd_some hf
            refine callRV (As := [_, _]) C hK hP wv_X10_95 hl (km_of l D cA ad _ F _ _ r58 hc58) (rcM hK hP) rfl rfl rfl (Nat.le_of_ble_eq_true rfl) ⟨Nat.le_refl _, Nat.le_refl _⟩ dX10_routesThose_58 ?_
            refine lv_iload C.1 C.2.1 dX10_routesThose_61 (lv_at hl 0 rfl) ?_
            refine lv_icmp_le (tgt := 78) C.1 C.2.1 dX10_routesThose_63 (by decide) (fun c63 => ?_) (fun c63 => ?_)
            · have hf := br_p c63 hf
              exact hB78 _ _ _ ls _ _ _ hP hD hS (lv_sub hl [1, 2, 3, 4] rfl) hf
            · have hf := br_n c63 hf
              exact hB66 _ _ _ ls _ _ _ _ hP hD hS (lv_sub hl [1, 2, 3, 4, 0] rfl) hf
      intro H locs σ ls x1 x2 x3 hP hD hS hl hf
      have hf : fm_routesThose_L8_c F (fm_routesThose_L8 F n8) σ x1 x2 x3 = some (r, σr) := hf
      unfold fm_routesThose_L8_c at hf
      refine lv_iload_n C.1 C.2.1 dX10_routesThose_8 rfl (lv_at hl 3 rfl) ?_
      refine lv_aload_n C.1 C.2.1 dX10_routesThose_9 rfl (lv_at hl 0 rfl) ?_
      refine gm_row C hK hP dX10_routesThose_10 ?_
      refine lv_iconst (v := (1 : Int32)) C.1 C.2.1 dX10_routesThose_13 (by decide) ?_
      obtain ⟨hi14, hf⟩ := gd_some hf
      refine lm_row C hK hP hi14 dX10_routesThose_14 ?_
      refine lv_icmp_ge (tgt := 84) C.1 C.2.1 dX10_routesThose_15 (by decide) (fun c15 => ?_) (fun c15 => ?_)
      · have hf := br_p c15 hf
        refine lv_iload_n C.1 C.2.1 dX10_routesThose_84 rfl (lv_at hl 2 rfl) ?_
        obtain ⟨rfl, rfl⟩ := Prod.mk.inj (Option.some.inj hf)
        exact KW.iret C hr hlk hK hAe hP hD hS rfl dX10_routesThose_85
      · have hf := br_n c15 hf
        refine lv_aload_n C.1 C.2.1 dX10_routesThose_18 rfl (lv_at hl 0 rfl) ?_
        refine lv_iload_n C.1 C.2.1 dX10_routesThose_19 rfl (lv_at hl 3 rfl) ?_
        obtain ⟨r20, hc20, hf⟩ := bd_some hf
        refine callRV (As := [_]) C hK hP wv_X10_98 hl (km_isTouched l D cA ad _ F _ r20 hc20) (rcM hK hP) rfl rfl rfl (Nat.le_of_ble_eq_true rfl) ⟨Nat.le_refl _, Nat.le_refl _⟩ dX10_routesThose_20 ?_
        refine lv_istore (lv' := [(4, .int r20), (0, .ref (ad 0)), (1, .int x1), (2, .int x2), (3, .int x3)]) C.1 C.2.1 dX10_routesThose_23 hl (by decide) rfl (fun ls hl => ?_)
        refine lv_iload C.1 C.2.1 dX10_routesThose_25 (lv_at hl 0 rfl) ?_
        refine lv_if_ne (tgt := 34) C.1 C.2.1 dX10_routesThose_27 (by decide) (fun c27 => ?_) (fun c27 => ?_)
        · have hf := br_n c27 hf
          exact hB34 _ _ _ ls _ _ _ _ hP hD hS (lv_sub hl [1, 2, 3, 4, 0] rfl) hf
        · have hf := br_p c27 hf
          refine lv_iload_n C.1 C.2.1 dX10_routesThose_30 rfl (lv_at hl 2 rfl) ?_
          refine lv_if_eq (tgt := 78) C.1 C.2.1 dX10_routesThose_31 (by decide) (fun c31 => ?_) (fun c31 => ?_)
          · have hf := br_p c31 hf
            exact hB78 _ _ _ ls _ _ _ hP hD hS (lv_sub hl [1, 2, 3, 4] rfl) hf
          · have hf := br_n c31 hf
            exact hB34 _ _ _ ls _ _ _ _ hP hD hS (lv_sub hl [1, 2, 3, 4, 0] rfl) hf
  unfold fm_routesThose at hf
  refine lv_aload_n C.1 C.2.1 dX10_routesThose_0 rfl (lv_at hl 0 rfl) ?_
  obtain ⟨σ1, hc1, hf⟩ := bd_some hf
  refine callWV (As := []) C hK hP hD hA hS wv_X10_84 hl (km_records l D cA ad _ F σ1 hc1) (rcM hK hP) rfl rfl rfl (Nat.le_of_ble_eq_true rfl) ⟨Nat.le_refl _, Nat.le_refl _⟩ dX10_routesThose_1 (fun H locs hP hD hS => ?_)
  refine lv_iconst (v := (0 : Int32)) C.1 C.2.1 dX10_routesThose_4 (by decide) ?_
  refine lv_istore_n (lv' := [(2, .int (0 : Int32)), (0, .ref (ad 0)), (1, .int a1)]) C.1 C.2.1 dX10_routesThose_5 rfl hl (by decide) rfl (fun ls hl => ?_)
  refine lv_iconst (v := (0 : Int32)) C.1 C.2.1 dX10_routesThose_6 (by decide) ?_
  refine lv_istore_n (lv' := [(3, .int (0 : Int32)), (2, .int (0 : Int32)), (0, .ref (ad 0)), (1, .int a1)]) C.1 C.2.1 dX10_routesThose_7 rfl hl (by decide) rfl (fun ls hl => ?_)
  exact hB8 F _ _ _ ls _ _ _ hP hD hS (lv_sub hl [2, 3, 1, 0] rfl) hf
def fm_reroute (F : Nat) (σ : MS) : Option (Int32 × MS) :=
  bd2 (fm_routesThose F σ (0 : Int32)) (fun r2 σ2 => some (r2, σ2))
set_option maxHeartbeats 4000000 in
set_option maxRecDepth 100000 in
theorem km_reroute (l : Launch) (D : va_G) (cA : Nat → ClassId) (ad : Nat → Nat) (σ0 : MS) (F : Nat)  (r : Int32) (σr : MS) (hf : fm_reroute F σ0  = some (r, σr)) : KW l D (tyG cA) yX10_reroute cX10_reroute 1 (some .int) (rmk 7 176) (wM cA ad σ0) [.ref (ad 0)] (some (.int r)) (wM cA ad σr) := by
  refine KW.of (by decide) (Nat.le_of_ble_eq_true rfl) ?_
  intro p e s m below meth c A hAe hA C hr hlk hK hP hD hS ls hl
  have hl : lv_has ls 1 [(0, .ref (ad 0))] := hl
  unfold fm_reroute at hf
  refine lv_aload_n C.1 C.2.1 dX10_reroute_0 rfl (lv_at hl 0 rfl) ?_
  refine lv_iconst (v := (0 : Int32)) C.1 C.2.1 dX10_reroute_1 (by decide) ?_
  obtain ⟨r2, σ2, hc2, hf⟩ := bd2_some hf
  refine callWV (As := [_]) C hK hP hD hA hS wv_X10_191 hl (km_routesThose l D cA ad _ F _ r2 σ2 hc2) (rcM hK hP) rfl rfl rfl (Nat.le_of_ble_eq_true rfl) ⟨Nat.le_refl _, Nat.le_refl _⟩ dX10_reroute_2 (fun H locs hP hD hS => ?_)
  obtain ⟨rfl, rfl⟩ := Prod.mk.inj (Option.some.inj hf)
  exact KW.iret C hr hlk hK hAe hP hD hS rfl dX10_reroute_5
def fm_refresh (F : Nat) (σ : MS) : Option (Int32 × MS) :=
  bd2 (fm_routesThose F σ (1 : Int32)) (fun r2 σ2 => some (r2, σ2))
set_option maxHeartbeats 4000000 in
set_option maxRecDepth 100000 in
theorem km_refresh (l : Launch) (D : va_G) (cA : Nat → ClassId) (ad : Nat → Nat) (σ0 : MS) (F : Nat)  (r : Int32) (σr : MS) (hf : fm_refresh F σ0  = some (r, σr)) : KW l D (tyG cA) yX10_refresh cX10_refresh 1 (some .int) (rmk 7 176) (wM cA ad σ0) [.ref (ad 0)] (some (.int r)) (wM cA ad σr) := by
  refine KW.of (by decide) (Nat.le_of_ble_eq_true rfl) ?_
  intro p e s m below meth c A hAe hA C hr hlk hK hP hD hS ls hl
  have hl : lv_has ls 1 [(0, .ref (ad 0))] := hl
  unfold fm_refresh at hf
  refine lv_aload_n C.1 C.2.1 dX10_refresh_0 rfl (lv_at hl 0 rfl) ?_
  refine lv_iconst (v := (1 : Int32)) C.1 C.2.1 dX10_refresh_1 (by decide) ?_
  obtain ⟨r2, σ2, hc2, hf⟩ := bd2_some hf
  refine callWV (As := [_]) C hK hP hD hA hS wv_X10_191 hl (km_routesThose l D cA ad _ F _ r2 σ2 hc2) (rcM hK hP) rfl rfl rfl (Nat.le_of_ble_eq_true rfl) ⟨Nat.le_refl _, Nat.le_refl _⟩ dX10_refresh_2 (fun H locs hP hD hS => ?_)
  obtain ⟨rfl, rfl⟩ := Prod.mk.inj (Option.some.inj hf)
  exact KW.iret C hr hlk hK hAe hP hD hS rfl dX10_refresh_5
def fm_best_L19 (F : Nat) (σ : MS) (s0 : Int32) : Option (Int32 × MS) :=
  some (s0, σ)
def fm_best (F : Nat) (σ : MS) (x1 : Int32) : Option (Int32 × MS) :=
  bd (fm_isLink F σ x1) (fun r2 => if r2 = 0 then (fm_best_L19 F σ (-1001 : Int32)) else (bd2 (fm_bestOf F σ x1) (fun r10 σ10 => fm_best_L19 F σ10 r10)))
set_option maxHeartbeats 4000000 in
set_option maxRecDepth 100000 in
theorem km_best (l : Launch) (D : va_G) (cA : Nat → ClassId) (ad : Nat → Nat) (σ0 : MS) (F : Nat) (a1 : Int32) (r : Int32) (σr : MS) (hf : fm_best F σ0 a1 = some (r, σr)) : KW l D (tyG cA) yX10_best cX10_best 2 (some .int) (rmk 5 121) (wM cA ad σ0) [.ref (ad 0), .int a1] (some (.int r)) (wM cA ad σr) := by
  refine KW.of (by decide) (Nat.le_of_ble_eq_true rfl) ?_
  intro p e s m below meth c A hAe hA C hr hlk hK hP hD hS ls hl
  have hl : lv_has ls 2 [(0, .ref (ad 0)), (1, .int a1)] := hl
  have hB19 : ∀ (H : Heap) (locs : List Loc) (σ : MS) (ls : Array Slot) (s0 : Int32), va_P D vwCl (wM cA ad σ) H → va_D A (wM cA ad σ) → va_S A s.heap H locs → lv_has ls 2 [(0, .ref (ad 0))] → fm_best_L19 F σ s0 = some (r, σr) → WQ p l e 5 121 s m [.ref (ad 0), .int a1] below meth c (some (.int r)) D (tyG cA) (wM cA ad σ0) (wM cA ad σr) A H locs (F0 m 19 ls [.int s0]) := by
    intro H locs σ ls s0 hP hD hS hl hf
    unfold fm_best_L19 at hf
    obtain ⟨rfl, rfl⟩ := Prod.mk.inj (Option.some.inj hf)
    exact KW.iret C hr hlk hK hAe hP hD hS rfl dX10_best_19
  unfold fm_best at hf
  refine lv_aload_n C.1 C.2.1 dX10_best_0 rfl (lv_at hl 0 rfl) ?_
  refine lv_iload_n C.1 C.2.1 dX10_best_1 rfl (lv_at hl 1 rfl) ?_
  obtain ⟨r2, hc2, hf⟩ := bd_some hf
  refine callRV (As := [_]) C hK hP wv_X10_111 hl (km_isLink l D cA ad _ F _ r2 hc2) (rcM hK hP) rfl rfl rfl (Nat.le_of_ble_eq_true rfl) ⟨Nat.le_refl _, Nat.le_refl _⟩ dX10_best_2 ?_
  refine lv_if_eq (tgt := 16) C.1 C.2.1 dX10_best_5 (by decide) (fun c5 => ?_) (fun c5 => ?_)
  · have hf := br_p c5 hf
    refine lv_sipush (v := (-1001 : Int32)) C.1 C.2.1 dX10_best_16 (by decide) ?_
    exact hB19 _ _ _ ls _ hP hD hS (lv_sub hl [0] rfl) hf
  · have hf := br_n c5 hf
    refine lv_aload_n C.1 C.2.1 dX10_best_8 rfl (lv_at hl 0 rfl) ?_
    refine lv_iload_n C.1 C.2.1 dX10_best_9 rfl (lv_at hl 1 rfl) ?_
    obtain ⟨r10, σ10, hc10, hf⟩ := bd2_some hf
    refine callWV (As := [_]) C hK hP hD hA hS wv_X10_179 hl (km_bestOf l D cA ad _ F _ r10 σ10 hc10) (rcM hK hP) rfl rfl rfl (Nat.le_of_ble_eq_true rfl) ⟨Nat.le_refl _, Nat.le_refl _⟩ dX10_best_10 (fun H locs hP hD hS => ?_)
    refine lv_goto (tgt := 19) C.1 C.2.1 dX10_best_13 (by decide) ?_
    exact hB19 _ _ _ ls _ hP hD hS (lv_sub hl [0] rfl) hf
def fm_measure_L88 (F : Nat) (σ : MS) (s0 : Int32) : Option (Int32) :=
  some s0
def fm_measure (F : Nat) (σ : MS) (x1 : Int32) (x2 : Int32) : Option (Int32) :=
  bd (fm_isLink F σ x1) (fun r2 => if r2 = 0 then (some (-1001 : Int32)) else (bd (fm_in F x2 (0 : Int32) (3 : Int32)) (fun r15 => if r15 = 0 then (some (-1002 : Int32)) else (bd (fm_hasRoute F σ x1) (fun r27 => if r27 = 0 then (some (-1003 : Int32)) else (if x2 = 0 then (bd (fm_of F σ x1 (7 : Int32)) (fun r45 => fm_measure_L88 F σ r45)) else (if x2 = (1 : Int32) then (bd (fm_lengthOf F σ x1) (fun r58 => fm_measure_L88 F σ r58)) else (if x2 = (2 : Int32) then (bd (fm_of F σ x1 (8 : Int32)) (fun r73 => fm_measure_L88 F σ r73)) else (bd (fm_of F σ x1 (8 : Int32)) (fun r83 => fm_measure_L88 F σ (r83 - (1 : Int32))))))))))))
set_option maxHeartbeats 4000000 in
set_option maxRecDepth 100000 in
theorem km_measure (l : Launch) (D : va_G) (cA : Nat → ClassId) (ad : Nat → Nat) (σ : MS) (F : Nat) (a1 : Int32) (a2 : Int32) (r : Int32) (hf : fm_measure F σ a1 a2 = some r) : KR l D (tyG cA) yX10_measure cX10_measure 3 (some .int) (rmk 3 69) (wM cA ad σ) [.ref (ad 0), .int a1, .int a2] r := by
  refine KR.of (by decide) (Nat.le_of_ble_eq_true rfl) ?_
  intro p e s m below meth c C hr hlk hK hP ls hl
  have hl : lv_has ls 3 [(0, .ref (ad 0)), (1, .int a1), (2, .int a2)] := hl
  have hB88 : ∀ (ls : Array Slot) (s0 : Int32), lv_has ls 3 [(0, .ref (ad 0))] → fm_measure_L88 F σ s0 = some r → WR p l e 3 69 s m [.ref (ad 0), .int a1, .int a2] below meth c r (F0 m 88 ls [.int s0]) := by
    intro ls s0 hl hf
    unfold fm_measure_L88 at hf
    exact KR.iret C hr hlk (Option.some.inj hf) dX10_measure_88
  unfold fm_measure at hf
  refine lv_aload_n C.1 C.2.1 dX10_measure_0 rfl (lv_at hl 0 rfl) ?_
  refine lv_iload_n C.1 C.2.1 dX10_measure_1 rfl (lv_at hl 1 rfl) ?_
  obtain ⟨r2, hc2, hf⟩ := bd_some hf
  refine callRV (As := [_]) C hK hP wv_X10_111 hl (km_isLink l D cA ad _ F _ r2 hc2) (rcM hK hP) rfl rfl rfl (Nat.le_of_ble_eq_true rfl) ⟨Nat.le_refl _, Nat.le_refl _⟩ dX10_measure_2 ?_
  refine lv_if_ne (tgt := 12) C.1 C.2.1 dX10_measure_5 (by decide) (fun c5 => ?_) (fun c5 => ?_)
  · have hf := br_n c5 hf
    refine lv_iload_n C.1 C.2.1 dX10_measure_12 rfl (lv_at hl 2 rfl) ?_
    refine lv_iconst (v := (0 : Int32)) C.1 C.2.1 dX10_measure_13 (by decide) ?_
    refine lv_iconst (v := (3 : Int32)) C.1 C.2.1 dX10_measure_14 (by decide) ?_
    obtain ⟨r15, hc15, hf⟩ := bd_some hf
    refine callRS (As := [_, _, _]) C hK hP wv_X10_68 hl (km_in l D cA _ F _ _ _ r15 hc15) rfl rfl rfl (Nat.le_of_ble_eq_true rfl) ⟨Nat.le_refl _, Nat.le_refl _⟩ dX10_measure_15 ?_
    refine lv_if_ne (tgt := 25) C.1 C.2.1 dX10_measure_18 (by decide) (fun c18 => ?_) (fun c18 => ?_)
    · have hf := br_n c18 hf
      refine lv_aload_n C.1 C.2.1 dX10_measure_25 rfl (lv_at hl 0 rfl) ?_
      refine lv_iload_n C.1 C.2.1 dX10_measure_26 rfl (lv_at hl 1 rfl) ?_
      obtain ⟨r27, hc27, hf⟩ := bd_some hf
      refine callRV (As := [_]) C hK hP wv_X10_114 hl (km_hasRoute l D cA ad _ F _ r27 hc27) (rcM hK hP) rfl rfl rfl (Nat.le_of_ble_eq_true rfl) ⟨Nat.le_refl _, Nat.le_refl _⟩ dX10_measure_27 ?_
      refine lv_if_ne (tgt := 37) C.1 C.2.1 dX10_measure_30 (by decide) (fun c30 => ?_) (fun c30 => ?_)
      · have hf := br_n c30 hf
        refine lv_iload_n C.1 C.2.1 dX10_measure_37 rfl (lv_at hl 2 rfl) ?_
        refine lv_if_ne (tgt := 51) C.1 C.2.1 dX10_measure_38 (by decide) (fun c38 => ?_) (fun c38 => ?_)
        · have hf := br_n c38 hf
          refine lv_iload_n C.1 C.2.1 dX10_measure_51 rfl (lv_at hl 2 rfl) ?_
          refine lv_iconst (v := (1 : Int32)) C.1 C.2.1 dX10_measure_52 (by decide) ?_
          refine lv_icmp_ne (tgt := 64) C.1 C.2.1 dX10_measure_53 (by decide) (fun c53 => ?_) (fun c53 => ?_)
          · have hf := br_n c53 hf
            refine lv_iload_n C.1 C.2.1 dX10_measure_64 rfl (lv_at hl 2 rfl) ?_
            refine lv_iconst (v := (2 : Int32)) C.1 C.2.1 dX10_measure_65 (by decide) ?_
            refine lv_icmp_ne (tgt := 79) C.1 C.2.1 dX10_measure_66 (by decide) (fun c66 => ?_) (fun c66 => ?_)
            · have hf := br_n c66 hf
              refine lv_aload_n C.1 C.2.1 dX10_measure_79 rfl (lv_at hl 0 rfl) ?_
              refine lv_iload_n C.1 C.2.1 dX10_measure_80 rfl (lv_at hl 1 rfl) ?_
              refine lv_bipush (v := (8 : Int32)) C.1 C.2.1 dX10_measure_81 (by decide) ?_
              obtain ⟨r83, hc83, hf⟩ := bd_some hf
              refine callRV (As := [_, _]) C hK hP wv_X10_95 hl (km_of l D cA ad _ F _ _ r83 hc83) (rcM hK hP) rfl rfl rfl (Nat.le_of_ble_eq_true rfl) ⟨Nat.le_refl _, Nat.le_refl _⟩ dX10_measure_83 ?_
              refine lv_iconst (v := (1 : Int32)) C.1 C.2.1 dX10_measure_86 (by decide) ?_
              refine lv_isub C.1 C.2.1 dX10_measure_87 ?_
              exact hB88 ls _ (lv_sub hl [0] rfl) hf
            · have hf := br_p c66 hf
              refine lv_aload_n C.1 C.2.1 dX10_measure_69 rfl (lv_at hl 0 rfl) ?_
              refine lv_iload_n C.1 C.2.1 dX10_measure_70 rfl (lv_at hl 1 rfl) ?_
              refine lv_bipush (v := (8 : Int32)) C.1 C.2.1 dX10_measure_71 (by decide) ?_
              obtain ⟨r73, hc73, hf⟩ := bd_some hf
              refine callRV (As := [_, _]) C hK hP wv_X10_95 hl (km_of l D cA ad _ F _ _ r73 hc73) (rcM hK hP) rfl rfl rfl (Nat.le_of_ble_eq_true rfl) ⟨Nat.le_refl _, Nat.le_refl _⟩ dX10_measure_73 ?_
              refine lv_goto (tgt := 88) C.1 C.2.1 dX10_measure_76 (by decide) ?_
              exact hB88 ls _ (lv_sub hl [0] rfl) hf
          · have hf := br_p c53 hf
            refine lv_aload_n C.1 C.2.1 dX10_measure_56 rfl (lv_at hl 0 rfl) ?_
            refine lv_iload_n C.1 C.2.1 dX10_measure_57 rfl (lv_at hl 1 rfl) ?_
            obtain ⟨r58, hc58, hf⟩ := bd_some hf
            refine callRV (As := [_]) C hK hP wv_X10_195 hl (km_lengthOf l D cA ad _ F _ r58 hc58) (rcM hK hP) rfl rfl rfl (Nat.le_of_ble_eq_true rfl) ⟨Nat.le_refl _, Nat.le_refl _⟩ dX10_measure_58 ?_
            refine lv_goto (tgt := 88) C.1 C.2.1 dX10_measure_61 (by decide) ?_
            exact hB88 ls _ (lv_sub hl [0] rfl) hf
        · have hf := br_p c38 hf
          refine lv_aload_n C.1 C.2.1 dX10_measure_41 rfl (lv_at hl 0 rfl) ?_
          refine lv_iload_n C.1 C.2.1 dX10_measure_42 rfl (lv_at hl 1 rfl) ?_
          refine lv_bipush (v := (7 : Int32)) C.1 C.2.1 dX10_measure_43 (by decide) ?_
          obtain ⟨r45, hc45, hf⟩ := bd_some hf
          refine callRV (As := [_, _]) C hK hP wv_X10_95 hl (km_of l D cA ad _ F _ _ r45 hc45) (rcM hK hP) rfl rfl rfl (Nat.le_of_ble_eq_true rfl) ⟨Nat.le_refl _, Nat.le_refl _⟩ dX10_measure_45 ?_
          refine lv_goto (tgt := 88) C.1 C.2.1 dX10_measure_48 (by decide) ?_
          exact hB88 ls _ (lv_sub hl [0] rfl) hf
      · have hf := br_p c30 hf
        refine lv_sipush (v := (-1003 : Int32)) C.1 C.2.1 dX10_measure_33 (by decide) ?_
        exact KR.iret C hr hlk (Option.some.inj hf) dX10_measure_36
    · have hf := br_p c18 hf
      refine lv_sipush (v := (-1002 : Int32)) C.1 C.2.1 dX10_measure_21 (by decide) ?_
      exact KR.iret C hr hlk (Option.some.inj hf) dX10_measure_24
  · have hf := br_p c5 hf
    refine lv_sipush (v := (-1001 : Int32)) C.1 C.2.1 dX10_measure_8 (by decide) ?_
    exact KR.iret C hr hlk (Option.some.inj hf) dX10_measure_11
def fm_isCorner_L38 (F : Nat) (σ : MS) (s0 : Int32) : Option (Int32) :=
  gd (s0 = 0 ∨ s0 = 1) (some s0)
def fm_isCorner_L37 (F : Nat) (σ : MS) : Option (Int32) :=
  fm_isCorner_L38 F σ (0 : Int32)
def fm_isCorner (F : Nat) (σ : MS) (x1 : Int32) (x2 : Int32) : Option (Int32) :=
  bd (fm_isLink F σ x1) (fun r2 => if r2 = 0 then (fm_isCorner_L37 F σ) else (bd (fm_hasRoute F σ x1) (fun r10 => if r10 = 0 then (fm_isCorner_L37 F σ) else (bd (fm_of F σ x1 (8 : Int32)) (fun r22 => bd (fm_in F x2 (0 : Int32) (r22 - (1 : Int32))) (fun r27 => if r27 = 0 then (fm_isCorner_L37 F σ) else (fm_isCorner_L38 F σ (1 : Int32))))))))
set_option maxHeartbeats 4000000 in
set_option maxRecDepth 100000 in
theorem km_isCorner (l : Launch) (D : va_G) (cA : Nat → ClassId) (ad : Nat → Nat) (σ : MS) (F : Nat) (a1 : Int32) (a2 : Int32) (r : Int32) (hf : fm_isCorner F σ a1 a2 = some r) : KR l D (tyG cA) yX10_isCorner cX10_isCorner 3 (some .boolean) (rmk 2 43) (wM cA ad σ) [.ref (ad 0), .int a1, .int a2] r := by
  refine KR.of (by decide) (Nat.le_of_ble_eq_true rfl) ?_
  intro p e s m below meth c C hr hlk hK hP ls hl
  have hl : lv_has ls 3 [(0, .ref (ad 0)), (1, .int a1), (2, .int a2)] := hl
  have hB38 : ∀ (ls : Array Slot) (s0 : Int32), lv_has ls 3 [(0, .ref (ad 0))] → fm_isCorner_L38 F σ s0 = some r → WR p l e 2 43 s m [.ref (ad 0), .int a1, .int a2] below meth c r (F0 m 38 ls [.int s0]) := by
    intro ls s0 hl hf
    unfold fm_isCorner_L38 at hf
    obtain ⟨hz38, hf⟩ := gd_some hf
    exact KR.zret C hr hlk hz38 (Option.some.inj hf) dX10_isCorner_38
  have hB37 : ∀ (ls : Array Slot), lv_has ls 3 [(0, .ref (ad 0))] → fm_isCorner_L37 F σ = some r → WR p l e 2 43 s m [.ref (ad 0), .int a1, .int a2] below meth c r (F0 m 37 ls []) := by
    intro ls hl hf
    unfold fm_isCorner_L37 at hf
    refine lv_iconst (v := (0 : Int32)) C.1 C.2.1 dX10_isCorner_37 (by decide) ?_
    exact hB38 ls _ (lv_sub hl [0] rfl) hf
  unfold fm_isCorner at hf
  refine lv_aload_n C.1 C.2.1 dX10_isCorner_0 rfl (lv_at hl 0 rfl) ?_
  refine lv_iload_n C.1 C.2.1 dX10_isCorner_1 rfl (lv_at hl 1 rfl) ?_
  obtain ⟨r2, hc2, hf⟩ := bd_some hf
  refine callRV (As := [_]) C hK hP wv_X10_111 hl (km_isLink l D cA ad _ F _ r2 hc2) (rcM hK hP) rfl rfl rfl (Nat.le_of_ble_eq_true rfl) ⟨Nat.le_refl _, Nat.le_refl _⟩ dX10_isCorner_2 ?_
  refine lv_if_eq (tgt := 37) C.1 C.2.1 dX10_isCorner_5 (by decide) (fun c5 => ?_) (fun c5 => ?_)
  · have hf := br_p c5 hf
    exact hB37 ls (lv_sub hl [0] rfl) hf
  · have hf := br_n c5 hf
    refine lv_aload_n C.1 C.2.1 dX10_isCorner_8 rfl (lv_at hl 0 rfl) ?_
    refine lv_iload_n C.1 C.2.1 dX10_isCorner_9 rfl (lv_at hl 1 rfl) ?_
    obtain ⟨r10, hc10, hf⟩ := bd_some hf
    refine callRV (As := [_]) C hK hP wv_X10_114 hl (km_hasRoute l D cA ad _ F _ r10 hc10) (rcM hK hP) rfl rfl rfl (Nat.le_of_ble_eq_true rfl) ⟨Nat.le_refl _, Nat.le_refl _⟩ dX10_isCorner_10 ?_
    refine lv_if_eq (tgt := 37) C.1 C.2.1 dX10_isCorner_13 (by decide) (fun c13 => ?_) (fun c13 => ?_)
    · have hf := br_p c13 hf
      exact hB37 ls (lv_sub hl [0] rfl) hf
    · have hf := br_n c13 hf
      refine lv_iload_n C.1 C.2.1 dX10_isCorner_16 rfl (lv_at hl 2 rfl) ?_
      refine lv_iconst (v := (0 : Int32)) C.1 C.2.1 dX10_isCorner_17 (by decide) ?_
      refine lv_aload_n C.1 C.2.1 dX10_isCorner_18 rfl (lv_at hl 0 rfl) ?_
      refine lv_iload_n C.1 C.2.1 dX10_isCorner_19 rfl (lv_at hl 1 rfl) ?_
      refine lv_bipush (v := (8 : Int32)) C.1 C.2.1 dX10_isCorner_20 (by decide) ?_
      obtain ⟨r22, hc22, hf⟩ := bd_some hf
      refine callRV (As := [_, _]) C hK hP wv_X10_95 hl (km_of l D cA ad _ F _ _ r22 hc22) (rcM hK hP) rfl rfl rfl (Nat.le_of_ble_eq_true rfl) ⟨Nat.le_refl _, Nat.le_refl _⟩ dX10_isCorner_22 ?_
      refine lv_iconst (v := (1 : Int32)) C.1 C.2.1 dX10_isCorner_25 (by decide) ?_
      refine lv_isub C.1 C.2.1 dX10_isCorner_26 ?_
      obtain ⟨r27, hc27, hf⟩ := bd_some hf
      refine callRS (As := [_, _, _]) C hK hP wv_X10_68 hl (km_in l D cA _ F _ _ _ r27 hc27) rfl rfl rfl (Nat.le_of_ble_eq_true rfl) ⟨Nat.le_refl _, Nat.le_refl _⟩ dX10_isCorner_27 ?_
      refine lv_if_eq (tgt := 37) C.1 C.2.1 dX10_isCorner_30 (by decide) (fun c30 => ?_) (fun c30 => ?_)
      · have hf := br_p c30 hf
        exact hB37 ls (lv_sub hl [0] rfl) hf
      · have hf := br_n c30 hf
        refine lv_iconst (v := (1 : Int32)) C.1 C.2.1 dX10_isCorner_33 (by decide) ?_
        refine lv_goto (tgt := 38) C.1 C.2.1 dX10_isCorner_34 (by decide) ?_
        exact hB38 ls _ (lv_sub hl [0] rfl) hf
def fm_corner_L43 (F : Nat) (σ : MS) (s0 : Int32) : Option (Int32) :=
  some s0
def fm_corner (F : Nat) (σ : MS) (x1 : Int32) (x2 : Int32) (x3 : Int32) : Option (Int32) :=
  bd (fm_isCorner F σ x1 x2) (fun r3 => if r3 = 0 then (some (-1001 : Int32)) else (if x3 = 0 then (bd (fm_cornerX F σ x1 x2) (fun r20 => fm_corner_L43 F σ r20)) else (if x3 = (1 : Int32) then (bd (fm_cornerY F σ x1 x2) (fun r34 => fm_corner_L43 F σ r34)) else (fm_corner_L43 F σ (-1002 : Int32)))))
set_option maxHeartbeats 4000000 in
set_option maxRecDepth 100000 in
theorem km_corner (l : Launch) (D : va_G) (cA : Nat → ClassId) (ad : Nat → Nat) (σ : MS) (F : Nat) (a1 : Int32) (a2 : Int32) (a3 : Int32) (r : Int32) (hf : fm_corner F σ a1 a2 a3 = some r) : KR l D (tyG cA) yX10_corner cX10_corner 4 (some .int) (rmk 3 65) (wM cA ad σ) [.ref (ad 0), .int a1, .int a2, .int a3] r := by
  refine KR.of (by decide) (Nat.le_of_ble_eq_true rfl) ?_
  intro p e s m below meth c C hr hlk hK hP ls hl
  have hl : lv_has ls 4 [(0, .ref (ad 0)), (1, .int a1), (2, .int a2), (3, .int a3)] := hl
  have hB43 : ∀ (ls : Array Slot) (s0 : Int32), lv_has ls 4 [(0, .ref (ad 0))] → fm_corner_L43 F σ s0 = some r → WR p l e 3 65 s m [.ref (ad 0), .int a1, .int a2, .int a3] below meth c r (F0 m 43 ls [.int s0]) := by
    intro ls s0 hl hf
    unfold fm_corner_L43 at hf
    exact KR.iret C hr hlk (Option.some.inj hf) dX10_corner_43
  unfold fm_corner at hf
  refine lv_aload_n C.1 C.2.1 dX10_corner_0 rfl (lv_at hl 0 rfl) ?_
  refine lv_iload_n C.1 C.2.1 dX10_corner_1 rfl (lv_at hl 1 rfl) ?_
  refine lv_iload_n C.1 C.2.1 dX10_corner_2 rfl (lv_at hl 2 rfl) ?_
  obtain ⟨r3, hc3, hf⟩ := bd_some hf
  refine callRV (As := [_, _]) C hK hP wv_X10_198 hl (km_isCorner l D cA ad _ F _ _ r3 hc3) (rcM hK hP) rfl rfl rfl (Nat.le_of_ble_eq_true rfl) ⟨Nat.le_refl _, Nat.le_refl _⟩ dX10_corner_3 ?_
  refine lv_if_ne (tgt := 13) C.1 C.2.1 dX10_corner_6 (by decide) (fun c6 => ?_) (fun c6 => ?_)
  · have hf := br_n c6 hf
    refine lv_iload_n C.1 C.2.1 dX10_corner_13 rfl (lv_at hl 3 rfl) ?_
    refine lv_if_ne (tgt := 26) C.1 C.2.1 dX10_corner_14 (by decide) (fun c14 => ?_) (fun c14 => ?_)
    · have hf := br_n c14 hf
      refine lv_iload_n C.1 C.2.1 dX10_corner_26 rfl (lv_at hl 3 rfl) ?_
      refine lv_iconst (v := (1 : Int32)) C.1 C.2.1 dX10_corner_27 (by decide) ?_
      refine lv_icmp_ne (tgt := 40) C.1 C.2.1 dX10_corner_28 (by decide) (fun c28 => ?_) (fun c28 => ?_)
      · have hf := br_n c28 hf
        refine lv_sipush (v := (-1002 : Int32)) C.1 C.2.1 dX10_corner_40 (by decide) ?_
        exact hB43 ls _ (lv_sub hl [0] rfl) hf
      · have hf := br_p c28 hf
        refine lv_aload_n C.1 C.2.1 dX10_corner_31 rfl (lv_at hl 0 rfl) ?_
        refine lv_iload_n C.1 C.2.1 dX10_corner_32 rfl (lv_at hl 1 rfl) ?_
        refine lv_iload_n C.1 C.2.1 dX10_corner_33 rfl (lv_at hl 2 rfl) ?_
        obtain ⟨r34, hc34, hf⟩ := bd_some hf
        refine callRV (As := [_, _]) C hK hP wv_X10_124 hl (km_cornerY l D cA ad _ F _ _ r34 hc34) (rcM hK hP) rfl rfl rfl (Nat.le_of_ble_eq_true rfl) ⟨Nat.le_refl _, Nat.le_refl _⟩ dX10_corner_34 ?_
        refine lv_goto (tgt := 43) C.1 C.2.1 dX10_corner_37 (by decide) ?_
        exact hB43 ls _ (lv_sub hl [0] rfl) hf
    · have hf := br_p c14 hf
      refine lv_aload_n C.1 C.2.1 dX10_corner_17 rfl (lv_at hl 0 rfl) ?_
      refine lv_iload_n C.1 C.2.1 dX10_corner_18 rfl (lv_at hl 1 rfl) ?_
      refine lv_iload_n C.1 C.2.1 dX10_corner_19 rfl (lv_at hl 2 rfl) ?_
      obtain ⟨r20, hc20, hf⟩ := bd_some hf
      refine callRV (As := [_, _]) C hK hP wv_X10_117 hl (km_cornerX l D cA ad _ F _ _ r20 hc20) (rcM hK hP) rfl rfl rfl (Nat.le_of_ble_eq_true rfl) ⟨Nat.le_refl _, Nat.le_refl _⟩ dX10_corner_20 ?_
      refine lv_goto (tgt := 43) C.1 C.2.1 dX10_corner_23 (by decide) ?_
      exact hB43 ls _ (lv_sub hl [0] rfl) hf
  · have hf := br_p c6 hf
    refine lv_sipush (v := (-1001 : Int32)) C.1 C.2.1 dX10_corner_9 (by decide) ?_
    exact KR.iret C hr hlk (Option.some.inj hf) dX10_corner_12
def fm_isOn_L177 (F : Nat) (σ : MS) (x4 : Int32) : Option (Int32) :=
  some x4
def fm_isOn_L169 (F : Nat) (σ : MS) (k18 : Int32 → Int32 → Int32 → Int32 → Int32 → Option (Int32)) (x1 : Int32) (x2 : Int32) (x3 : Int32) (x5 : Int32) (s0 : Int32) : Option (Int32) :=
  lt (x5 + (1 : Int32)) (fun x5_171 => k18 x1 x2 x3 s0 x5_171)
def fm_isOn_L167 (F : Nat) (σ : MS) (k18 : Int32 → Int32 → Int32 → Int32 → Int32 → Option (Int32)) (x1 : Int32) (x2 : Int32) (x3 : Int32) (x4 : Int32) (x5 : Int32) : Option (Int32) :=
  fm_isOn_L169 F σ k18 x1 x2 x3 x5 x4
def fm_isOn_L142 (F : Nat) (σ : MS) (k18 : Int32 → Int32 → Int32 → Int32 → Int32 → Option (Int32)) (x1 : Int32) (x2 : Int32) (x3 : Int32) (x4 : Int32) (x5 : Int32) (x6 : Int32) (s0 : Int32) : Option (Int32) :=
  if s0 = 0 then (if x6 = 0 then (fm_isOn_L167 F σ k18 x1 x2 x3 x4 x5) else (if x4 = 0 then (fm_isOn_L169 F σ k18 x1 x2 x3 x5 (1 : Int32)) else (fm_isOn_L167 F σ k18 x1 x2 x3 x4 x5))) else (fm_isOn_L169 F σ k18 x1 x2 x3 x5 (2 : Int32))
def fm_isOn_L141 (F : Nat) (σ : MS) (k18 : Int32 → Int32 → Int32 → Int32 → Int32 → Option (Int32)) (x1 : Int32) (x2 : Int32) (x3 : Int32) (x4 : Int32) (x5 : Int32) (x6 : Int32) : Option (Int32) :=
  fm_isOn_L142 F σ k18 x1 x2 x3 x4 x5 x6 (0 : Int32)
def fm_isOn_L137 (F : Nat) (σ : MS) (k18 : Int32 → Int32 → Int32 → Int32 → Int32 → Option (Int32)) (x1 : Int32) (x2 : Int32) (x3 : Int32) (x4 : Int32) (x5 : Int32) (x6 : Int32) : Option (Int32) :=
  fm_isOn_L142 F σ k18 x1 x2 x3 x4 x5 x6 (1 : Int32)
def fm_isOn_L111 (F : Nat) (σ : MS) (k18 : Int32 → Int32 → Int32 → Int32 → Int32 → Option (Int32)) (x1 : Int32) (x2 : Int32) (x3 : Int32) (x4 : Int32) (x5 : Int32) (x6 : Int32) : Option (Int32) :=
  bd (fm_cornerX F σ x1 (x5 + (1 : Int32))) (fun r118 => if x2 = r118 then (bd (fm_cornerY F σ x1 (x5 + (1 : Int32))) (fun r131 => if x3 = r131 then (fm_isOn_L137 F σ k18 x1 x2 x3 x4 x5 x6) else (fm_isOn_L141 F σ k18 x1 x2 x3 x4 x5 x6))) else (fm_isOn_L141 F σ k18 x1 x2 x3 x4 x5 x6))
def fm_isOn_L87 (F : Nat) (σ : MS) (k18 : Int32 → Int32 → Int32 → Int32 → Int32 → Option (Int32)) (x1 : Int32) (x2 : Int32) (x3 : Int32) (x4 : Int32) (x5 : Int32) (s0 : Int32) : Option (Int32) :=
  bd (fm_cornerX F σ x1 x5) (fun r94 => if x2 = r94 then (bd (fm_cornerY F σ x1 x5) (fun r105 => if x3 = r105 then (fm_isOn_L137 F σ k18 x1 x2 x3 x4 x5 s0) else (fm_isOn_L111 F σ k18 x1 x2 x3 x4 x5 s0))) else (fm_isOn_L111 F σ k18 x1 x2 x3 x4 x5 s0))
def fm_isOn_L86 (F : Nat) (σ : MS) (k18 : Int32 → Int32 → Int32 → Int32 → Int32 → Option (Int32)) (x1 : Int32) (x2 : Int32) (x3 : Int32) (x4 : Int32) (x5 : Int32) : Option (Int32) :=
  fm_isOn_L87 F σ k18 x1 x2 x3 x4 x5 (0 : Int32)
def fm_isOn_L18_c (F : Nat) (σ : MS) (k18 : Int32 → Int32 → Int32 → Int32 → Int32 → Option (Int32)) (x1 : Int32) (x2 : Int32) (x3 : Int32) (x4 : Int32) (x5 : Int32) : Option (Int32) :=
  bd (fm_hasRoute F σ x1) (fun r20 => if r20 = 0 then (fm_isOn_L177 F σ x4) else (bd (fm_of F σ x1 (8 : Int32)) (fun r32 => if (r32 - (1 : Int32)) ≤ x5 then (fm_isOn_L177 F σ x4) else (bd (fm_lowX F σ x1 x5) (fun r45 => bd (fm_highX F σ x1 x5) (fun r52 => bd (fm_in F x2 r45 r52) (fun r55 => if r55 = 0 then (fm_isOn_L86 F σ k18 x1 x2 x3 x4 x5) else (bd (fm_lowY F σ x1 x5) (fun r66 => bd (fm_highY F σ x1 x5) (fun r73 => bd (fm_in F x3 r66 r73) (fun r76 => if r76 = 0 then (fm_isOn_L86 F σ k18 x1 x2 x3 x4 x5) else (fm_isOn_L87 F σ k18 x1 x2 x3 x4 x5 (1 : Int32)))))))))))))
def fm_isOn_L18 (F : Nat) (σ : MS) (n : Nat) (x1 : Int32) (x2 : Int32) (x3 : Int32) (x4 : Int32) (x5 : Int32) : Option (Int32) := lpN (fun (k : Int32 × Int32 × Int32 × Int32 × Int32 → Option (Int32)) a => fm_isOn_L18_c F σ (fun x1 x2 x3 x4 x5 => k (x1, x2, x3, x4, x5)) a.1 a.2.1 a.2.2.1 a.2.2.2.1 a.2.2.2.2) n (x1, x2, x3, x4, x5)
def fm_isOn (F : Nat) (σ : MS) (x1 : Int32) (x2 : Int32) (x3 : Int32) : Option (Int32) :=
  bd (fm_isLink F σ x1) (fun r2 => if r2 = 0 then (some (-1001 : Int32)) else (fm_isOn_L18 F σ F x1 x2 x3 (0 : Int32) (0 : Int32)))
set_option maxHeartbeats 4000000 in
set_option maxRecDepth 100000 in
theorem km_isOn (l : Launch) (D : va_G) (cA : Nat → ClassId) (ad : Nat → Nat) (σ : MS) (F : Nat) (a1 : Int32) (a2 : Int32) (a3 : Int32) (r : Int32) (hf : fm_isOn F σ a1 a2 a3 = some r) : KR l D (tyG cA) yX10_isOn cX10_isOn 8 (some .int) (rmk 4 88) (wM cA ad σ) [.ref (ad 0), .int a1, .int a2, .int a3] r := by
  refine KR.of (by decide) (Nat.le_of_ble_eq_true rfl) ?_
  intro p e s m below meth c C hr hlk hK hP ls hl
  have hl : lv_has ls 8 [(0, .ref (ad 0)), (1, .int a1), (2, .int a2), (3, .int a3)] := hl
  have hB177 : ∀ (ls : Array Slot) (x4 : Int32), lv_has ls 8 [(0, .ref (ad 0)), (4, .int x4)] → fm_isOn_L177 F σ x4 = some r → WR p l e 4 88 s m [.ref (ad 0), .int a1, .int a2, .int a3] below meth c r (F0 m 177 ls []) := by
    intro ls x4 hl hf
    unfold fm_isOn_L177 at hf
    refine lv_iload C.1 C.2.1 dX10_isOn_177 (lv_at hl 1 rfl) ?_
    exact KR.iret C hr hlk (Option.some.inj hf) dX10_isOn_179
  have hB18 : ∀ (n18 : Nat) (ls : Array Slot) (x1 : Int32) (x2 : Int32) (x3 : Int32) (x4 : Int32) (x5 : Int32), lv_has ls 8 [(0, .ref (ad 0)), (1, .int x1), (2, .int x2), (3, .int x3), (4, .int x4), (5, .int x5)] → fm_isOn_L18 F σ n18 x1 x2 x3 x4 x5 = some r → WR p l e 4 88 s m [.ref (ad 0), .int a1, .int a2, .int a3] below meth c r (F0 m 18 ls []) := by
    intro n18
    induction n18 with
    | zero =>
      intro ls x1 x2 x3 x4 x5 hl hf
      cases (show (none : Option _) = _ from hf)
    | succ n18 ih18 =>
      have hB169 : ∀ (ls : Array Slot) (x1 : Int32) (x2 : Int32) (x3 : Int32) (x5 : Int32) (s0 : Int32), lv_has ls 8 [(0, .ref (ad 0)), (1, .int x1), (2, .int x2), (3, .int x3), (5, .int x5)] → fm_isOn_L169 F σ (fm_isOn_L18 F σ n18) x1 x2 x3 x5 s0 = some r → WR p l e 4 88 s m [.ref (ad 0), .int a1, .int a2, .int a3] below meth c r (F0 m 169 ls [.int s0]) := by
        intro ls x1 x2 x3 x5 s0 hl hf
        unfold fm_isOn_L169 at hf
        refine lv_istore (lv' := [(4, .int s0), (0, .ref (ad 0)), (1, .int x1), (2, .int x2), (3, .int x3), (5, .int x5)]) C.1 C.2.1 dX10_isOn_169 hl (by decide) rfl (fun ls hl => ?_)
        obtain ⟨x5_171, ex5_171, hf⟩ := lt_some hf
        refine lv_iinc (v := x5_171) (lv' := [(5, .int x5_171), (4, .int s0), (0, .ref (ad 0)), (1, .int x1), (2, .int x2), (3, .int x3)]) C.1 C.2.1 dX10_isOn_171 hl (k := 5) rfl (by rw [ex5_171]; rfl) (by decide) rfl (fun ls hl => ?_)
        refine lv_goto (tgt := 18) C.1 C.2.1 dX10_isOn_174 (by decide) ?_
        exact ih18 ls _ _ _ _ _ (lv_sub hl [2, 3, 4, 5, 1, 0] rfl) hf
      have hB167 : ∀ (ls : Array Slot) (x1 : Int32) (x2 : Int32) (x3 : Int32) (x4 : Int32) (x5 : Int32), lv_has ls 8 [(0, .ref (ad 0)), (1, .int x1), (2, .int x2), (3, .int x3), (4, .int x4), (5, .int x5)] → fm_isOn_L167 F σ (fm_isOn_L18 F σ n18) x1 x2 x3 x4 x5 = some r → WR p l e 4 88 s m [.ref (ad 0), .int a1, .int a2, .int a3] below meth c r (F0 m 167 ls []) := by
        intro ls x1 x2 x3 x4 x5 hl hf
        unfold fm_isOn_L167 at hf
        refine lv_iload C.1 C.2.1 dX10_isOn_167 (lv_at hl 4 rfl) ?_
        exact hB169 ls _ _ _ _ _ (lv_sub hl [0, 1, 2, 3, 5] rfl) hf
      have hB142 : ∀ (ls : Array Slot) (x1 : Int32) (x2 : Int32) (x3 : Int32) (x4 : Int32) (x5 : Int32) (x6 : Int32) (s0 : Int32), lv_has ls 8 [(0, .ref (ad 0)), (1, .int x1), (2, .int x2), (3, .int x3), (4, .int x4), (5, .int x5), (6, .int x6)] → fm_isOn_L142 F σ (fm_isOn_L18 F σ n18) x1 x2 x3 x4 x5 x6 s0 = some r → WR p l e 4 88 s m [.ref (ad 0), .int a1, .int a2, .int a3] below meth c r (F0 m 142 ls [.int s0]) := by
        intro ls x1 x2 x3 x4 x5 x6 s0 hl hf
        unfold fm_isOn_L142 at hf
        refine lv_istore (lv' := [(7, .int s0), (0, .ref (ad 0)), (1, .int x1), (2, .int x2), (3, .int x3), (4, .int x4), (5, .int x5), (6, .int x6)]) C.1 C.2.1 dX10_isOn_142 hl (by decide) rfl (fun ls hl => ?_)
        refine lv_iload C.1 C.2.1 dX10_isOn_144 (lv_at hl 0 rfl) ?_
        refine lv_if_eq (tgt := 153) C.1 C.2.1 dX10_isOn_146 (by decide) (fun c146 => ?_) (fun c146 => ?_)
        · have hf := br_p c146 hf
          refine lv_iload C.1 C.2.1 dX10_isOn_153 (lv_at hl 7 rfl) ?_
          refine lv_if_eq (tgt := 167) C.1 C.2.1 dX10_isOn_155 (by decide) (fun c155 => ?_) (fun c155 => ?_)
          · have hf := br_p c155 hf
            exact hB167 ls _ _ _ _ _ (lv_sub hl [1, 2, 3, 4, 5, 6] rfl) hf
          · have hf := br_n c155 hf
            refine lv_iload C.1 C.2.1 dX10_isOn_158 (lv_at hl 5 rfl) ?_
            refine lv_if_ne (tgt := 167) C.1 C.2.1 dX10_isOn_160 (by decide) (fun c160 => ?_) (fun c160 => ?_)
            · have hf := br_n c160 hf
              exact hB167 ls _ _ _ _ _ (lv_sub hl [1, 2, 3, 4, 5, 6] rfl) hf
            · have hf := br_p c160 hf
              refine lv_iconst (v := (1 : Int32)) C.1 C.2.1 dX10_isOn_163 (by decide) ?_
              refine lv_goto (tgt := 169) C.1 C.2.1 dX10_isOn_164 (by decide) ?_
              exact hB169 ls _ _ _ _ _ (lv_sub hl [1, 2, 3, 4, 6] rfl) hf
        · have hf := br_n c146 hf
          refine lv_iconst (v := (2 : Int32)) C.1 C.2.1 dX10_isOn_149 (by decide) ?_
          refine lv_goto (tgt := 169) C.1 C.2.1 dX10_isOn_150 (by decide) ?_
          exact hB169 ls _ _ _ _ _ (lv_sub hl [1, 2, 3, 4, 6] rfl) hf
      have hB141 : ∀ (ls : Array Slot) (x1 : Int32) (x2 : Int32) (x3 : Int32) (x4 : Int32) (x5 : Int32) (x6 : Int32), lv_has ls 8 [(0, .ref (ad 0)), (1, .int x1), (2, .int x2), (3, .int x3), (4, .int x4), (5, .int x5), (6, .int x6)] → fm_isOn_L141 F σ (fm_isOn_L18 F σ n18) x1 x2 x3 x4 x5 x6 = some r → WR p l e 4 88 s m [.ref (ad 0), .int a1, .int a2, .int a3] below meth c r (F0 m 141 ls []) := by
        intro ls x1 x2 x3 x4 x5 x6 hl hf
        unfold fm_isOn_L141 at hf
        refine lv_iconst (v := (0 : Int32)) C.1 C.2.1 dX10_isOn_141 (by decide) ?_
        exact hB142 ls _ _ _ _ _ _ _ (lv_sub hl [0, 1, 2, 3, 4, 5, 6] rfl) hf
      have hB137 : ∀ (ls : Array Slot) (x1 : Int32) (x2 : Int32) (x3 : Int32) (x4 : Int32) (x5 : Int32) (x6 : Int32), lv_has ls 8 [(0, .ref (ad 0)), (1, .int x1), (2, .int x2), (3, .int x3), (4, .int x4), (5, .int x5), (6, .int x6)] → fm_isOn_L137 F σ (fm_isOn_L18 F σ n18) x1 x2 x3 x4 x5 x6 = some r → WR p l e 4 88 s m [.ref (ad 0), .int a1, .int a2, .int a3] below meth c r (F0 m 137 ls []) := by
        intro ls x1 x2 x3 x4 x5 x6 hl hf
        unfold fm_isOn_L137 at hf
        refine lv_iconst (v := (1 : Int32)) C.1 C.2.1 dX10_isOn_137 (by decide) ?_
        refine lv_goto (tgt := 142) C.1 C.2.1 dX10_isOn_138 (by decide) ?_
        exact hB142 ls _ _ _ _ _ _ _ (lv_sub hl [0, 1, 2, 3, 4, 5, 6] rfl) hf
      have hB111 : ∀ (ls : Array Slot) (x1 : Int32) (x2 : Int32) (x3 : Int32) (x4 : Int32) (x5 : Int32) (x6 : Int32), lv_has ls 8 [(0, .ref (ad 0)), (1, .int x1), (2, .int x2), (3, .int x3), (4, .int x4), (5, .int x5), (6, .int x6)] → fm_isOn_L111 F σ (fm_isOn_L18 F σ n18) x1 x2 x3 x4 x5 x6 = some r → WR p l e 4 88 s m [.ref (ad 0), .int a1, .int a2, .int a3] below meth c r (F0 m 111 ls []) := by
        intro ls x1 x2 x3 x4 x5 x6 hl hf
        unfold fm_isOn_L111 at hf
        refine lv_iload_n C.1 C.2.1 dX10_isOn_111 rfl (lv_at hl 2 rfl) ?_
        refine lv_aload_n C.1 C.2.1 dX10_isOn_112 rfl (lv_at hl 0 rfl) ?_
        refine lv_iload_n C.1 C.2.1 dX10_isOn_113 rfl (lv_at hl 1 rfl) ?_
        refine lv_iload C.1 C.2.1 dX10_isOn_114 (lv_at hl 5 rfl) ?_
        refine lv_iconst (v := (1 : Int32)) C.1 C.2.1 dX10_isOn_116 (by decide) ?_
        refine lv_iadd C.1 C.2.1 dX10_isOn_117 ?_
        obtain ⟨r118, hc118, hf⟩ := bd_some hf
        refine callRV (As := [_, _]) C hK hP wv_X10_117 hl (km_cornerX l D cA ad _ F _ _ r118 hc118) (rcM hK hP) rfl rfl rfl (Nat.le_of_ble_eq_true rfl) ⟨Nat.le_refl _, Nat.le_refl _⟩ dX10_isOn_118 ?_
        refine lv_icmp_ne (tgt := 141) C.1 C.2.1 dX10_isOn_121 (by decide) (fun c121 => ?_) (fun c121 => ?_)
        · have hf := br_n c121 hf
          exact hB141 ls _ _ _ _ _ _ (lv_sub hl [0, 1, 2, 3, 4, 5, 6] rfl) hf
        · have hf := br_p c121 hf
          refine lv_iload_n C.1 C.2.1 dX10_isOn_124 rfl (lv_at hl 3 rfl) ?_
          refine lv_aload_n C.1 C.2.1 dX10_isOn_125 rfl (lv_at hl 0 rfl) ?_
          refine lv_iload_n C.1 C.2.1 dX10_isOn_126 rfl (lv_at hl 1 rfl) ?_
          refine lv_iload C.1 C.2.1 dX10_isOn_127 (lv_at hl 5 rfl) ?_
          refine lv_iconst (v := (1 : Int32)) C.1 C.2.1 dX10_isOn_129 (by decide) ?_
          refine lv_iadd C.1 C.2.1 dX10_isOn_130 ?_
          obtain ⟨r131, hc131, hf⟩ := bd_some hf
          refine callRV (As := [_, _]) C hK hP wv_X10_124 hl (km_cornerY l D cA ad _ F _ _ r131 hc131) (rcM hK hP) rfl rfl rfl (Nat.le_of_ble_eq_true rfl) ⟨Nat.le_refl _, Nat.le_refl _⟩ dX10_isOn_131 ?_
          refine lv_icmp_ne (tgt := 141) C.1 C.2.1 dX10_isOn_134 (by decide) (fun c134 => ?_) (fun c134 => ?_)
          · have hf := br_n c134 hf
            exact hB141 ls _ _ _ _ _ _ (lv_sub hl [0, 1, 2, 3, 4, 5, 6] rfl) hf
          · have hf := br_p c134 hf
            exact hB137 ls _ _ _ _ _ _ (lv_sub hl [0, 1, 2, 3, 4, 5, 6] rfl) hf
      have hB87 : ∀ (ls : Array Slot) (x1 : Int32) (x2 : Int32) (x3 : Int32) (x4 : Int32) (x5 : Int32) (s0 : Int32), lv_has ls 8 [(0, .ref (ad 0)), (1, .int x1), (2, .int x2), (3, .int x3), (4, .int x4), (5, .int x5)] → fm_isOn_L87 F σ (fm_isOn_L18 F σ n18) x1 x2 x3 x4 x5 s0 = some r → WR p l e 4 88 s m [.ref (ad 0), .int a1, .int a2, .int a3] below meth c r (F0 m 87 ls [.int s0]) := by
        intro ls x1 x2 x3 x4 x5 s0 hl hf
        unfold fm_isOn_L87 at hf
        refine lv_istore (lv' := [(6, .int s0), (0, .ref (ad 0)), (1, .int x1), (2, .int x2), (3, .int x3), (4, .int x4), (5, .int x5)]) C.1 C.2.1 dX10_isOn_87 hl (by decide) rfl (fun ls hl => ?_)
        refine lv_iload_n C.1 C.2.1 dX10_isOn_89 rfl (lv_at hl 3 rfl) ?_
        refine lv_aload_n C.1 C.2.1 dX10_isOn_90 rfl (lv_at hl 1 rfl) ?_
        refine lv_iload_n C.1 C.2.1 dX10_isOn_91 rfl (lv_at hl 2 rfl) ?_
        refine lv_iload C.1 C.2.1 dX10_isOn_92 (lv_at hl 6 rfl) ?_
        obtain ⟨r94, hc94, hf⟩ := bd_some hf
        refine callRV (As := [_, _]) C hK hP wv_X10_117 hl (km_cornerX l D cA ad _ F _ _ r94 hc94) (rcM hK hP) rfl rfl rfl (Nat.le_of_ble_eq_true rfl) ⟨Nat.le_refl _, Nat.le_refl _⟩ dX10_isOn_94 ?_
        refine lv_icmp_ne (tgt := 111) C.1 C.2.1 dX10_isOn_97 (by decide) (fun c97 => ?_) (fun c97 => ?_)
        · have hf := br_n c97 hf
          exact hB111 ls _ _ _ _ _ _ (lv_sub hl [1, 2, 3, 4, 5, 6, 0] rfl) hf
        · have hf := br_p c97 hf
          refine lv_iload_n C.1 C.2.1 dX10_isOn_100 rfl (lv_at hl 4 rfl) ?_
          refine lv_aload_n C.1 C.2.1 dX10_isOn_101 rfl (lv_at hl 1 rfl) ?_
          refine lv_iload_n C.1 C.2.1 dX10_isOn_102 rfl (lv_at hl 2 rfl) ?_
          refine lv_iload C.1 C.2.1 dX10_isOn_103 (lv_at hl 6 rfl) ?_
          obtain ⟨r105, hc105, hf⟩ := bd_some hf
          refine callRV (As := [_, _]) C hK hP wv_X10_124 hl (km_cornerY l D cA ad _ F _ _ r105 hc105) (rcM hK hP) rfl rfl rfl (Nat.le_of_ble_eq_true rfl) ⟨Nat.le_refl _, Nat.le_refl _⟩ dX10_isOn_105 ?_
          refine lv_icmp_eq (tgt := 137) C.1 C.2.1 dX10_isOn_108 (by decide) (fun c108 => ?_) (fun c108 => ?_)
          · have hf := br_p c108 hf
            exact hB137 ls _ _ _ _ _ _ (lv_sub hl [1, 2, 3, 4, 5, 6, 0] rfl) hf
          · have hf := br_n c108 hf
            exact hB111 ls _ _ _ _ _ _ (lv_sub hl [1, 2, 3, 4, 5, 6, 0] rfl) hf
      have hB86 : ∀ (ls : Array Slot) (x1 : Int32) (x2 : Int32) (x3 : Int32) (x4 : Int32) (x5 : Int32), lv_has ls 8 [(0, .ref (ad 0)), (1, .int x1), (2, .int x2), (3, .int x3), (4, .int x4), (5, .int x5)] → fm_isOn_L86 F σ (fm_isOn_L18 F σ n18) x1 x2 x3 x4 x5 = some r → WR p l e 4 88 s m [.ref (ad 0), .int a1, .int a2, .int a3] below meth c r (F0 m 86 ls []) := by
        intro ls x1 x2 x3 x4 x5 hl hf
        unfold fm_isOn_L86 at hf
        refine lv_iconst (v := (0 : Int32)) C.1 C.2.1 dX10_isOn_86 (by decide) ?_
        exact hB87 ls _ _ _ _ _ _ (lv_sub hl [0, 1, 2, 3, 4, 5] rfl) hf
      intro ls x1 x2 x3 x4 x5 hl hf
      have hf : fm_isOn_L18_c F σ (fm_isOn_L18 F σ n18) x1 x2 x3 x4 x5 = some r := hf
      unfold fm_isOn_L18_c at hf
      refine lv_aload_n C.1 C.2.1 dX10_isOn_18 rfl (lv_at hl 0 rfl) ?_
      refine lv_iload_n C.1 C.2.1 dX10_isOn_19 rfl (lv_at hl 1 rfl) ?_
      obtain ⟨r20, hc20, hf⟩ := bd_some hf
      refine callRV (As := [_]) C hK hP wv_X10_114 hl (km_hasRoute l D cA ad _ F _ r20 hc20) (rcM hK hP) rfl rfl rfl (Nat.le_of_ble_eq_true rfl) ⟨Nat.le_refl _, Nat.le_refl _⟩ dX10_isOn_20 ?_
      refine lv_if_eq (tgt := 177) C.1 C.2.1 dX10_isOn_23 (by decide) (fun c23 => ?_) (fun c23 => ?_)
      · have hf := br_p c23 hf
        exact hB177 ls _ (lv_sub hl [0, 4] rfl) hf
      · have hf := br_n c23 hf
        refine lv_iload C.1 C.2.1 dX10_isOn_26 (lv_at hl 5 rfl) ?_
        refine lv_aload_n C.1 C.2.1 dX10_isOn_28 rfl (lv_at hl 0 rfl) ?_
        refine lv_iload_n C.1 C.2.1 dX10_isOn_29 rfl (lv_at hl 1 rfl) ?_
        refine lv_bipush (v := (8 : Int32)) C.1 C.2.1 dX10_isOn_30 (by decide) ?_
        obtain ⟨r32, hc32, hf⟩ := bd_some hf
        refine callRV (As := [_, _]) C hK hP wv_X10_95 hl (km_of l D cA ad _ F _ _ r32 hc32) (rcM hK hP) rfl rfl rfl (Nat.le_of_ble_eq_true rfl) ⟨Nat.le_refl _, Nat.le_refl _⟩ dX10_isOn_32 ?_
        refine lv_iconst (v := (1 : Int32)) C.1 C.2.1 dX10_isOn_35 (by decide) ?_
        refine lv_isub C.1 C.2.1 dX10_isOn_36 ?_
        refine lv_icmp_ge (tgt := 177) C.1 C.2.1 dX10_isOn_37 (by decide) (fun c37 => ?_) (fun c37 => ?_)
        · have hf := br_p c37 hf
          exact hB177 ls _ (lv_sub hl [0, 4] rfl) hf
        · have hf := br_n c37 hf
          refine lv_iload_n C.1 C.2.1 dX10_isOn_40 rfl (lv_at hl 2 rfl) ?_
          refine lv_aload_n C.1 C.2.1 dX10_isOn_41 rfl (lv_at hl 0 rfl) ?_
          refine lv_iload_n C.1 C.2.1 dX10_isOn_42 rfl (lv_at hl 1 rfl) ?_
          refine lv_iload C.1 C.2.1 dX10_isOn_43 (lv_at hl 5 rfl) ?_
          obtain ⟨r45, hc45, hf⟩ := bd_some hf
          refine callRV (As := [_, _]) C hK hP wv_X10_201 hl (km_lowX l D cA ad _ F _ _ r45 hc45) (rcM hK hP) rfl rfl rfl (Nat.le_of_ble_eq_true rfl) ⟨Nat.le_refl _, Nat.le_refl _⟩ dX10_isOn_45 ?_
          refine lv_aload_n C.1 C.2.1 dX10_isOn_48 rfl (lv_at hl 0 rfl) ?_
          refine lv_iload_n C.1 C.2.1 dX10_isOn_49 rfl (lv_at hl 1 rfl) ?_
          refine lv_iload C.1 C.2.1 dX10_isOn_50 (lv_at hl 5 rfl) ?_
          obtain ⟨r52, hc52, hf⟩ := bd_some hf
          refine callRV (As := [_, _]) C hK hP wv_X10_207 hl (km_highX l D cA ad _ F _ _ r52 hc52) (rcM hK hP) rfl rfl rfl (Nat.le_of_ble_eq_true rfl) ⟨Nat.le_refl _, Nat.le_refl _⟩ dX10_isOn_52 ?_
          obtain ⟨r55, hc55, hf⟩ := bd_some hf
          refine callRS (As := [_, _, _]) C hK hP wv_X10_68 hl (km_in l D cA _ F _ _ _ r55 hc55) rfl rfl rfl (Nat.le_of_ble_eq_true rfl) ⟨Nat.le_refl _, Nat.le_refl _⟩ dX10_isOn_55 ?_
          refine lv_if_eq (tgt := 86) C.1 C.2.1 dX10_isOn_58 (by decide) (fun c58 => ?_) (fun c58 => ?_)
          · have hf := br_p c58 hf
            exact hB86 ls _ _ _ _ _ (lv_sub hl [0, 1, 2, 3, 4, 5] rfl) hf
          · have hf := br_n c58 hf
            refine lv_iload_n C.1 C.2.1 dX10_isOn_61 rfl (lv_at hl 3 rfl) ?_
            refine lv_aload_n C.1 C.2.1 dX10_isOn_62 rfl (lv_at hl 0 rfl) ?_
            refine lv_iload_n C.1 C.2.1 dX10_isOn_63 rfl (lv_at hl 1 rfl) ?_
            refine lv_iload C.1 C.2.1 dX10_isOn_64 (lv_at hl 5 rfl) ?_
            obtain ⟨r66, hc66, hf⟩ := bd_some hf
            refine callRV (As := [_, _]) C hK hP wv_X10_204 hl (km_lowY l D cA ad _ F _ _ r66 hc66) (rcM hK hP) rfl rfl rfl (Nat.le_of_ble_eq_true rfl) ⟨Nat.le_refl _, Nat.le_refl _⟩ dX10_isOn_66 ?_
            refine lv_aload_n C.1 C.2.1 dX10_isOn_69 rfl (lv_at hl 0 rfl) ?_
            refine lv_iload_n C.1 C.2.1 dX10_isOn_70 rfl (lv_at hl 1 rfl) ?_
            refine lv_iload C.1 C.2.1 dX10_isOn_71 (lv_at hl 5 rfl) ?_
            obtain ⟨r73, hc73, hf⟩ := bd_some hf
            refine callRV (As := [_, _]) C hK hP wv_X10_210 hl (km_highY l D cA ad _ F _ _ r73 hc73) (rcM hK hP) rfl rfl rfl (Nat.le_of_ble_eq_true rfl) ⟨Nat.le_refl _, Nat.le_refl _⟩ dX10_isOn_73 ?_
            obtain ⟨r76, hc76, hf⟩ := bd_some hf
            refine callRS (As := [_, _, _]) C hK hP wv_X10_68 hl (km_in l D cA _ F _ _ _ r76 hc76) rfl rfl rfl (Nat.le_of_ble_eq_true rfl) ⟨Nat.le_refl _, Nat.le_refl _⟩ dX10_isOn_76 ?_
            refine lv_if_eq (tgt := 86) C.1 C.2.1 dX10_isOn_79 (by decide) (fun c79 => ?_) (fun c79 => ?_)
            · have hf := br_p c79 hf
              exact hB86 ls _ _ _ _ _ (lv_sub hl [0, 1, 2, 3, 4, 5] rfl) hf
            · have hf := br_n c79 hf
              refine lv_iconst (v := (1 : Int32)) C.1 C.2.1 dX10_isOn_82 (by decide) ?_
              refine lv_goto (tgt := 87) C.1 C.2.1 dX10_isOn_83 (by decide) ?_
              exact hB87 ls _ _ _ _ _ _ (lv_sub hl [0, 1, 2, 3, 4, 5] rfl) hf
  unfold fm_isOn at hf
  refine lv_aload_n C.1 C.2.1 dX10_isOn_0 rfl (lv_at hl 0 rfl) ?_
  refine lv_iload_n C.1 C.2.1 dX10_isOn_1 rfl (lv_at hl 1 rfl) ?_
  obtain ⟨r2, hc2, hf⟩ := bd_some hf
  refine callRV (As := [_]) C hK hP wv_X10_111 hl (km_isLink l D cA ad _ F _ r2 hc2) (rcM hK hP) rfl rfl rfl (Nat.le_of_ble_eq_true rfl) ⟨Nat.le_refl _, Nat.le_refl _⟩ dX10_isOn_2 ?_
  refine lv_if_ne (tgt := 12) C.1 C.2.1 dX10_isOn_5 (by decide) (fun c5 => ?_) (fun c5 => ?_)
  · have hf := br_n c5 hf
    refine lv_iconst (v := (0 : Int32)) C.1 C.2.1 dX10_isOn_12 (by decide) ?_
    refine lv_istore (lv' := [(4, .int (0 : Int32)), (0, .ref (ad 0)), (1, .int a1), (2, .int a2), (3, .int a3)]) C.1 C.2.1 dX10_isOn_13 hl (by decide) rfl (fun ls hl => ?_)
    refine lv_iconst (v := (0 : Int32)) C.1 C.2.1 dX10_isOn_15 (by decide) ?_
    refine lv_istore (lv' := [(5, .int (0 : Int32)), (4, .int (0 : Int32)), (0, .ref (ad 0)), (1, .int a1), (2, .int a2), (3, .int a3)]) C.1 C.2.1 dX10_isOn_16 hl (by decide) rfl (fun ls hl => ?_)
    exact hB18 F ls _ _ _ _ _ (lv_sub hl [2, 3, 4, 5, 1, 0] rfl) hf
  · have hf := br_p c5 hf
    refine lv_sipush (v := (-1001 : Int32)) C.1 C.2.1 dX10_isOn_8 (by decide) ?_
    exact KR.iret C hr hlk (Option.some.inj hf) dX10_isOn_11
def fm_crossings_L35 (F : Nat) (σ : MS) (s0 : Int32) : Option (Int32) :=
  some s0
def fm_crossings_L16 (F : Nat) (σ : MS) : Option (Int32) :=
  some (-1001 : Int32)
def fm_crossings (F : Nat) (σ : MS) (x1 : Int32) (x2 : Int32) : Option (Int32) :=
  bd (fm_isLink F σ x1) (fun r2 => if r2 = 0 then (fm_crossings_L16 F σ) else (bd (fm_isLink F σ x2) (fun r10 => if r10 = 0 then (fm_crossings_L16 F σ) else (if x1 = x2 then (fm_crossings_L35 F σ (0 : Int32)) else (bd (fm_crossingsOf F σ x1 x2) (fun r32 => fm_crossings_L35 F σ r32))))))
set_option maxHeartbeats 4000000 in
set_option maxRecDepth 100000 in
theorem km_crossings (l : Launch) (D : va_G) (cA : Nat → ClassId) (ad : Nat → Nat) (σ : MS) (F : Nat) (a1 : Int32) (a2 : Int32) (r : Int32) (hf : fm_crossings F σ a1 a2 = some r) : KR l D (tyG cA) yX10_crossings cX10_crossings 3 (some .int) (rmk 5 120) (wM cA ad σ) [.ref (ad 0), .int a1, .int a2] r := by
  refine KR.of (by decide) (Nat.le_of_ble_eq_true rfl) ?_
  intro p e s m below meth c C hr hlk hK hP ls hl
  have hl : lv_has ls 3 [(0, .ref (ad 0)), (1, .int a1), (2, .int a2)] := hl
  have hB35 : ∀ (ls : Array Slot) (s0 : Int32), lv_has ls 3 [(0, .ref (ad 0))] → fm_crossings_L35 F σ s0 = some r → WR p l e 5 120 s m [.ref (ad 0), .int a1, .int a2] below meth c r (F0 m 35 ls [.int s0]) := by
    intro ls s0 hl hf
    unfold fm_crossings_L35 at hf
    exact KR.iret C hr hlk (Option.some.inj hf) dX10_crossings_35
  have hB16 : ∀ (ls : Array Slot), lv_has ls 3 [(0, .ref (ad 0))] → fm_crossings_L16 F σ = some r → WR p l e 5 120 s m [.ref (ad 0), .int a1, .int a2] below meth c r (F0 m 16 ls []) := by
    intro ls hl hf
    unfold fm_crossings_L16 at hf
    refine lv_sipush (v := (-1001 : Int32)) C.1 C.2.1 dX10_crossings_16 (by decide) ?_
    exact KR.iret C hr hlk (Option.some.inj hf) dX10_crossings_19
  unfold fm_crossings at hf
  refine lv_aload_n C.1 C.2.1 dX10_crossings_0 rfl (lv_at hl 0 rfl) ?_
  refine lv_iload_n C.1 C.2.1 dX10_crossings_1 rfl (lv_at hl 1 rfl) ?_
  obtain ⟨r2, hc2, hf⟩ := bd_some hf
  refine callRV (As := [_]) C hK hP wv_X10_111 hl (km_isLink l D cA ad _ F _ r2 hc2) (rcM hK hP) rfl rfl rfl (Nat.le_of_ble_eq_true rfl) ⟨Nat.le_refl _, Nat.le_refl _⟩ dX10_crossings_2 ?_
  refine lv_if_eq (tgt := 16) C.1 C.2.1 dX10_crossings_5 (by decide) (fun c5 => ?_) (fun c5 => ?_)
  · have hf := br_p c5 hf
    exact hB16 ls (lv_sub hl [0] rfl) hf
  · have hf := br_n c5 hf
    refine lv_aload_n C.1 C.2.1 dX10_crossings_8 rfl (lv_at hl 0 rfl) ?_
    refine lv_iload_n C.1 C.2.1 dX10_crossings_9 rfl (lv_at hl 2 rfl) ?_
    obtain ⟨r10, hc10, hf⟩ := bd_some hf
    refine callRV (As := [_]) C hK hP wv_X10_111 hl (km_isLink l D cA ad _ F _ r10 hc10) (rcM hK hP) rfl rfl rfl (Nat.le_of_ble_eq_true rfl) ⟨Nat.le_refl _, Nat.le_refl _⟩ dX10_crossings_10 ?_
    refine lv_if_ne (tgt := 20) C.1 C.2.1 dX10_crossings_13 (by decide) (fun c13 => ?_) (fun c13 => ?_)
    · have hf := br_n c13 hf
      refine lv_iload_n C.1 C.2.1 dX10_crossings_20 rfl (lv_at hl 1 rfl) ?_
      refine lv_iload_n C.1 C.2.1 dX10_crossings_21 rfl (lv_at hl 2 rfl) ?_
      refine lv_icmp_ne (tgt := 29) C.1 C.2.1 dX10_crossings_22 (by decide) (fun c22 => ?_) (fun c22 => ?_)
      · have hf := br_n c22 hf
        refine lv_aload_n C.1 C.2.1 dX10_crossings_29 rfl (lv_at hl 0 rfl) ?_
        refine lv_iload_n C.1 C.2.1 dX10_crossings_30 rfl (lv_at hl 1 rfl) ?_
        refine lv_iload_n C.1 C.2.1 dX10_crossings_31 rfl (lv_at hl 2 rfl) ?_
        obtain ⟨r32, hc32, hf⟩ := bd_some hf
        refine callRV (As := [_, _]) C hK hP wv_X10_131 hl (km_crossingsOf l D cA ad _ F _ _ r32 hc32) (rcM hK hP) rfl rfl rfl (Nat.le_of_ble_eq_true rfl) ⟨Nat.le_refl _, Nat.le_refl _⟩ dX10_crossings_32 ?_
        exact hB35 ls _ (lv_sub hl [0] rfl) hf
      · have hf := br_p c22 hf
        refine lv_iconst (v := (0 : Int32)) C.1 C.2.1 dX10_crossings_25 (by decide) ?_
        refine lv_goto (tgt := 35) C.1 C.2.1 dX10_crossings_26 (by decide) ?_
        exact hB35 ls _ (lv_sub hl [0] rfl) hf
    · have hf := br_p c13 hf
      exact hB16 ls (lv_sub hl [0] rfl) hf
def fm_most_L10 (F : Nat) (s0 : Int32) : Option (Int32) :=
  some s0
def fm_most (F : Nat) (x0 : Int32) (x1 : Int32) : Option (Int32) :=
  if x0 ≤ x1 then (fm_most_L10 F x1) else (fm_most_L10 F x0)
set_option maxHeartbeats 4000000 in
set_option maxRecDepth 100000 in
theorem km_most (l : Launch) (D : va_G) (cA : Nat → ClassId) (w : va_W) (F : Nat) (a0 : Int32) (a1 : Int32) (r : Int32) (hf : fm_most F a0 a1 = some r) : KR l D (tyG cA) yX10_most cX10_most 2 (some .int) (rmk 0 0) w [.int a0, .int a1] r := by
  refine KR.of (by decide) (Nat.le_of_ble_eq_true rfl) ?_
  intro p e s m below meth c C hr hlk hK hP ls hl
  have hl : lv_has ls 2 [(0, .int a0), (1, .int a1)] := hl
  have hB10 : ∀ (ls : Array Slot) (s0 : Int32), lv_has ls 2 [] → fm_most_L10 F s0 = some r → WR p l e 0 0 s m [.int a0, .int a1] below meth c r (F0 m 10 ls [.int s0]) := by
    intro ls s0 hl hf
    unfold fm_most_L10 at hf
    exact KR.iret C hr hlk (Option.some.inj hf) dX10_most_10
  unfold fm_most at hf
  refine lv_iload_n C.1 C.2.1 dX10_most_0 rfl (lv_at hl 0 rfl) ?_
  refine lv_iload_n C.1 C.2.1 dX10_most_1 rfl (lv_at hl 1 rfl) ?_
  refine lv_icmp_le (tgt := 9) C.1 C.2.1 dX10_most_2 (by decide) (fun c2 => ?_) (fun c2 => ?_)
  · have hf := br_p c2 hf
    refine lv_iload_n C.1 C.2.1 dX10_most_9 rfl (lv_at hl 1 rfl) ?_
    exact hB10 ls _ (lv_sub hl [] rfl) hf
  · have hf := br_n c2 hf
    refine lv_iload_n C.1 C.2.1 dX10_most_5 rfl (lv_at hl 0 rfl) ?_
    refine lv_goto (tgt := 10) C.1 C.2.1 dX10_most_6 (by decide) ?_
    exact hB10 ls _ (lv_sub hl [] rfl) hf
def fm_common_L168 (F : Nat) (σ : MS) (s0 : Int32) : Option (Int32) :=
  some s0
def fm_common_L150 (F : Nat) (σ : MS) (x6 : Int32) (s0 : Int32) : Option (Int32) :=
  if s0 ≤ x6 then (fm_common_L168 F σ (0 : Int32)) else (fm_common_L168 F σ (s0 - x6))
def fm_common_L102 (F : Nat) (σ : MS) (x1 : Int32) (x2 : Int32) (x3 : Int32) (x4 : Int32) (x5 : Int32) (s0 : Int32) : Option (Int32) :=
  if x5 = 0 then (bd (fm_highY F σ x1 x2) (fun r134 => bd (fm_highY F σ x3 x4) (fun r142 => bd (fm_most F (-r134) (-r142)) (fun r146 => fm_common_L150 F σ s0 (-r146))))) else (bd (fm_highX F σ x1 x2) (fun r112 => bd (fm_highX F σ x3 x4) (fun r120 => bd (fm_most F (-r112) (-r120)) (fun r124 => fm_common_L150 F σ s0 (-r124)))))
def fm_common_L62 (F : Nat) (σ : MS) (x1 : Int32) (x2 : Int32) (x3 : Int32) (x4 : Int32) (x5 : Int32) : Option (Int32) :=
  if x5 = 0 then (bd (fm_lowY F σ x1 x2) (fun r89 => bd (fm_lowY F σ x3 x4) (fun r96 => bd (fm_most F r89 r96) (fun r99 => fm_common_L102 F σ x1 x2 x3 x4 x5 r99)))) else (bd (fm_lowX F σ x1 x2) (fun r70 => bd (fm_lowX F σ x3 x4) (fun r77 => bd (fm_most F r70 r77) (fun r80 => fm_common_L102 F σ x1 x2 x3 x4 x5 r80))))
def fm_common_L60 (F : Nat) (σ : MS) : Option (Int32) :=
  some (0 : Int32)
def fm_common (F : Nat) (σ : MS) (x1 : Int32) (x2 : Int32) (x3 : Int32) (x4 : Int32) : Option (Int32) :=
  bd (fm_isFlat F σ x1 x2) (fun r3 => bd (fm_isFlat F σ x3 x4) (fun r14 => if r3 = r14 then (if r3 = 0 then (bd (fm_cornerX F σ x1 x2) (fun r47 => bd (fm_cornerX F σ x3 x4) (fun r54 => if r47 = r54 then (fm_common_L62 F σ x1 x2 x3 x4 r3) else (fm_common_L60 F σ)))) else (bd (fm_cornerY F σ x1 x2) (fun r28 => bd (fm_cornerY F σ x3 x4) (fun r35 => if r28 = r35 then (fm_common_L62 F σ x1 x2 x3 x4 r3) else (fm_common_L60 F σ))))) else (fm_common_L60 F σ)))
set_option maxHeartbeats 4000000 in
set_option maxRecDepth 100000 in
theorem km_common (l : Launch) (D : va_G) (cA : Nat → ClassId) (ad : Nat → Nat) (σ : MS) (F : Nat) (a1 : Int32) (a2 : Int32) (a3 : Int32) (a4 : Int32) (r : Int32) (hf : fm_common F σ a1 a2 a3 a4 = some r) : KR l D (tyG cA) yX10_common cX10_common 8 (some .int) (rmk 4 88) (wM cA ad σ) [.ref (ad 0), .int a1, .int a2, .int a3, .int a4] r := by
  refine KR.of (by decide) (Nat.le_of_ble_eq_true rfl) ?_
  intro p e s m below meth c C hr hlk hK hP ls hl
  have hl : lv_has ls 8 [(0, .ref (ad 0)), (1, .int a1), (2, .int a2), (3, .int a3), (4, .int a4)] := hl
  have hB168 : ∀ (ls : Array Slot) (s0 : Int32), lv_has ls 8 [(0, .ref (ad 0))] → fm_common_L168 F σ s0 = some r → WR p l e 4 88 s m [.ref (ad 0), .int a1, .int a2, .int a3, .int a4] below meth c r (F0 m 168 ls [.int s0]) := by
    intro ls s0 hl hf
    unfold fm_common_L168 at hf
    exact KR.iret C hr hlk (Option.some.inj hf) dX10_common_168
  have hB150 : ∀ (ls : Array Slot) (x6 : Int32) (s0 : Int32), lv_has ls 8 [(0, .ref (ad 0)), (6, .int x6)] → fm_common_L150 F σ x6 s0 = some r → WR p l e 4 88 s m [.ref (ad 0), .int a1, .int a2, .int a3, .int a4] below meth c r (F0 m 150 ls [.int s0]) := by
    intro ls x6 s0 hl hf
    unfold fm_common_L150 at hf
    refine lv_istore (lv' := [(7, .int s0), (0, .ref (ad 0)), (6, .int x6)]) C.1 C.2.1 dX10_common_150 hl (by decide) rfl (fun ls hl => ?_)
    refine lv_iload C.1 C.2.1 dX10_common_152 (lv_at hl 0 rfl) ?_
    refine lv_iload C.1 C.2.1 dX10_common_154 (lv_at hl 2 rfl) ?_
    refine lv_icmp_le (tgt := 167) C.1 C.2.1 dX10_common_156 (by decide) (fun c156 => ?_) (fun c156 => ?_)
    · have hf := br_p c156 hf
      refine lv_iconst (v := (0 : Int32)) C.1 C.2.1 dX10_common_167 (by decide) ?_
      exact hB168 ls _ (lv_sub hl [1] rfl) hf
    · have hf := br_n c156 hf
      refine lv_iload C.1 C.2.1 dX10_common_159 (lv_at hl 0 rfl) ?_
      refine lv_iload C.1 C.2.1 dX10_common_161 (lv_at hl 2 rfl) ?_
      refine lv_isub C.1 C.2.1 dX10_common_163 ?_
      refine lv_goto (tgt := 168) C.1 C.2.1 dX10_common_164 (by decide) ?_
      exact hB168 ls _ (lv_sub hl [1] rfl) hf
  have hB102 : ∀ (ls : Array Slot) (x1 : Int32) (x2 : Int32) (x3 : Int32) (x4 : Int32) (x5 : Int32) (s0 : Int32), lv_has ls 8 [(0, .ref (ad 0)), (1, .int x1), (2, .int x2), (3, .int x3), (4, .int x4), (5, .int x5)] → fm_common_L102 F σ x1 x2 x3 x4 x5 s0 = some r → WR p l e 4 88 s m [.ref (ad 0), .int a1, .int a2, .int a3, .int a4] below meth c r (F0 m 102 ls [.int s0]) := by
    intro ls x1 x2 x3 x4 x5 s0 hl hf
    unfold fm_common_L102 at hf
    refine lv_istore (lv' := [(6, .int s0), (0, .ref (ad 0)), (1, .int x1), (2, .int x2), (3, .int x3), (4, .int x4), (5, .int x5)]) C.1 C.2.1 dX10_common_102 hl (by decide) rfl (fun ls hl => ?_)
    refine lv_iload C.1 C.2.1 dX10_common_104 (lv_at hl 6 rfl) ?_
    refine lv_if_eq (tgt := 131) C.1 C.2.1 dX10_common_106 (by decide) (fun c106 => ?_) (fun c106 => ?_)
    · have hf := br_p c106 hf
      refine lv_aload_n C.1 C.2.1 dX10_common_131 rfl (lv_at hl 1 rfl) ?_
      refine lv_iload_n C.1 C.2.1 dX10_common_132 rfl (lv_at hl 2 rfl) ?_
      refine lv_iload_n C.1 C.2.1 dX10_common_133 rfl (lv_at hl 3 rfl) ?_
      obtain ⟨r134, hc134, hf⟩ := bd_some hf
      refine callRV (As := [_, _]) C hK hP wv_X10_210 hl (km_highY l D cA ad _ F _ _ r134 hc134) (rcM hK hP) rfl rfl rfl (Nat.le_of_ble_eq_true rfl) ⟨Nat.le_refl _, Nat.le_refl _⟩ dX10_common_134 ?_
      refine lv_ineg C.1 C.2.1 dX10_common_137 ?_
      refine lv_aload_n C.1 C.2.1 dX10_common_138 rfl (lv_at hl 1 rfl) ?_
      refine lv_iload_n C.1 C.2.1 dX10_common_139 rfl (lv_at hl 4 rfl) ?_
      refine lv_iload C.1 C.2.1 dX10_common_140 (lv_at hl 5 rfl) ?_
      obtain ⟨r142, hc142, hf⟩ := bd_some hf
      refine callRV (As := [_, _]) C hK hP wv_X10_210 hl (km_highY l D cA ad _ F _ _ r142 hc142) (rcM hK hP) rfl rfl rfl (Nat.le_of_ble_eq_true rfl) ⟨Nat.le_refl _, Nat.le_refl _⟩ dX10_common_142 ?_
      refine lv_ineg C.1 C.2.1 dX10_common_145 ?_
      obtain ⟨r146, hc146, hf⟩ := bd_some hf
      refine callRS (As := [_, _]) C hK hP wv_X10_219 hl (km_most l D cA _ F _ _ r146 hc146) rfl rfl rfl (Nat.le_of_ble_eq_true rfl) ⟨Nat.le_refl _, Nat.le_refl _⟩ dX10_common_146 ?_
      refine lv_ineg C.1 C.2.1 dX10_common_149 ?_
      exact hB150 ls _ _ (lv_sub hl [1, 0] rfl) hf
    · have hf := br_n c106 hf
      refine lv_aload_n C.1 C.2.1 dX10_common_109 rfl (lv_at hl 1 rfl) ?_
      refine lv_iload_n C.1 C.2.1 dX10_common_110 rfl (lv_at hl 2 rfl) ?_
      refine lv_iload_n C.1 C.2.1 dX10_common_111 rfl (lv_at hl 3 rfl) ?_
      obtain ⟨r112, hc112, hf⟩ := bd_some hf
      refine callRV (As := [_, _]) C hK hP wv_X10_207 hl (km_highX l D cA ad _ F _ _ r112 hc112) (rcM hK hP) rfl rfl rfl (Nat.le_of_ble_eq_true rfl) ⟨Nat.le_refl _, Nat.le_refl _⟩ dX10_common_112 ?_
      refine lv_ineg C.1 C.2.1 dX10_common_115 ?_
      refine lv_aload_n C.1 C.2.1 dX10_common_116 rfl (lv_at hl 1 rfl) ?_
      refine lv_iload_n C.1 C.2.1 dX10_common_117 rfl (lv_at hl 4 rfl) ?_
      refine lv_iload C.1 C.2.1 dX10_common_118 (lv_at hl 5 rfl) ?_
      obtain ⟨r120, hc120, hf⟩ := bd_some hf
      refine callRV (As := [_, _]) C hK hP wv_X10_207 hl (km_highX l D cA ad _ F _ _ r120 hc120) (rcM hK hP) rfl rfl rfl (Nat.le_of_ble_eq_true rfl) ⟨Nat.le_refl _, Nat.le_refl _⟩ dX10_common_120 ?_
      refine lv_ineg C.1 C.2.1 dX10_common_123 ?_
      obtain ⟨r124, hc124, hf⟩ := bd_some hf
      refine callRS (As := [_, _]) C hK hP wv_X10_219 hl (km_most l D cA _ F _ _ r124 hc124) rfl rfl rfl (Nat.le_of_ble_eq_true rfl) ⟨Nat.le_refl _, Nat.le_refl _⟩ dX10_common_124 ?_
      refine lv_ineg C.1 C.2.1 dX10_common_127 ?_
      refine lv_goto (tgt := 150) C.1 C.2.1 dX10_common_128 (by decide) ?_
      exact hB150 ls _ _ (lv_sub hl [1, 0] rfl) hf
  have hB62 : ∀ (ls : Array Slot) (x1 : Int32) (x2 : Int32) (x3 : Int32) (x4 : Int32) (x5 : Int32), lv_has ls 8 [(0, .ref (ad 0)), (1, .int x1), (2, .int x2), (3, .int x3), (4, .int x4), (5, .int x5)] → fm_common_L62 F σ x1 x2 x3 x4 x5 = some r → WR p l e 4 88 s m [.ref (ad 0), .int a1, .int a2, .int a3, .int a4] below meth c r (F0 m 62 ls []) := by
    intro ls x1 x2 x3 x4 x5 hl hf
    unfold fm_common_L62 at hf
    refine lv_iload C.1 C.2.1 dX10_common_62 (lv_at hl 5 rfl) ?_
    refine lv_if_eq (tgt := 86) C.1 C.2.1 dX10_common_64 (by decide) (fun c64 => ?_) (fun c64 => ?_)
    · have hf := br_p c64 hf
      refine lv_aload_n C.1 C.2.1 dX10_common_86 rfl (lv_at hl 0 rfl) ?_
      refine lv_iload_n C.1 C.2.1 dX10_common_87 rfl (lv_at hl 1 rfl) ?_
      refine lv_iload_n C.1 C.2.1 dX10_common_88 rfl (lv_at hl 2 rfl) ?_
      obtain ⟨r89, hc89, hf⟩ := bd_some hf
      refine callRV (As := [_, _]) C hK hP wv_X10_204 hl (km_lowY l D cA ad _ F _ _ r89 hc89) (rcM hK hP) rfl rfl rfl (Nat.le_of_ble_eq_true rfl) ⟨Nat.le_refl _, Nat.le_refl _⟩ dX10_common_89 ?_
      refine lv_aload_n C.1 C.2.1 dX10_common_92 rfl (lv_at hl 0 rfl) ?_
      refine lv_iload_n C.1 C.2.1 dX10_common_93 rfl (lv_at hl 3 rfl) ?_
      refine lv_iload C.1 C.2.1 dX10_common_94 (lv_at hl 4 rfl) ?_
      obtain ⟨r96, hc96, hf⟩ := bd_some hf
      refine callRV (As := [_, _]) C hK hP wv_X10_204 hl (km_lowY l D cA ad _ F _ _ r96 hc96) (rcM hK hP) rfl rfl rfl (Nat.le_of_ble_eq_true rfl) ⟨Nat.le_refl _, Nat.le_refl _⟩ dX10_common_96 ?_
      obtain ⟨r99, hc99, hf⟩ := bd_some hf
      refine callRS (As := [_, _]) C hK hP wv_X10_219 hl (km_most l D cA _ F _ _ r99 hc99) rfl rfl rfl (Nat.le_of_ble_eq_true rfl) ⟨Nat.le_refl _, Nat.le_refl _⟩ dX10_common_99 ?_
      exact hB102 ls _ _ _ _ _ _ (lv_sub hl [0, 1, 2, 3, 4, 5] rfl) hf
    · have hf := br_n c64 hf
      refine lv_aload_n C.1 C.2.1 dX10_common_67 rfl (lv_at hl 0 rfl) ?_
      refine lv_iload_n C.1 C.2.1 dX10_common_68 rfl (lv_at hl 1 rfl) ?_
      refine lv_iload_n C.1 C.2.1 dX10_common_69 rfl (lv_at hl 2 rfl) ?_
      obtain ⟨r70, hc70, hf⟩ := bd_some hf
      refine callRV (As := [_, _]) C hK hP wv_X10_201 hl (km_lowX l D cA ad _ F _ _ r70 hc70) (rcM hK hP) rfl rfl rfl (Nat.le_of_ble_eq_true rfl) ⟨Nat.le_refl _, Nat.le_refl _⟩ dX10_common_70 ?_
      refine lv_aload_n C.1 C.2.1 dX10_common_73 rfl (lv_at hl 0 rfl) ?_
      refine lv_iload_n C.1 C.2.1 dX10_common_74 rfl (lv_at hl 3 rfl) ?_
      refine lv_iload C.1 C.2.1 dX10_common_75 (lv_at hl 4 rfl) ?_
      obtain ⟨r77, hc77, hf⟩ := bd_some hf
      refine callRV (As := [_, _]) C hK hP wv_X10_201 hl (km_lowX l D cA ad _ F _ _ r77 hc77) (rcM hK hP) rfl rfl rfl (Nat.le_of_ble_eq_true rfl) ⟨Nat.le_refl _, Nat.le_refl _⟩ dX10_common_77 ?_
      obtain ⟨r80, hc80, hf⟩ := bd_some hf
      refine callRS (As := [_, _]) C hK hP wv_X10_219 hl (km_most l D cA _ F _ _ r80 hc80) rfl rfl rfl (Nat.le_of_ble_eq_true rfl) ⟨Nat.le_refl _, Nat.le_refl _⟩ dX10_common_80 ?_
      refine lv_goto (tgt := 102) C.1 C.2.1 dX10_common_83 (by decide) ?_
      exact hB102 ls _ _ _ _ _ _ (lv_sub hl [0, 1, 2, 3, 4, 5] rfl) hf
  have hB60 : ∀ (ls : Array Slot), lv_has ls 8 [(0, .ref (ad 0))] → fm_common_L60 F σ = some r → WR p l e 4 88 s m [.ref (ad 0), .int a1, .int a2, .int a3, .int a4] below meth c r (F0 m 60 ls []) := by
    intro ls hl hf
    unfold fm_common_L60 at hf
    refine lv_iconst (v := (0 : Int32)) C.1 C.2.1 dX10_common_60 (by decide) ?_
    exact KR.iret C hr hlk (Option.some.inj hf) dX10_common_61
  unfold fm_common at hf
  refine lv_aload_n C.1 C.2.1 dX10_common_0 rfl (lv_at hl 0 rfl) ?_
  refine lv_iload_n C.1 C.2.1 dX10_common_1 rfl (lv_at hl 1 rfl) ?_
  refine lv_iload_n C.1 C.2.1 dX10_common_2 rfl (lv_at hl 2 rfl) ?_
  obtain ⟨r3, hc3, hf⟩ := bd_some hf
  refine callRV (As := [_, _]) C hK hP wv_X10_216 hl (km_isFlat l D cA ad _ F _ _ r3 hc3) (rcM hK hP) rfl rfl rfl (Nat.le_of_ble_eq_true rfl) ⟨Nat.le_refl _, Nat.le_refl _⟩ dX10_common_3 ?_
  refine lv_istore (lv' := [(5, .int r3), (0, .ref (ad 0)), (1, .int a1), (2, .int a2), (3, .int a3), (4, .int a4)]) C.1 C.2.1 dX10_common_6 hl (by decide) rfl (fun ls hl => ?_)
  refine lv_iload C.1 C.2.1 dX10_common_8 (lv_at hl 0 rfl) ?_
  refine lv_aload_n C.1 C.2.1 dX10_common_10 rfl (lv_at hl 1 rfl) ?_
  refine lv_iload_n C.1 C.2.1 dX10_common_11 rfl (lv_at hl 4 rfl) ?_
  refine lv_iload C.1 C.2.1 dX10_common_12 (lv_at hl 5 rfl) ?_
  obtain ⟨r14, hc14, hf⟩ := bd_some hf
  refine callRV (As := [_, _]) C hK hP wv_X10_216 hl (km_isFlat l D cA ad _ F _ _ r14 hc14) (rcM hK hP) rfl rfl rfl (Nat.le_of_ble_eq_true rfl) ⟨Nat.le_refl _, Nat.le_refl _⟩ dX10_common_14 ?_
  refine lv_icmp_ne (tgt := 60) C.1 C.2.1 dX10_common_17 (by decide) (fun c17 => ?_) (fun c17 => ?_)
  · have hf := br_n c17 hf
    exact hB60 ls (lv_sub hl [1] rfl) hf
  · have hf := br_p c17 hf
    refine lv_iload C.1 C.2.1 dX10_common_20 (lv_at hl 0 rfl) ?_
    refine lv_if_eq (tgt := 44) C.1 C.2.1 dX10_common_22 (by decide) (fun c22 => ?_) (fun c22 => ?_)
    · have hf := br_p c22 hf
      refine lv_aload_n C.1 C.2.1 dX10_common_44 rfl (lv_at hl 1 rfl) ?_
      refine lv_iload_n C.1 C.2.1 dX10_common_45 rfl (lv_at hl 2 rfl) ?_
      refine lv_iload_n C.1 C.2.1 dX10_common_46 rfl (lv_at hl 3 rfl) ?_
      obtain ⟨r47, hc47, hf⟩ := bd_some hf
      refine callRV (As := [_, _]) C hK hP wv_X10_117 hl (km_cornerX l D cA ad _ F _ _ r47 hc47) (rcM hK hP) rfl rfl rfl (Nat.le_of_ble_eq_true rfl) ⟨Nat.le_refl _, Nat.le_refl _⟩ dX10_common_47 ?_
      refine lv_aload_n C.1 C.2.1 dX10_common_50 rfl (lv_at hl 1 rfl) ?_
      refine lv_iload_n C.1 C.2.1 dX10_common_51 rfl (lv_at hl 4 rfl) ?_
      refine lv_iload C.1 C.2.1 dX10_common_52 (lv_at hl 5 rfl) ?_
      obtain ⟨r54, hc54, hf⟩ := bd_some hf
      refine callRV (As := [_, _]) C hK hP wv_X10_117 hl (km_cornerX l D cA ad _ F _ _ r54 hc54) (rcM hK hP) rfl rfl rfl (Nat.le_of_ble_eq_true rfl) ⟨Nat.le_refl _, Nat.le_refl _⟩ dX10_common_54 ?_
      refine lv_icmp_eq (tgt := 62) C.1 C.2.1 dX10_common_57 (by decide) (fun c57 => ?_) (fun c57 => ?_)
      · have hf := br_p c57 hf
        exact hB62 ls _ _ _ _ _ (lv_sub hl [1, 2, 3, 4, 5, 0] rfl) hf
      · have hf := br_n c57 hf
        exact hB60 ls (lv_sub hl [1] rfl) hf
    · have hf := br_n c22 hf
      refine lv_aload_n C.1 C.2.1 dX10_common_25 rfl (lv_at hl 1 rfl) ?_
      refine lv_iload_n C.1 C.2.1 dX10_common_26 rfl (lv_at hl 2 rfl) ?_
      refine lv_iload_n C.1 C.2.1 dX10_common_27 rfl (lv_at hl 3 rfl) ?_
      obtain ⟨r28, hc28, hf⟩ := bd_some hf
      refine callRV (As := [_, _]) C hK hP wv_X10_124 hl (km_cornerY l D cA ad _ F _ _ r28 hc28) (rcM hK hP) rfl rfl rfl (Nat.le_of_ble_eq_true rfl) ⟨Nat.le_refl _, Nat.le_refl _⟩ dX10_common_28 ?_
      refine lv_aload_n C.1 C.2.1 dX10_common_31 rfl (lv_at hl 1 rfl) ?_
      refine lv_iload_n C.1 C.2.1 dX10_common_32 rfl (lv_at hl 4 rfl) ?_
      refine lv_iload C.1 C.2.1 dX10_common_33 (lv_at hl 5 rfl) ?_
      obtain ⟨r35, hc35, hf⟩ := bd_some hf
      refine callRV (As := [_, _]) C hK hP wv_X10_124 hl (km_cornerY l D cA ad _ F _ _ r35 hc35) (rcM hK hP) rfl rfl rfl (Nat.le_of_ble_eq_true rfl) ⟨Nat.le_refl _, Nat.le_refl _⟩ dX10_common_35 ?_
      refine lv_icmp_eq (tgt := 62) C.1 C.2.1 dX10_common_38 (by decide) (fun c38 => ?_) (fun c38 => ?_)
      · have hf := br_p c38 hf
        exact hB62 ls _ _ _ _ _ (lv_sub hl [1, 2, 3, 4, 5, 0] rfl) hf
      · have hf := br_n c38 hf
        refine lv_goto (tgt := 60) C.1 C.2.1 dX10_common_41 (by decide) ?_
        exact hB60 ls (lv_sub hl [1] rfl) hf
