def fc_J8_newLength_cabcc_L21 (F : Nat) (σ : CSt) (x0 : Int32) (x1 : Int32) : Option (Int32) :=
  none
def fc_J8_newLength_cabcc (F : Nat) (σ : CSt) (x0 : Int32) (x1 : Int32) (x2 : Int32) : Option (Int32) :=
  lt (x0 + (if x1 < x2 then x2 else x1)) (fun x3_7 => if x3_7 ≤ (0 : Int32) then (fc_J8_newLength_cabcc_L21 F σ x0 x1) else (if (2147483639 : Int32) < x3_7 then (fc_J8_newLength_cabcc_L21 F σ x0 x1) else (some x3_7)))
set_option maxHeartbeats 4000000 in
set_option maxRecDepth 100000 in
theorem kc_J8_newLength_cabcc (l : Launch) (D : va_G) (cA : Nat → ClassId) (ad : Nat → Nat) (σ : CSt) (η : HS) (F : Nat) (z0 : Int32) (z1 : Int32) (z2 : Int32) (r : Int32) (hf : fc_J8_newLength_cabcc F σ z0 z1 z2 = some r) : KRc l D cA ad σ η yJ8_newLength_cabcc cJ8_newLength_cabcc 4 (some .int) (rmk 1 21) [.int z0, .int z1, .int z2] (QcV (.int r)) := by
  refine KRc.of (by decide) (Nat.le_of_ble_eq_true rfl) ?_
  intro p e s m below meth c C hr hlk hK hP hZ ls hl
  have hS : va_S NoA s.heap s.heap [] := va_S.rf
  have hl : lv_has ls 4 [(0, .int z0), (1, .int z1), (2, .int z2)] := hl
  have hB21 : ∀ (ls : Array Slot) (x0 : Int32) (x1 : Int32), lv_has ls 4 [(0, .int x0), (1, .int x1)] → fc_J8_newLength_cabcc_L21 F σ x0 x1 = some r → WRc p l e 1 21 s m [.int z0, .int z1, .int z2] below meth c (QcV (.int r)) (F0 m 21 ls []) := by
    intro ls x0 x1 hl hf
    unfold fc_J8_newLength_cabcc_L21 at hf
    refine lv_iload_n C.1 C.2.1 dJ8_newLength_cabcc_21 rfl (lv_at hl 0 rfl) ?_
    refine lv_iload_n C.1 C.2.1 dJ8_newLength_cabcc_22 rfl (lv_at hl 1 rfl) ?_
    cases hf
  unfold fc_J8_newLength_cabcc at hf
  refine lv_iload_n C.1 C.2.1 dJ8_newLength_cabcc_0 rfl (lv_at hl 0 rfl) ?_
  refine lv_iload_n C.1 C.2.1 dJ8_newLength_cabcc_1 rfl (lv_at hl 1 rfl) ?_
  refine lv_iload_n C.1 C.2.1 dJ8_newLength_cabcc_2 rfl (lv_at hl 2 rfl) ?_
  refine va_mmax C.1 C.2.1 (by rw [C.2.2.1]; exact hl.1.symm) C.2.2.2.1 (C.2.2.2.2 _ wm_J8_194.1) (C.2.2.2.2 _ wm_J8_194.2.1) (C.2.2.2.2 _ wm_J8_194.2.2.1) (C.2.2.2.2 _ wm_J8_194.2.2.2) (Nat.le_of_ble_eq_true rfl) (Nat.le_of_ble_eq_true rfl) (Nat.le_refl _) (Nat.le_refl _) dJ8_newLength_cabcc_3 ?_
  refine lv_iadd C.1 C.2.1 dJ8_newLength_cabcc_6 ?_
  obtain ⟨x3_7, ex3_7, hf⟩ := lt_some hf
  refine lv_tope ex3_7 ?_
  refine lv_istore_n (lv' := [(3, .int x3_7), (0, .int z0), (1, .int z1), (2, .int z2)]) C.1 C.2.1 dJ8_newLength_cabcc_7 rfl hl (by decide) rfl (fun ls hl => ?_)
  refine lv_iconst (v := (0 : Int32)) C.1 C.2.1 dJ8_newLength_cabcc_8 (by decide) ?_
  refine lv_iload_n C.1 C.2.1 dJ8_newLength_cabcc_9 rfl (lv_at hl 0 rfl) ?_
  refine lv_icmp_ge (tgt := 21) C.1 C.2.1 dJ8_newLength_cabcc_10 (by decide) (fun c10 => ?_) (fun c10 => ?_)
  · have hf := br_p c10 hf
    exact hB21 ls _ _ (lv_sub hl [1, 2] rfl) hf
  · have hf := br_n c10 hf
    refine lv_iload_n C.1 C.2.1 dJ8_newLength_cabcc_13 rfl (lv_at hl 0 rfl) ?_
    refine lv_ldc (v := (2147483639 : Int32)) C.1 C.2.1 C.2.2.2.1 (C.2.2.2.2 _ wc_J8_200) dJ8_newLength_cabcc_14 ?_
    refine lv_icmp_gt (tgt := 21) C.1 C.2.1 dJ8_newLength_cabcc_16 (by decide) (fun c16 => ?_) (fun c16 => ?_)
    · have hf := br_p c16 hf
      exact hB21 ls _ _ (lv_sub hl [1, 2] rfl) hf
    · have hf := br_n c16 hf
      refine lv_iload_n C.1 C.2.1 dJ8_newLength_cabcc_19 rfl (lv_at hl 0 rfl) ?_
      exact KRc.iret C hr hlk (Option.some.inj hf) dJ8_newLength_cabcc_20
def fc_J5_newCapacity_0f7a4 (F : Nat) (σ : CSt) (x1 : Int32) : Option (Int32) :=
  lt (nI (cs_scap σ)) (fun x2_5 => lt (x1 <<< ((0 : Int32) &&& 31)) (fun x3_12 => lt (x3_12 - x2_5) (fun x4_16 => bd (fc_J8_newLength_cabcc F σ x2_5 x4_16 (x2_5 + ((2 : Int32) <<< ((0 : Int32) &&& 31)))) (fun r29 => if r29 = (2147483647 : Int32) then none else (some (r29 >>> ((0 : Int32) &&& 31)))))))
set_option maxHeartbeats 4000000 in
set_option maxRecDepth 100000 in
theorem kc_J5_newCapacity_0f7a4 (l : Launch) (D : va_G) (cA : Nat → ClassId) (ad : Nat → Nat) (σ : CSt) (η : HS) (F : Nat) (z1 : Int32) (r : Int32) (hf : fc_J5_newCapacity_0f7a4 F σ z1 = some r) : KRc l D cA ad σ η yJ5_newCapacity_0f7a4 cJ5_newCapacity_0f7a4 6 (some .int) (rmk 2 44) [.ref (ad 45), .int z1] (QcV (.int r)) := by
  refine KRc.of (by decide) (Nat.le_of_ble_eq_true rfl) ?_
  intro p e s m below meth c C hr hlk hK hP hZ ls hl
  have hS : va_S NoA s.heap s.heap [] := va_S.rf
  have hl : lv_has ls 6 [(0, .ref (ad 45)), (1, .int z1)] := hl
  unfold fc_J5_newCapacity_0f7a4 at hf
  refine lv_aload_n C.1 C.2.1 dJ5_newCapacity_0f7a4_0 rfl (lv_at hl 0 rfl) ?_
  refine gb_value C hK hP wf_J5_15 dJ5_newCapacity_0f7a4_1 ?_
  refine nb_sv C hK hP dJ5_newCapacity_0f7a4_4 ?_
  obtain ⟨x2_5, ex2_5, hf⟩ := lt_some hf
  refine lv_tope ex2_5 ?_
  refine lv_istore_n (lv' := [(2, .int x2_5), (0, .ref (ad 45)), (1, .int z1)]) C.1 C.2.1 dJ5_newCapacity_0f7a4_5 rfl hl (by decide) rfl (fun ls hl => ?_)
  refine lv_iload_n C.1 C.2.1 dJ5_newCapacity_0f7a4_6 rfl (lv_at hl 2 rfl) ?_
  refine lv_aload_n C.1 C.2.1 dJ5_newCapacity_0f7a4_7 rfl (lv_at hl 1 rfl) ?_
  refine gb_coder C hK hP wf_J5_22 dJ5_newCapacity_0f7a4_8 ?_
  refine lv_ishl C.1 C.2.1 dJ5_newCapacity_0f7a4_11 ?_
  obtain ⟨x3_12, ex3_12, hf⟩ := lt_some hf
  refine lv_tope ex3_12 ?_
  refine lv_istore_n (lv' := [(3, .int x3_12), (2, .int x2_5), (0, .ref (ad 45)), (1, .int z1)]) C.1 C.2.1 dJ5_newCapacity_0f7a4_12 rfl hl (by decide) rfl (fun ls hl => ?_)
  refine lv_iload_n C.1 C.2.1 dJ5_newCapacity_0f7a4_13 rfl (lv_at hl 0 rfl) ?_
  refine lv_iload_n C.1 C.2.1 dJ5_newCapacity_0f7a4_14 rfl (lv_at hl 1 rfl) ?_
  refine lv_isub C.1 C.2.1 dJ5_newCapacity_0f7a4_15 ?_
  obtain ⟨x4_16, ex4_16, hf⟩ := lt_some hf
  refine lv_tope ex4_16 ?_
  refine lv_istore (lv' := [(4, .int x4_16), (3, .int x3_12), (2, .int x2_5), (0, .ref (ad 45)), (1, .int z1)]) C.1 C.2.1 dJ5_newCapacity_0f7a4_16 hl (by decide) rfl (fun ls hl => ?_)
  refine lv_iload_n C.1 C.2.1 dJ5_newCapacity_0f7a4_18 rfl (lv_at hl 2 rfl) ?_
  refine lv_iload C.1 C.2.1 dJ5_newCapacity_0f7a4_19 (lv_at hl 0 rfl) ?_
  refine lv_iload_n C.1 C.2.1 dJ5_newCapacity_0f7a4_21 rfl (lv_at hl 2 rfl) ?_
  refine lv_iconst (v := (2 : Int32)) C.1 C.2.1 dJ5_newCapacity_0f7a4_22 (by decide) ?_
  refine lv_aload_n C.1 C.2.1 dJ5_newCapacity_0f7a4_23 rfl (lv_at hl 3 rfl) ?_
  refine gb_coder C hK hP wf_J5_22 dJ5_newCapacity_0f7a4_24 ?_
  refine lv_ishl C.1 C.2.1 dJ5_newCapacity_0f7a4_27 ?_
  refine lv_iadd C.1 C.2.1 dJ5_newCapacity_0f7a4_28 ?_
  obtain ⟨r29, hc29, hf⟩ := bd_some hf
  refine cV_go (runRSc (As := [_, _, _]) C hK hP hZ hS wv_J5_114 hl (kc_J8_newLength_cabcc l D cA ad _ η F _ _ _  r29 hc29) rfl rfl rfl (Nat.le_of_ble_eq_true rfl) ⟨Nat.le_refl _, Nat.le_refl _⟩ dJ5_newCapacity_0f7a4_29) ?_
  refine lv_istore (lv' := [(5, .int r29), (4, .int x4_16), (3, .int x3_12), (2, .int x2_5), (0, .ref (ad 45)), (1, .int z1)]) C.1 C.2.1 dJ5_newCapacity_0f7a4_32 hl (by decide) rfl (fun ls hl => ?_)
  refine lv_iload C.1 C.2.1 dJ5_newCapacity_0f7a4_34 (lv_at hl 0 rfl) ?_
  refine lv_ldc (v := (2147483647 : Int32)) C.1 C.2.1 C.2.2.2.1 (C.2.2.2.2 _ wc_J5_39) dJ5_newCapacity_0f7a4_36 ?_
  refine lv_icmp_ne (tgt := 51) C.1 C.2.1 dJ5_newCapacity_0f7a4_38 (by decide) (fun c38 => ?_) (fun c38 => ?_)
  · have hf := br_n c38 hf
    refine lv_iload C.1 C.2.1 dJ5_newCapacity_0f7a4_51 (lv_at hl 0 rfl) ?_
    refine lv_aload_n C.1 C.2.1 dJ5_newCapacity_0f7a4_53 rfl (lv_at hl 4 rfl) ?_
    refine gb_coder C hK hP wf_J5_22 dJ5_newCapacity_0f7a4_54 ?_
    refine lv_ishr C.1 C.2.1 dJ5_newCapacity_0f7a4_57 ?_
    exact KRc.iret C hr hlk (Option.some.inj hf) dJ5_newCapacity_0f7a4_58
  · have hf := br_p c38 hf
    cases hf
def fc_J5_isLatin1_aae02_L18 (F : Nat) (σ : CSt) (s0 : Int32) : Option (Int32) :=
  gd (s0 = 0 ∨ s0 = 1) (some s0)
def fc_J5_isLatin1_aae02_L17 (F : Nat) (σ : CSt) : Option (Int32) :=
  fc_J5_isLatin1_aae02_L18 F σ (0 : Int32)
def fc_J5_isLatin1_aae02 (F : Nat) (σ : CSt) : Option (Int32) :=
  if (1 : Int32) = 0 then (fc_J5_isLatin1_aae02_L17 F σ) else (if (0 : Int32) = 0 then (fc_J5_isLatin1_aae02_L18 F σ (1 : Int32)) else (fc_J5_isLatin1_aae02_L17 F σ))
set_option maxHeartbeats 4000000 in
set_option maxRecDepth 100000 in
theorem kc_J5_isLatin1_aae02 (l : Launch) (D : va_G) (cA : Nat → ClassId) (ad : Nat → Nat) (σ : CSt) (η : HS) (F : Nat)  (r : Int32) (hf : fc_J5_isLatin1_aae02 F σ = some r) : KRc l D cA ad σ η yJ5_isLatin1_aae02 cJ5_isLatin1_aae02 1 (some .boolean) (rmk 0 0) [.ref (ad 45)] (QcV (.int r)) := by
  refine KRc.of (by decide) (Nat.le_of_ble_eq_true rfl) ?_
  intro p e s m below meth c C hr hlk hK hP hZ ls hl
  have hS : va_S NoA s.heap s.heap [] := va_S.rf
  have hl : lv_has ls 1 [(0, .ref (ad 45))] := hl
  have hB18 : ∀ (ls : Array Slot) (s0 : Int32), lv_has ls 1 [] → fc_J5_isLatin1_aae02_L18 F σ s0 = some r → WRc p l e 0 0 s m [.ref (ad 45)] below meth c (QcV (.int r)) (F0 m 18 ls [.int s0]) := by
    intro ls s0 hl hf
    unfold fc_J5_isLatin1_aae02_L18 at hf
    obtain ⟨hz18, hf⟩ := gd_some hf
    exact KRc.zret C hr hlk hz18 (Option.some.inj hf) dJ5_isLatin1_aae02_18
  have hB17 : ∀ (ls : Array Slot), lv_has ls 1 [] → fc_J5_isLatin1_aae02_L17 F σ = some r → WRc p l e 0 0 s m [.ref (ad 45)] below meth c (QcV (.int r)) (F0 m 17 ls []) := by
    intro ls hl hf
    unfold fc_J5_isLatin1_aae02_L17 at hf
    refine lv_iconst (v := (0 : Int32)) C.1 C.2.1 dJ5_isLatin1_aae02_17 (by decide) ?_
    exact hB18 ls _ (lv_sub hl [] rfl) hf
  unfold fc_J5_isLatin1_aae02 at hf
  refine va_gets C.1 C.2.1 hZ.2.2.2.1 hS C.2.2.2.1 (C.2.2.2.2 _ wf_J5_18) (fun _ h9 => h9) dJ5_isLatin1_aae02_0 ?_
  refine lv_if_eq (tgt := 17) C.1 C.2.1 dJ5_isLatin1_aae02_3 (by decide) (fun c3 => ?_) (fun c3 => ?_)
  · have hf := br_p c3 hf
    exact hB17 ls (lv_sub hl [] rfl) hf
  · have hf := br_n c3 hf
    refine lv_aload_n C.1 C.2.1 dJ5_isLatin1_aae02_6 rfl (lv_at hl 0 rfl) ?_
    refine gb_coder C hK hP wf_J5_22 dJ5_isLatin1_aae02_7 ?_
    refine lv_if_ne (tgt := 17) C.1 C.2.1 dJ5_isLatin1_aae02_10 (by decide) (fun c10 => ?_) (fun c10 => ?_)
    · have hf := br_n c10 hf
      exact hB17 ls (lv_sub hl [] rfl) hf
    · have hf := br_p c10 hf
      refine lv_iconst (v := (1 : Int32)) C.1 C.2.1 dJ5_isLatin1_aae02_13 (by decide) ?_
      refine lv_goto (tgt := 18) C.1 C.2.1 dJ5_isLatin1_aae02_14 (by decide) ?_
      exact hB18 ls _ (lv_sub hl [] rfl) hf
def fc_J1_canEncode_fc78d_L12 (F : Nat) (σ : CSt) (s0 : Int32) : Option (Int32) :=
  gd (s0 = 0 ∨ s0 = 1) (some s0)
def fc_J1_canEncode_fc78d (F : Nat) (σ : CSt) (x0 : Int32) : Option (Int32) :=
  if (255 : Int32) < x0 then (fc_J1_canEncode_fc78d_L12 F σ (0 : Int32)) else (fc_J1_canEncode_fc78d_L12 F σ (1 : Int32))
set_option maxHeartbeats 4000000 in
set_option maxRecDepth 100000 in
theorem kc_J1_canEncode_fc78d (l : Launch) (D : va_G) (cA : Nat → ClassId) (ad : Nat → Nat) (σ : CSt) (η : HS) (F : Nat) (z0 : Int32) (r : Int32) (hf : fc_J1_canEncode_fc78d F σ z0 = some r) : KRc l D cA ad σ η yJ1_canEncode_fc78d cJ1_canEncode_fc78d 1 (some .boolean) (rmk 0 0) [.int z0] (QcV (.int r)) := by
  refine KRc.of (by decide) (Nat.le_of_ble_eq_true rfl) ?_
  intro p e s m below meth c C hr hlk hK hP hZ ls hl
  have hS : va_S NoA s.heap s.heap [] := va_S.rf
  have hl : lv_has ls 1 [(0, .int z0)] := hl
  have hB12 : ∀ (ls : Array Slot) (s0 : Int32), lv_has ls 1 [] → fc_J1_canEncode_fc78d_L12 F σ s0 = some r → WRc p l e 0 0 s m [.int z0] below meth c (QcV (.int r)) (F0 m 12 ls [.int s0]) := by
    intro ls s0 hl hf
    unfold fc_J1_canEncode_fc78d_L12 at hf
    obtain ⟨hz12, hf⟩ := gd_some hf
    exact KRc.zret C hr hlk hz12 (Option.some.inj hf) dJ1_canEncode_fc78d_12
  unfold fc_J1_canEncode_fc78d at hf
  refine lv_iload_n C.1 C.2.1 dJ1_canEncode_fc78d_0 rfl (lv_at hl 0 rfl) ?_
  refine lv_sipush (v := (255 : Int32)) C.1 C.2.1 dJ1_canEncode_fc78d_1 (by decide) ?_
  refine lv_icmp_gt (tgt := 11) C.1 C.2.1 dJ1_canEncode_fc78d_4 (by decide) (fun c4 => ?_) (fun c4 => ?_)
  · have hf := br_p c4 hf
    refine lv_iconst (v := (0 : Int32)) C.1 C.2.1 dJ1_canEncode_fc78d_11 (by decide) ?_
    exact hB12 ls _ (lv_sub hl [] rfl) hf
  · have hf := br_n c4 hf
    refine lv_iconst (v := (1 : Int32)) C.1 C.2.1 dJ1_canEncode_fc78d_7 (by decide) ?_
    refine lv_goto (tgt := 12) C.1 C.2.1 dJ1_canEncode_fc78d_8 (by decide) ?_
    exact hB12 ls _ (lv_sub hl [] rfl) hf
def fc_J6_stringSize_0f7a4_L16_c (F : Nat) (σ : CSt) (k16 : Int32 → Int32 → Int32 → Int32 → Option (Int32)) (x0 : Int32) (x1 : Int32) (x2 : Int32) (x3 : Int32) : Option (Int32) :=
  if (10 : Int32) ≤ x3 then (some ((10 : Int32) + x1)) else (if x0 ≤ x2 then (lt ((10 : Int32) * x2) (fun x2_35 => lt (x3 + (1 : Int32)) (fun x3_36 => k16 x0 x1 x2_35 x3_36))) else (some (x3 + x1)))
def fc_J6_stringSize_0f7a4_L16 (F : Nat) (σ : CSt) (n : Nat) (x0 : Int32) (x1 : Int32) (x2 : Int32) (x3 : Int32) : Option (Int32) := lpN (fun (k : Int32 × Int32 × Int32 × Int32 → Option (Int32)) a => fc_J6_stringSize_0f7a4_L16_c F σ (fun x0 x1 x2 x3 => k (x0, x1, x2, x3)) a.1 a.2.1 a.2.2.1 a.2.2.2) n (x0, x1, x2, x3)
def fc_J6_stringSize_0f7a4_L11 (F : Nat) (σ : CSt) (x0 : Int32) (x1 : Int32) : Option (Int32) :=
  fc_J6_stringSize_0f7a4_L16 F σ F x0 x1 (-10 : Int32) (1 : Int32)
def fc_J6_stringSize_0f7a4 (F : Nat) (σ : CSt) (x0 : Int32) : Option (Int32) :=
  if x0 < 0 then (fc_J6_stringSize_0f7a4_L11 F σ x0 (1 : Int32)) else (lt (-x0) (fun x0_10 => fc_J6_stringSize_0f7a4_L11 F σ x0_10 (0 : Int32)))
set_option maxHeartbeats 4000000 in
set_option maxRecDepth 100000 in
theorem kc_J6_stringSize_0f7a4 (l : Launch) (D : va_G) (cA : Nat → ClassId) (ad : Nat → Nat) (σ : CSt) (η : HS) (F : Nat) (z0 : Int32) (r : Int32) (hf : fc_J6_stringSize_0f7a4 F σ z0 = some r) : KRc l D cA ad σ η yJ6_stringSize_0f7a4 cJ6_stringSize_0f7a4 4 (some .int) (rmk 0 0) [.int z0] (QcV (.int r)) := by
  refine KRc.of (by decide) (Nat.le_of_ble_eq_true rfl) ?_
  intro p e s m below meth c C hr hlk hK hP hZ ls hl
  have hS : va_S NoA s.heap s.heap [] := va_S.rf
  have hl : lv_has ls 4 [(0, .int z0)] := hl
  have hB16 : ∀ (n16 : Nat) (ls : Array Slot) (x0 : Int32) (x1 : Int32) (x2 : Int32) (x3 : Int32), lv_has ls 4 [(0, .int x0), (1, .int x1), (2, .int x2), (3, .int x3)] → fc_J6_stringSize_0f7a4_L16 F σ n16 x0 x1 x2 x3 = some r → WRc p l e 0 0 s m [.int z0] below meth c (QcV (.int r)) (F0 m 16 ls []) := by
    intro n16
    induction n16 with
    | zero =>
      intro ls x0 x1 x2 x3 hl hf
      cases (show (none : Option _) = _ from hf)
    | succ n16 ih16 =>
      intro ls x0 x1 x2 x3 hl hf
      have hf : fc_J6_stringSize_0f7a4_L16_c F σ (fc_J6_stringSize_0f7a4_L16 F σ n16) x0 x1 x2 x3 = some r := hf
      unfold fc_J6_stringSize_0f7a4_L16_c at hf
      refine lv_iload_n C.1 C.2.1 dJ6_stringSize_0f7a4_16 rfl (lv_at hl 3 rfl) ?_
      refine lv_bipush (v := (10 : Int32)) C.1 C.2.1 dJ6_stringSize_0f7a4_17 (by decide) ?_
      refine lv_icmp_ge (tgt := 42) C.1 C.2.1 dJ6_stringSize_0f7a4_19 (by decide) (fun c19 => ?_) (fun c19 => ?_)
      · have hf := br_p c19 hf
        refine lv_bipush (v := (10 : Int32)) C.1 C.2.1 dJ6_stringSize_0f7a4_42 (by decide) ?_
        refine lv_iload_n C.1 C.2.1 dJ6_stringSize_0f7a4_44 rfl (lv_at hl 1 rfl) ?_
        refine lv_iadd C.1 C.2.1 dJ6_stringSize_0f7a4_45 ?_
        exact KRc.iret C hr hlk (Option.some.inj hf) dJ6_stringSize_0f7a4_46
      · have hf := br_n c19 hf
        refine lv_iload_n C.1 C.2.1 dJ6_stringSize_0f7a4_22 rfl (lv_at hl 0 rfl) ?_
        refine lv_iload_n C.1 C.2.1 dJ6_stringSize_0f7a4_23 rfl (lv_at hl 2 rfl) ?_
        refine lv_icmp_le (tgt := 31) C.1 C.2.1 dJ6_stringSize_0f7a4_24 (by decide) (fun c24 => ?_) (fun c24 => ?_)
        · have hf := br_p c24 hf
          refine lv_bipush (v := (10 : Int32)) C.1 C.2.1 dJ6_stringSize_0f7a4_31 (by decide) ?_
          refine lv_iload_n C.1 C.2.1 dJ6_stringSize_0f7a4_33 rfl (lv_at hl 2 rfl) ?_
          refine lv_imul C.1 C.2.1 dJ6_stringSize_0f7a4_34 ?_
          obtain ⟨x2_35, ex2_35, hf⟩ := lt_some hf
          refine lv_tope ex2_35 ?_
          refine lv_istore_n (lv' := [(2, .int x2_35), (0, .int x0), (1, .int x1), (3, .int x3)]) C.1 C.2.1 dJ6_stringSize_0f7a4_35 rfl hl (by decide) rfl (fun ls hl => ?_)
          obtain ⟨x3_36, ex3_36, hf⟩ := lt_some hf
          refine lv_iinc (v := x3_36) (lv' := [(3, .int x3_36), (2, .int x2_35), (0, .int x0), (1, .int x1)]) C.1 C.2.1 dJ6_stringSize_0f7a4_36 hl (k := 3) rfl (by rw [ex3_36]; rfl) (by decide) rfl (fun ls hl => ?_)
          refine lv_goto (tgt := 16) C.1 C.2.1 dJ6_stringSize_0f7a4_39 (by decide) ?_
          exact ih16 ls _ _ _ _ (lv_sub hl [2, 3, 1, 0] rfl) hf
        · have hf := br_n c24 hf
          refine lv_iload_n C.1 C.2.1 dJ6_stringSize_0f7a4_27 rfl (lv_at hl 3 rfl) ?_
          refine lv_iload_n C.1 C.2.1 dJ6_stringSize_0f7a4_28 rfl (lv_at hl 1 rfl) ?_
          refine lv_iadd C.1 C.2.1 dJ6_stringSize_0f7a4_29 ?_
          exact KRc.iret C hr hlk (Option.some.inj hf) dJ6_stringSize_0f7a4_30
  have hB11 : ∀ (ls : Array Slot) (x0 : Int32) (x1 : Int32), lv_has ls 4 [(0, .int x0), (1, .int x1)] → fc_J6_stringSize_0f7a4_L11 F σ x0 x1 = some r → WRc p l e 0 0 s m [.int z0] below meth c (QcV (.int r)) (F0 m 11 ls []) := by
    intro ls x0 x1 hl hf
    unfold fc_J6_stringSize_0f7a4_L11 at hf
    refine lv_bipush (v := (-10 : Int32)) C.1 C.2.1 dJ6_stringSize_0f7a4_11 (by decide) ?_
    refine lv_istore_n (lv' := [(2, .int (-10 : Int32)), (0, .int x0), (1, .int x1)]) C.1 C.2.1 dJ6_stringSize_0f7a4_13 rfl hl (by decide) rfl (fun ls hl => ?_)
    refine lv_iconst (v := (1 : Int32)) C.1 C.2.1 dJ6_stringSize_0f7a4_14 (by decide) ?_
    refine lv_istore_n (lv' := [(3, .int (1 : Int32)), (2, .int (-10 : Int32)), (0, .int x0), (1, .int x1)]) C.1 C.2.1 dJ6_stringSize_0f7a4_15 rfl hl (by decide) rfl (fun ls hl => ?_)
    exact hB16 F ls _ _ _ _ (lv_sub hl [2, 3, 1, 0] rfl) hf
  unfold fc_J6_stringSize_0f7a4 at hf
  refine lv_iconst (v := (1 : Int32)) C.1 C.2.1 dJ6_stringSize_0f7a4_0 (by decide) ?_
  refine lv_istore_n (lv' := [(1, .int (1 : Int32)), (0, .int z0)]) C.1 C.2.1 dJ6_stringSize_0f7a4_1 rfl hl (by decide) rfl (fun ls hl => ?_)
  refine lv_iload_n C.1 C.2.1 dJ6_stringSize_0f7a4_2 rfl (lv_at hl 1 rfl) ?_
  refine lv_if_lt (tgt := 11) C.1 C.2.1 dJ6_stringSize_0f7a4_3 (by decide) (fun c3 => ?_) (fun c3 => ?_)
  · have hf := br_p c3 hf
    exact hB11 ls _ _ (lv_sub hl [1, 0] rfl) hf
  · have hf := br_n c3 hf
    refine lv_iconst (v := (0 : Int32)) C.1 C.2.1 dJ6_stringSize_0f7a4_6 (by decide) ?_
    refine lv_istore_n (lv' := [(1, .int (0 : Int32)), (0, .int z0)]) C.1 C.2.1 dJ6_stringSize_0f7a4_7 rfl hl (by decide) rfl (fun ls hl => ?_)
    refine lv_iload_n C.1 C.2.1 dJ6_stringSize_0f7a4_8 rfl (lv_at hl 1 rfl) ?_
    refine lv_ineg C.1 C.2.1 dJ6_stringSize_0f7a4_9 ?_
    obtain ⟨x0_10, ex0_10, hf⟩ := lt_some hf
    refine lv_tope ex0_10 ?_
    refine lv_istore_n (lv' := [(0, .int x0_10), (1, .int (0 : Int32))]) C.1 C.2.1 dJ6_stringSize_0f7a4_10 rfl hl (by decide) rfl (fun ls hl => ?_)
    exact hB11 ls _ _ (lv_sub hl [0, 1] rfl) hf
def fc_J6_getChars_ba4f3_L118 (F : Nat) (σ : CSt) (x5 : Int32) : Option (Int32 × CSt) :=
  some (x5, σ)
def fc_J6_getChars_ba4f3_L104 (F : Nat) (σ : CSt) (x5 : Int32) (x6 : Int32) : Option (Int32 × CSt) :=
  if x6 = 0 then (fc_J6_getChars_ba4f3_L118 F σ x5) else (lt (x5 + (-1 : Int32)) (fun x5_110 => gd (ix x5_110 (cs_scap σ) = true) (lt (sc_sv σ x5_110 (45 : Int32)) (fun σ117 => fc_J6_getChars_ba4f3_L118 F σ117 x5_110))))
def fc_J6_getChars_ba4f3_L22_c (F : Nat) (k22 : CSt → Int32 → Int32 → Int32 → Option (Int32 × CSt)) (σ : CSt) (x0 : Int32) (x5 : Int32) (x6 : Int32) : Option (Int32 × CSt) :=
  if (-100 : Int32) < x0 then (lt (x5 + (-1 : Int32)) (fun x5_73 => gd (ix (-x0) 100 = true) (gd (ix x5_73 (cs_scap σ) = true) (lt (sc_sv σ x5_73 (nI (48 + (-x0).toNatClampNeg % 10))) (fun σ84 => if (-9 : Int32) ≤ x0 then (fc_J6_getChars_ba4f3_L104 F σ84 x5_73 x6) else (lt (x5_73 + (-1 : Int32)) (fun x5_92 => gd (ix (-x0) 100 = true) (gd (ix x5_92 (cs_scap σ84) = true) (lt (sc_sv σ84 x5_92 (nI (48 + (-x0).toNatClampNeg / 10))) (fun σ103 => fc_J6_getChars_ba4f3_L104 F σ103 x5_92 x6)))))))))) else (lt (x0 / (100 : Int32)) (fun x3_32 => lt ((x3_32 * (100 : Int32)) - x0) (fun x4_39 => lt (x5 + (-1 : Int32)) (fun x5_44 => gd (ix x4_39 100 = true) (gd (ix x5_44 (cs_scap σ) = true) (lt (sc_sv σ x5_44 (nI (48 + x4_39.toNatClampNeg % 10))) (fun σ55 => lt (x5_44 + (-1 : Int32)) (fun x5_57 => gd (ix x4_39 100 = true) (gd (ix x5_57 (cs_scap σ55) = true) (lt (sc_sv σ55 x5_57 (nI (48 + x4_39.toNatClampNeg / 10))) (fun σ68 => k22 σ68 x3_32 x5_57 x6)))))))))))
def fc_J6_getChars_ba4f3_L22 (F : Nat) (n : Nat) (σ : CSt) (x0 : Int32) (x5 : Int32) (x6 : Int32) : Option (Int32 × CSt) := lpN (fun (k : CSt × Int32 × Int32 × Int32 → Option (Int32 × CSt)) a => fc_J6_getChars_ba4f3_L22_c F (fun σ x0 x5 x6 => k (σ, x0, x5, x6)) a.1 a.2.1 a.2.2.1 a.2.2.2) n (σ, x0, x5, x6)
def fc_J6_getChars_ba4f3_L12 (F : Nat) (σ : CSt) (x0 : Int32) (x5 : Int32) (s0 : Int32) : Option (Int32 × CSt) :=
  if s0 = 0 then (lt (-x0) (fun x0_21 => fc_J6_getChars_ba4f3_L22 F F σ x0_21 x5 s0)) else (fc_J6_getChars_ba4f3_L22 F F σ x0 x5 s0)
def fc_J6_getChars_ba4f3 (F : Nat) (σ : CSt) (x0 : Int32) (x1 : Int32) : Option (Int32 × CSt) :=
  if 0 ≤ x0 then (fc_J6_getChars_ba4f3_L12 F σ x0 x1 (0 : Int32)) else (fc_J6_getChars_ba4f3_L12 F σ x0 x1 (1 : Int32))
theorem mo_J6_getChars_ba4f3_L118 {F : Nat} {σ : CSt} {x5 : Int32} {r : Int32} {σr : CSt}  (h : fc_J6_getChars_ba4f3_L118 F σ x5 = some (r, σr)) : Mo σ σr := by
  unfold fc_J6_getChars_ba4f3_L118 at h
  obtain ⟨-, rfl⟩ := Prod.mk.inj (Option.some.inj h)
  exact Mo.rf
theorem mo_J6_getChars_ba4f3_L104 {F : Nat} {σ : CSt} {x5 : Int32} {x6 : Int32} {r : Int32} {σr : CSt}  (h : fc_J6_getChars_ba4f3_L104 F σ x5 x6 = some (r, σr)) : Mo σ σr := by
  unfold fc_J6_getChars_ba4f3_L104 at h
  rcases br_any h with h | h
  · exact (mo_J6_getChars_ba4f3_L118  h)
  · replace h := lt_e h
    obtain ⟨-, h⟩ := gd_some h
    obtain ⟨σ117, he1, h⟩ := lt_some h
    have g1 : Mo σ σ117 := by rw [he1]; exact (Mo.rf : Mo σ σ)
    exact Mo.tr (g1) (mo_J6_getChars_ba4f3_L118  h)
theorem mo_J6_getChars_ba4f3_L22_c {F : Nat} {k22 : CSt → Int32 → Int32 → Int32 → Option (Int32 × CSt)} {σ : CSt} {x0 : Int32} {x5 : Int32} {x6 : Int32} {r : Int32} {σr : CSt} (hk22 : ∀ {y0 : CSt} {y1 : Int32} {y2 : Int32} {y3 : Int32}, k22 y0 y1 y2 y3 = some (r, σr) → Mo y0 σr) (h : fc_J6_getChars_ba4f3_L22_c F k22 σ x0 x5 x6 = some (r, σr)) : Mo σ σr := by
  unfold fc_J6_getChars_ba4f3_L22_c at h
  rcases br_any h with h | h
  · replace h := lt_e h
    obtain ⟨-, h⟩ := gd_some h
    obtain ⟨-, h⟩ := gd_some h
    obtain ⟨σ84, he1, h⟩ := lt_some h
    have g1 : Mo σ σ84 := by rw [he1]; exact (Mo.rf : Mo σ σ)
    rcases br_any h with h | h
    · exact Mo.tr (g1) (mo_J6_getChars_ba4f3_L104  h)
    · replace h := lt_e h
      obtain ⟨-, h⟩ := gd_some h
      obtain ⟨-, h⟩ := gd_some h
      obtain ⟨σ103, he2, h⟩ := lt_some h
      have g2 : Mo σ84 σ103 := by rw [he2]; exact (Mo.rf : Mo σ84 σ84)
      exact Mo.tr (Mo.tr (g1) g2) (mo_J6_getChars_ba4f3_L104  h)
  · replace h := lt_e h
    replace h := lt_e h
    replace h := lt_e h
    obtain ⟨-, h⟩ := gd_some h
    obtain ⟨-, h⟩ := gd_some h
    obtain ⟨σ55, he3, h⟩ := lt_some h
    have g3 : Mo σ σ55 := by rw [he3]; exact (Mo.rf : Mo σ σ)
    replace h := lt_e h
    obtain ⟨-, h⟩ := gd_some h
    obtain ⟨-, h⟩ := gd_some h
    obtain ⟨σ68, he4, h⟩ := lt_some h
    have g4 : Mo σ55 σ68 := by rw [he4]; exact (Mo.rf : Mo σ55 σ55)
    exact Mo.tr (Mo.tr (g3) g4) (hk22 h)
theorem mo_J6_getChars_ba4f3_L22 {F : Nat} {n : Nat} {σ : CSt} {x0 : Int32} {x5 : Int32} {x6 : Int32} {r : Int32} {σr : CSt}  (h : fc_J6_getChars_ba4f3_L22 F n σ x0 x5 x6 = some (r, σr)) : Mo σ σr := by
  induction n generalizing σ x0 x5 x6 with
  | zero => cases (show (none : Option _) = _ from h)
  | succ n ih => exact mo_J6_getChars_ba4f3_L22_c  (fun h9 => ih h9) (show fc_J6_getChars_ba4f3_L22_c F (fc_J6_getChars_ba4f3_L22 F n) σ x0 x5 x6 = some (r, σr) from h)
theorem mo_J6_getChars_ba4f3_L12 {F : Nat} {σ : CSt} {x0 : Int32} {x5 : Int32} {s0 : Int32} {r : Int32} {σr : CSt}  (h : fc_J6_getChars_ba4f3_L12 F σ x0 x5 s0 = some (r, σr)) : Mo σ σr := by
  unfold fc_J6_getChars_ba4f3_L12 at h
  rcases br_any h with h | h
  · replace h := lt_e h
    exact (mo_J6_getChars_ba4f3_L22  h)
  · exact (mo_J6_getChars_ba4f3_L22  h)
theorem mo_J6_getChars_ba4f3 {F : Nat} {σ : CSt} {x0 : Int32} {x1 : Int32} {r : Int32} {σr : CSt}  (h : fc_J6_getChars_ba4f3 F σ x0 x1 = some (r, σr)) : Mo σ σr := by
  unfold fc_J6_getChars_ba4f3 at h
  rcases br_any h with h | h
  · exact (mo_J6_getChars_ba4f3_L12  h)
  · exact (mo_J6_getChars_ba4f3_L12  h)
set_option maxHeartbeats 4000000 in
set_option maxRecDepth 100000 in
theorem kc_J6_getChars_ba4f3 (l : Launch) (D : va_G) (cA : Nat → ClassId) (ad : Nat → Nat) (σ0 : CSt) (η : HS) (F : Nat) (z0 : Int32) (z1 : Int32) (r : Int32) (σr : CSt) (hf : fc_J6_getChars_ba4f3 F σ0 z0 z1 = some (r, σr)) : KC l D cA ad σ0 η yJ6_getChars_ba4f3 cJ6_getChars_ba4f3 7 (some .int) (rmk 0 0) [.int z0, .int z1, .ref η.2.2.1] (some (.int r)) σr := by
  refine KC.of (by decide) (Nat.le_of_ble_eq_true rfl) ?_
  intro p e s m below meth c A hAe hA C hr hlk hK hP hD hS hZ ls hl
  have hl : lv_has ls 7 [(0, .int z0), (1, .int z1), (2, .ref η.2.2.1)] := hl
  have hB118 : ∀ (H : Heap) (locs : List Loc) (σ : CSt) (ls : Array Slot) (x5 : Int32), HC D cA ad σ η H → va_D A (wC cA ad σ η) → va_S A s.heap H locs → lv_has ls 7 [(5, .int x5)] → fc_J6_getChars_ba4f3_L118 F σ x5 = some (r, σr) → WC p l e 0 0 s m [.int z0, .int z1, .ref η.2.2.1] below meth c (some (.int r)) D cA ad σ0 η σr A H locs (F0 m 118 ls []) := by
    intro H locs σ ls x5 hP hD hS hl hf
    unfold fc_J6_getChars_ba4f3_L118 at hf
    refine lv_iload C.1 C.2.1 dJ6_getChars_ba4f3_118 (lv_at hl 0 rfl) ?_
    obtain ⟨rfl, rfl⟩ := Prod.mk.inj (Option.some.inj hf)
    exact KC.iret C hr hlk hK hAe hP hD hS rfl dJ6_getChars_ba4f3_120
  have hB104 : ∀ (H : Heap) (locs : List Loc) (σ : CSt) (ls : Array Slot) (x5 : Int32) (x6 : Int32), HC D cA ad σ η H → va_D A (wC cA ad σ η) → va_S A s.heap H locs → lv_has ls 7 [(2, .ref η.2.2.1), (5, .int x5), (6, .int x6)] → fc_J6_getChars_ba4f3_L104 F σ x5 x6 = some (r, σr) → WC p l e 0 0 s m [.int z0, .int z1, .ref η.2.2.1] below meth c (some (.int r)) D cA ad σ0 η σr A H locs (F0 m 104 ls []) := by
    intro H locs σ ls x5 x6 hP hD hS hl hf
    unfold fc_J6_getChars_ba4f3_L104 at hf
    refine lv_iload C.1 C.2.1 dJ6_getChars_ba4f3_104 (lv_at hl 2 rfl) ?_
    refine lv_if_eq (tgt := 118) C.1 C.2.1 dJ6_getChars_ba4f3_106 (by decide) (fun c106 => ?_) (fun c106 => ?_)
    · have hf := br_p c106 hf
      exact hB118 _ _ _ ls _ hP hD hS (lv_sub hl [1] rfl) hf
    · have hf := br_n c106 hf
      refine lv_aload_n C.1 C.2.1 dJ6_getChars_ba4f3_109 rfl (lv_at hl 0 rfl) ?_
      obtain ⟨x5_110, ex5_110, hf⟩ := lt_some hf
      refine lv_iinc (v := x5_110) (lv' := [(5, .int x5_110), (2, .ref η.2.2.1), (6, .int x6)]) C.1 C.2.1 dJ6_getChars_ba4f3_110 hl (k := 1) rfl (by rw [ex5_110]; rfl) (by decide) rfl (fun ls hl => ?_)
      refine lv_iload C.1 C.2.1 dJ6_getChars_ba4f3_113 (lv_at hl 0 rfl) ?_
      refine lv_bipush (v := (45 : Int32)) C.1 C.2.1 dJ6_getChars_ba4f3_115 (by decide) ?_
      obtain ⟨hi117, hf⟩ := gd_some hf
      replace hf := lt_e hf
      refine ub_sv C hK hP hD hS hi117 dJ6_getChars_ba4f3_117 (fun H locs hP hD hS => ?_)
      exact hB118 _ _ _ ls _ hP hD hS (lv_sub hl [0] rfl) hf
  have hB22 : ∀ (n22 : Nat) (H : Heap) (locs : List Loc) (σ : CSt) (ls : Array Slot) (x0 : Int32) (x5 : Int32) (x6 : Int32), HC D cA ad σ η H → va_D A (wC cA ad σ η) → va_S A s.heap H locs → lv_has ls 7 [(0, .int x0), (2, .ref η.2.2.1), (5, .int x5), (6, .int x6)] → fc_J6_getChars_ba4f3_L22 F n22 σ x0 x5 x6 = some (r, σr) → WC p l e 0 0 s m [.int z0, .int z1, .ref η.2.2.1] below meth c (some (.int r)) D cA ad σ0 η σr A H locs (F0 m 22 ls []) := by
    intro n22
    induction n22 with
    | zero =>
      intro H locs σ ls x0 x5 x6 hP hD hS hl hf
      cases (show (none : Option _) = _ from hf)
    | succ n22 ih22 =>
      intro H locs σ ls x0 x5 x6 hP hD hS hl hf
      have hf : fc_J6_getChars_ba4f3_L22_c F (fc_J6_getChars_ba4f3_L22 F n22) σ x0 x5 x6 = some (r, σr) := hf
      unfold fc_J6_getChars_ba4f3_L22_c at hf
      refine lv_iload_n C.1 C.2.1 dJ6_getChars_ba4f3_22 rfl (lv_at hl 0 rfl) ?_
      refine lv_bipush (v := (-100 : Int32)) C.1 C.2.1 dJ6_getChars_ba4f3_23 (by decide) ?_
      refine lv_icmp_gt (tgt := 72) C.1 C.2.1 dJ6_getChars_ba4f3_25 (by decide) (fun c25 => ?_) (fun c25 => ?_)
      · have hf := br_p c25 hf
        refine lv_aload_n C.1 C.2.1 dJ6_getChars_ba4f3_72 rfl (lv_at hl 1 rfl) ?_
        obtain ⟨x5_73, ex5_73, hf⟩ := lt_some hf
        refine lv_iinc (v := x5_73) (lv' := [(5, .int x5_73), (0, .int x0), (2, .ref η.2.2.1), (6, .int x6)]) C.1 C.2.1 dJ6_getChars_ba4f3_73 hl (k := 2) rfl (by rw [ex5_73]; rfl) (by decide) rfl (fun ls hl => ?_)
        refine lv_iload C.1 C.2.1 dJ6_getChars_ba4f3_76 (lv_at hl 0 rfl) ?_
        refine va_gets C.1 C.2.1 hZ.2.2.2.2.1.1 hS C.2.2.2.1 (C.2.2.2.2 _ wf_J6_83) (fun _ h9 => h9) dJ6_getChars_ba4f3_78 ?_
        refine lv_iload_n C.1 C.2.1 dJ6_getChars_ba4f3_81 rfl (lv_at hl 1 rfl) ?_
        refine lv_ineg C.1 C.2.1 dJ6_getChars_ba4f3_82 ?_
        obtain ⟨hi83, hf⟩ := gd_some hf
        refine va_tb C.1 C.2.1 hZ.2.2.2.2.1.2 hS (ix_in hi83) rfl dJ6_getChars_ba4f3_83 ?_
        obtain ⟨hi84, hf⟩ := gd_some hf
        replace hf := lt_e hf
        refine ub_sv C hK hP hD hS hi84 dJ6_getChars_ba4f3_84 (fun H locs hP hD hS => ?_)
        refine lv_iload_n C.1 C.2.1 dJ6_getChars_ba4f3_85 rfl (lv_at hl 1 rfl) ?_
        refine lv_bipush (v := (-9 : Int32)) C.1 C.2.1 dJ6_getChars_ba4f3_86 (by decide) ?_
        refine lv_icmp_ge (tgt := 104) C.1 C.2.1 dJ6_getChars_ba4f3_88 (by decide) (fun c88 => ?_) (fun c88 => ?_)
        · have hf := br_p c88 hf
          exact hB104 _ _ _ ls _ _ hP hD hS (lv_sub hl [2, 0, 3] rfl) hf
        · have hf := br_n c88 hf
          refine lv_aload_n C.1 C.2.1 dJ6_getChars_ba4f3_91 rfl (lv_at hl 2 rfl) ?_
          obtain ⟨x5_92, ex5_92, hf⟩ := lt_some hf
          refine lv_iinc (v := x5_92) (lv' := [(5, .int x5_92), (0, .int x0), (2, .ref η.2.2.1), (6, .int x6)]) C.1 C.2.1 dJ6_getChars_ba4f3_92 hl (k := 0) rfl (by rw [ex5_92]; rfl) (by decide) rfl (fun ls hl => ?_)
          refine lv_iload C.1 C.2.1 dJ6_getChars_ba4f3_95 (lv_at hl 0 rfl) ?_
          refine va_gets C.1 C.2.1 hZ.2.2.2.2.2.1.1 hS C.2.2.2.1 (C.2.2.2.2 _ wf_J6_87) (fun _ h9 => h9) dJ6_getChars_ba4f3_97 ?_
          refine lv_iload_n C.1 C.2.1 dJ6_getChars_ba4f3_100 rfl (lv_at hl 1 rfl) ?_
          refine lv_ineg C.1 C.2.1 dJ6_getChars_ba4f3_101 ?_
          obtain ⟨hi102, hf⟩ := gd_some hf
          refine va_tb C.1 C.2.1 hZ.2.2.2.2.2.1.2 hS (ix_in hi102) rfl dJ6_getChars_ba4f3_102 ?_
          obtain ⟨hi103, hf⟩ := gd_some hf
          replace hf := lt_e hf
          refine ub_sv C hK hP hD hS hi103 dJ6_getChars_ba4f3_103 (fun H locs hP hD hS => ?_)
          exact hB104 _ _ _ ls _ _ hP hD hS (lv_sub hl [2, 0, 3] rfl) hf
      · have hf := br_n c25 hf
        refine lv_iload_n C.1 C.2.1 dJ6_getChars_ba4f3_28 rfl (lv_at hl 0 rfl) ?_
        refine lv_bipush (v := (100 : Int32)) C.1 C.2.1 dJ6_getChars_ba4f3_29 (by decide) ?_
        refine lv_idiv C.1 C.2.1 dJ6_getChars_ba4f3_31 (by decide) ?_
        obtain ⟨x3_32, ex3_32, hf⟩ := lt_some hf
        refine lv_tope ex3_32 ?_
        refine lv_istore_n (lv' := [(3, .int x3_32), (0, .int x0), (2, .ref η.2.2.1), (5, .int x5), (6, .int x6)]) C.1 C.2.1 dJ6_getChars_ba4f3_32 rfl hl (by decide) rfl (fun ls hl => ?_)
        refine lv_iload_n C.1 C.2.1 dJ6_getChars_ba4f3_33 rfl (lv_at hl 0 rfl) ?_
        refine lv_bipush (v := (100 : Int32)) C.1 C.2.1 dJ6_getChars_ba4f3_34 (by decide) ?_
        refine lv_imul C.1 C.2.1 dJ6_getChars_ba4f3_36 ?_
        refine lv_iload_n C.1 C.2.1 dJ6_getChars_ba4f3_37 rfl (lv_at hl 1 rfl) ?_
        refine lv_isub C.1 C.2.1 dJ6_getChars_ba4f3_38 ?_
        obtain ⟨x4_39, ex4_39, hf⟩ := lt_some hf
        refine lv_tope ex4_39 ?_
        refine lv_istore (lv' := [(4, .int x4_39), (3, .int x3_32), (0, .int x0), (2, .ref η.2.2.1), (5, .int x5), (6, .int x6)]) C.1 C.2.1 dJ6_getChars_ba4f3_39 hl (by decide) rfl (fun ls hl => ?_)
        refine lv_iload_n C.1 C.2.1 dJ6_getChars_ba4f3_41 rfl (lv_at hl 1 rfl) ?_
        refine lv_istore_n (lv' := [(0, .int x3_32), (4, .int x4_39), (3, .int x3_32), (2, .ref η.2.2.1), (5, .int x5), (6, .int x6)]) C.1 C.2.1 dJ6_getChars_ba4f3_42 rfl hl (by decide) rfl (fun ls hl => ?_)
        refine lv_aload_n C.1 C.2.1 dJ6_getChars_ba4f3_43 rfl (lv_at hl 3 rfl) ?_
        obtain ⟨x5_44, ex5_44, hf⟩ := lt_some hf
        refine lv_iinc (v := x5_44) (lv' := [(5, .int x5_44), (0, .int x3_32), (4, .int x4_39), (3, .int x3_32), (2, .ref η.2.2.1), (6, .int x6)]) C.1 C.2.1 dJ6_getChars_ba4f3_44 hl (k := 4) rfl (by rw [ex5_44]; rfl) (by decide) rfl (fun ls hl => ?_)
        refine lv_iload C.1 C.2.1 dJ6_getChars_ba4f3_47 (lv_at hl 0 rfl) ?_
        refine va_gets C.1 C.2.1 hZ.2.2.2.2.1.1 hS C.2.2.2.1 (C.2.2.2.2 _ wf_J6_83) (fun _ h9 => h9) dJ6_getChars_ba4f3_49 ?_
        refine lv_iload C.1 C.2.1 dJ6_getChars_ba4f3_52 (lv_at hl 2 rfl) ?_
        obtain ⟨hi54, hf⟩ := gd_some hf
        refine va_tb C.1 C.2.1 hZ.2.2.2.2.1.2 hS (ix_in hi54) rfl dJ6_getChars_ba4f3_54 ?_
        obtain ⟨hi55, hf⟩ := gd_some hf
        replace hf := lt_e hf
        refine ub_sv C hK hP hD hS hi55 dJ6_getChars_ba4f3_55 (fun H locs hP hD hS => ?_)
        refine lv_aload_n C.1 C.2.1 dJ6_getChars_ba4f3_56 rfl (lv_at hl 4 rfl) ?_
        obtain ⟨x5_57, ex5_57, hf⟩ := lt_some hf
        refine lv_iinc (v := x5_57) (lv' := [(5, .int x5_57), (0, .int x3_32), (4, .int x4_39), (3, .int x3_32), (2, .ref η.2.2.1), (6, .int x6)]) C.1 C.2.1 dJ6_getChars_ba4f3_57 hl (k := 0) rfl (by rw [ex5_57]; rfl) (by decide) rfl (fun ls hl => ?_)
        refine lv_iload C.1 C.2.1 dJ6_getChars_ba4f3_60 (lv_at hl 0 rfl) ?_
        refine va_gets C.1 C.2.1 hZ.2.2.2.2.2.1.1 hS C.2.2.2.1 (C.2.2.2.2 _ wf_J6_87) (fun _ h9 => h9) dJ6_getChars_ba4f3_62 ?_
        refine lv_iload C.1 C.2.1 dJ6_getChars_ba4f3_65 (lv_at hl 2 rfl) ?_
        obtain ⟨hi67, hf⟩ := gd_some hf
        refine va_tb C.1 C.2.1 hZ.2.2.2.2.2.1.2 hS (ix_in hi67) rfl dJ6_getChars_ba4f3_67 ?_
        obtain ⟨hi68, hf⟩ := gd_some hf
        replace hf := lt_e hf
        refine ub_sv C hK hP hD hS hi68 dJ6_getChars_ba4f3_68 (fun H locs hP hD hS => ?_)
        refine lv_goto (tgt := 22) C.1 C.2.1 dJ6_getChars_ba4f3_69 (by decide) ?_
        exact ih22 _ _ _ ls _ _ _ hP hD hS (lv_sub hl [1, 4, 0, 5] rfl) hf
  have hB12 : ∀ (H : Heap) (locs : List Loc) (σ : CSt) (ls : Array Slot) (x0 : Int32) (x5 : Int32) (s0 : Int32), HC D cA ad σ η H → va_D A (wC cA ad σ η) → va_S A s.heap H locs → lv_has ls 7 [(0, .int x0), (2, .ref η.2.2.1), (5, .int x5)] → fc_J6_getChars_ba4f3_L12 F σ x0 x5 s0 = some (r, σr) → WC p l e 0 0 s m [.int z0, .int z1, .ref η.2.2.1] below meth c (some (.int r)) D cA ad σ0 η σr A H locs (F0 m 12 ls [.int s0]) := by
    intro H locs σ ls x0 x5 s0 hP hD hS hl hf
    unfold fc_J6_getChars_ba4f3_L12 at hf
    refine lv_istore (lv' := [(6, .int s0), (0, .int x0), (2, .ref η.2.2.1), (5, .int x5)]) C.1 C.2.1 dJ6_getChars_ba4f3_12 hl (by decide) rfl (fun ls hl => ?_)
    refine lv_iload C.1 C.2.1 dJ6_getChars_ba4f3_14 (lv_at hl 0 rfl) ?_
    refine lv_if_ne (tgt := 22) C.1 C.2.1 dJ6_getChars_ba4f3_16 (by decide) (fun c16 => ?_) (fun c16 => ?_)
    · have hf := br_n c16 hf
      exact hB22 F _ _ _ ls _ _ _ hP hD hS (lv_sub hl [1, 2, 3, 0] rfl) hf
    · have hf := br_p c16 hf
      refine lv_iload_n C.1 C.2.1 dJ6_getChars_ba4f3_19 rfl (lv_at hl 1 rfl) ?_
      refine lv_ineg C.1 C.2.1 dJ6_getChars_ba4f3_20 ?_
      obtain ⟨x0_21, ex0_21, hf⟩ := lt_some hf
      refine lv_tope ex0_21 ?_
      refine lv_istore_n (lv' := [(0, .int x0_21), (6, .int s0), (2, .ref η.2.2.1), (5, .int x5)]) C.1 C.2.1 dJ6_getChars_ba4f3_21 rfl hl (by decide) rfl (fun ls hl => ?_)
      exact hB22 F _ _ _ ls _ _ _ hP hD hS (lv_sub hl [0, 2, 3, 1] rfl) hf
  unfold fc_J6_getChars_ba4f3 at hf
  refine lv_iload_n C.1 C.2.1 dJ6_getChars_ba4f3_0 rfl (lv_at hl 1 rfl) ?_
  refine lv_istore (lv' := [(5, .int z1), (0, .int z0), (1, .int z1), (2, .ref η.2.2.1)]) C.1 C.2.1 dJ6_getChars_ba4f3_1 hl (by decide) rfl (fun ls hl => ?_)
  refine lv_iload_n C.1 C.2.1 dJ6_getChars_ba4f3_3 rfl (lv_at hl 1 rfl) ?_
  refine lv_if_ge (tgt := 11) C.1 C.2.1 dJ6_getChars_ba4f3_4 (by decide) (fun c4 => ?_) (fun c4 => ?_)
  · have hf := br_p c4 hf
    refine lv_iconst (v := (0 : Int32)) C.1 C.2.1 dJ6_getChars_ba4f3_11 (by decide) ?_
    exact hB12 _ _ _ ls _ _ _ hP hD hS (lv_sub hl [1, 3, 0] rfl) hf
  · have hf := br_n c4 hf
    refine lv_iconst (v := (1 : Int32)) C.1 C.2.1 dJ6_getChars_ba4f3_7 (by decide) ?_
    refine lv_goto (tgt := 12) C.1 C.2.1 dJ6_getChars_ba4f3_8 (by decide) ?_
    exact hB12 _ _ _ ls _ _ _ hP hD hS (lv_sub hl [1, 3, 0] rfl) hf
def fc_J5_length_8abf5 (F : Nat) (σ : CSt) : Option (Int32) :=
  some (cs_sct σ)
set_option maxHeartbeats 4000000 in
set_option maxRecDepth 100000 in
theorem kc_J5_length_8abf5 (l : Launch) (D : va_G) (cA : Nat → ClassId) (ad : Nat → Nat) (σ : CSt) (η : HS) (F : Nat)  (r : Int32) (hf : fc_J5_length_8abf5 F σ = some r) : KRc l D cA ad σ η yJ5_length_8abf5 cJ5_length_8abf5 1 (some .int) (rmk 0 0) [.ref (ad 45)] (QcV (.int r)) := by
  refine KRc.of (by decide) (Nat.le_of_ble_eq_true rfl) ?_
  intro p e s m below meth c C hr hlk hK hP hZ ls hl
  have hS : va_S NoA s.heap s.heap [] := va_S.rf
  have hl : lv_has ls 1 [(0, .ref (ad 45))] := hl
  unfold fc_J5_length_8abf5 at hf
  refine lv_aload_n C.1 C.2.1 dJ5_length_8abf5_0 rfl (lv_at hl 0 rfl) ?_
  refine gb_count C hK hP wf_J5_79 dJ5_length_8abf5_1 ?_
  exact KRc.iret C hr hlk (Option.some.inj hf) dJ5_length_8abf5_4
def fc_J4_length_8abf5 (F : Nat) (σ : CSt) : Option (Int32) :=
  bd (fc_J5_length_8abf5 F σ) (fun r1 => some r1)
set_option maxHeartbeats 4000000 in
set_option maxRecDepth 100000 in
theorem kc_J4_length_8abf5 (l : Launch) (D : va_G) (cA : Nat → ClassId) (ad : Nat → Nat) (σ : CSt) (η : HS) (F : Nat)  (r : Int32) (hf : fc_J4_length_8abf5 F σ = some r) : KRc l D cA ad σ η yJ4_length_8abf5 cJ4_length_8abf5 1 (some .int) (rmk 1 20) [.ref (ad 45)] (QcV (.int r)) := by
  refine KRc.of (by decide) (Nat.le_of_ble_eq_true rfl) ?_
  intro p e s m below meth c C hr hlk hK hP hZ ls hl
  have hS : va_S NoA s.heap s.heap [] := va_S.rf
  have hl : lv_has ls 1 [(0, .ref (ad 45))] := hl
  unfold fc_J4_length_8abf5 at hf
  refine lv_aload_n C.1 C.2.1 dJ4_length_8abf5_0 rfl (lv_at hl 0 rfl) ?_
  obtain ⟨r1, hc1, hf⟩ := bd_some hf
  refine cV_go ((CP.run (As := []) wv_J4_343 C hK hl (kc_J5_length_8abf5 l D cA ad _ η F   r1 hc1) (preR hK hP hZ hS (rcS hK hP)) rfl rfl rfl (Nat.le_of_ble_eq_true rfl) ⟨Nat.le_refl _, Nat.le_refl _⟩ dJ4_length_8abf5_1).run) ?_
  exact KRc.iret C hr hlk (Option.some.inj hf) dJ4_length_8abf5_4
def fc_J5_charAt_5068e (F : Nat) (σ : CSt) (x1 : Int32) : Option (Int32) :=
  lt (if ((nI (cs_scap σ)) >>> ((0 : Int32) &&& 31)) < (cs_sct σ) then ((nI (cs_scap σ)) >>> ((0 : Int32) &&& 31)) else (cs_sct σ)) (fun x4_21 => bd (fc_J0_checkIndex_df160 F σ x1 x4_21) (fun r26 => if (0 : Int32) = 0 then (gd (ix x1 (cs_scap σ) = true) (gd (vp_nar .char ((((cs_sv σ x1.toNatClampNeg) &&& (255 : Int32)).toUInt32 % 65536).toInt32) = (((cs_sv σ x1.toNatClampNeg) &&& (255 : Int32)).toUInt32 % 65536).toInt32) (some ((((cs_sv σ x1.toNatClampNeg) &&& (255 : Int32)).toUInt32 % 65536).toInt32)))) else none))
set_option maxHeartbeats 4000000 in
set_option maxRecDepth 100000 in
theorem kc_J5_charAt_5068e (l : Launch) (D : va_G) (cA : Nat → ClassId) (ad : Nat → Nat) (σ : CSt) (η : HS) (F : Nat) (z1 : Int32) (r : Int32) (hf : fc_J5_charAt_5068e F σ z1 = some r) : KRc l D cA ad σ η yJ5_charAt_5068e cJ5_charAt_5068e 5 (some .char) (rmk 2 43) [.ref (ad 45), .int z1] (QcV (.int r)) := by
  refine KRc.of (by decide) (Nat.le_of_ble_eq_true rfl) ?_
  intro p e s m below meth c C hr hlk hK hP hZ ls hl
  have hS : va_S NoA s.heap s.heap [] := va_S.rf
  have hl : lv_has ls 5 [(0, .ref (ad 45)), (1, .int z1)] := hl
  unfold fc_J5_charAt_5068e at hf
  refine lv_aload_n C.1 C.2.1 dJ5_charAt_5068e_0 rfl (lv_at hl 0 rfl) ?_
  refine gb_coder C hK hP wf_J5_22 dJ5_charAt_5068e_1 ?_
  refine lv_istore_n (lv' := [(2, .int (0 : Int32)), (0, .ref (ad 45)), (1, .int z1)]) C.1 C.2.1 dJ5_charAt_5068e_4 rfl hl (by decide) rfl (fun ls hl => ?_)
  refine lv_aload_n C.1 C.2.1 dJ5_charAt_5068e_5 rfl (lv_at hl 1 rfl) ?_
  refine gb_value C hK hP wf_J5_15 dJ5_charAt_5068e_6 ?_
  refine lv_astore_n (lv' := [(3, .ref η.2.2.1), (2, .int (0 : Int32)), (0, .ref (ad 45)), (1, .int z1)]) C.1 C.2.1 dJ5_charAt_5068e_9 rfl hl (by decide) rfl (fun ls hl => ?_)
  refine lv_aload_n C.1 C.2.1 dJ5_charAt_5068e_10 rfl (lv_at hl 2 rfl) ?_
  refine gb_count C hK hP wf_J5_79 dJ5_charAt_5068e_11 ?_
  refine lv_aload_n C.1 C.2.1 dJ5_charAt_5068e_14 rfl (lv_at hl 0 rfl) ?_
  refine nb_sv C hK hP dJ5_charAt_5068e_15 ?_
  refine lv_iload_n C.1 C.2.1 dJ5_charAt_5068e_16 rfl (lv_at hl 1 rfl) ?_
  refine lv_ishr C.1 C.2.1 dJ5_charAt_5068e_17 ?_
  refine va_mmin C.1 C.2.1 (by rw [C.2.2.1]; exact hl.1.symm) C.2.2.2.1 (C.2.2.2.2 _ wm_J5_138.1) (C.2.2.2.2 _ wm_J5_138.2.1) (C.2.2.2.2 _ wm_J5_138.2.2.1) (C.2.2.2.2 _ wm_J5_138.2.2.2) (Nat.le_of_ble_eq_true rfl) (Nat.le_of_ble_eq_true rfl) (Nat.le_refl _) (Nat.le_refl _) dJ5_charAt_5068e_18 ?_
  obtain ⟨x4_21, ex4_21, hf⟩ := lt_some hf
  refine lv_tope ex4_21 ?_
  refine lv_istore (lv' := [(4, .int x4_21), (3, .ref η.2.2.1), (2, .int (0 : Int32)), (0, .ref (ad 45)), (1, .int z1)]) C.1 C.2.1 dJ5_charAt_5068e_21 hl (by decide) rfl (fun ls hl => ?_)
  refine lv_iload_n C.1 C.2.1 dJ5_charAt_5068e_23 rfl (lv_at hl 4 rfl) ?_
  refine lv_iload C.1 C.2.1 dJ5_charAt_5068e_24 (lv_at hl 0 rfl) ?_
  obtain ⟨r26, hc26, hf⟩ := bd_some hf
  refine cN_go (runRSc (As := [_, _]) C hK hP hZ hS wv_J5_144 hl (kc_J0_checkIndex_df160 l D cA ad _ η F _ _  r26 hc26) rfl rfl rfl (Nat.le_of_ble_eq_true rfl) ⟨Nat.le_refl _, Nat.le_refl _⟩ dJ5_charAt_5068e_26) ?_
  refine lv_iload_n C.1 C.2.1 dJ5_charAt_5068e_29 rfl (lv_at hl 2 rfl) ?_
  refine lv_if_ne (tgt := 42) C.1 C.2.1 dJ5_charAt_5068e_30 (by decide) (fun c30 => ?_) (fun c30 => ?_)
  · have hf := br_n c30 hf
    refine lv_aload_n C.1 C.2.1 dJ5_charAt_5068e_42 rfl (lv_at hl 1 rfl) ?_
    refine lv_iload_n C.1 C.2.1 dJ5_charAt_5068e_43 rfl (lv_at hl 4 rfl) ?_
    cases hf
  · have hf := br_p c30 hf
    refine lv_aload_n C.1 C.2.1 dJ5_charAt_5068e_33 rfl (lv_at hl 1 rfl) ?_
    refine lv_iload_n C.1 C.2.1 dJ5_charAt_5068e_34 rfl (lv_at hl 4 rfl) ?_
    obtain ⟨hi35, hf⟩ := gd_some hf
    refine lb_sv C hK hP hi35 dJ5_charAt_5068e_35 ?_
    refine lv_sipush (v := (255 : Int32)) C.1 C.2.1 dJ5_charAt_5068e_36 (by decide) ?_
    refine lv_iand C.1 C.2.1 dJ5_charAt_5068e_39 ?_
    refine lv_i2c C.1 C.2.1 dJ5_charAt_5068e_40 rfl ?_
    obtain ⟨hz41, hf⟩ := gd_some hf
    exact KRc.cret C hr hlk hz41 (Option.some.inj hf) dJ5_charAt_5068e_41
def fc_J4_charAt_5068e (F : Nat) (σ : CSt) (x1 : Int32) : Option (Int32) :=
  bd (fc_J5_charAt_5068e F σ x1) (fun r2 => gd (vp_nar .char r2 = r2) (some r2))
set_option maxHeartbeats 4000000 in
set_option maxRecDepth 100000 in
theorem kc_J4_charAt_5068e (l : Launch) (D : va_G) (cA : Nat → ClassId) (ad : Nat → Nat) (σ : CSt) (η : HS) (F : Nat) (z1 : Int32) (r : Int32) (hf : fc_J4_charAt_5068e F σ z1 = some r) : KRc l D cA ad σ η yJ4_charAt_5068e cJ4_charAt_5068e 2 (some .char) (rmk 3 67) [.ref (ad 45), .int z1] (QcV (.int r)) := by
  refine KRc.of (by decide) (Nat.le_of_ble_eq_true rfl) ?_
  intro p e s m below meth c C hr hlk hK hP hZ ls hl
  have hS : va_S NoA s.heap s.heap [] := va_S.rf
  have hl : lv_has ls 2 [(0, .ref (ad 45)), (1, .int z1)] := hl
  unfold fc_J4_charAt_5068e at hf
  refine lv_aload_n C.1 C.2.1 dJ4_charAt_5068e_0 rfl (lv_at hl 0 rfl) ?_
  refine lv_iload_n C.1 C.2.1 dJ4_charAt_5068e_1 rfl (lv_at hl 1 rfl) ?_
  obtain ⟨r2, hc2, hf⟩ := bd_some hf
  refine cV_go ((CP.run (As := [_]) wv_J4_329 C hK hl (kc_J5_charAt_5068e l D cA ad _ η F _  r2 hc2) (preR hK hP hZ hS (rcS hK hP)) rfl rfl rfl (Nat.le_of_ble_eq_true rfl) ⟨Nat.le_refl _, Nat.le_refl _⟩ dJ4_charAt_5068e_2).run) ?_
  obtain ⟨hz5, hf⟩ := gd_some hf
  exact KRc.cret C hr hlk hz5 (Option.some.inj hf) dJ4_charAt_5068e_5
