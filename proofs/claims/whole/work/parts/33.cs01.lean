def fc_J5_setLength_d00df_L76 (F : Nat) (σ : CSt) (x1 : Int32) : Option (CSt) :=
  lt (cs_sct_s σ x1) (fun σ78 => some σ78)
def fc_J5_setLength_d00df (F : Nat) (σ : CSt) (x1 : Int32) : Option (CSt) :=
  if 0 ≤ x1 then (bd (fc_J5_ensureCapacityInternal_d00df F σ x1) (fun σ15 => if x1 ≤ (cs_sct σ15) then (if (cs_sct σ15) ≤ x1 then (fc_J5_setLength_d00df_L76 F σ15 x1) else (lt (cs_sml_s σ15 (1 : Int32)) (fun σ73 => fc_J5_setLength_d00df_L76 F σ73 x1))) else (bd (fc_J5_isLatin1_aae02 F σ15) (fun r27 => if r27 = 0 then none else none)))) else none
theorem mo_J5_setLength_d00df_L76 {F : Nat} {σ : CSt} {x1 : Int32} {σr : CSt}  (h : fc_J5_setLength_d00df_L76 F σ x1 = some σr) : Mo σ σr := by
  unfold fc_J5_setLength_d00df_L76 at h
  obtain ⟨σ78, he1, h⟩ := lt_some h
  have g1 : Mo σ σ78 := by rw [he1]; exact (Mo.rf : Mo σ σ)
  obtain rfl := Option.some.inj h
  exact g1
theorem mo_J5_setLength_d00df {F : Nat} {σ : CSt} {x1 : Int32} {σr : CSt}  (h : fc_J5_setLength_d00df F σ x1 = some σr) : Mo σ σr := by
  unfold fc_J5_setLength_d00df at h
  rcases br_any h with h | h
  · obtain ⟨σ15, hd1, h⟩ := bd_some h
    have g1 : Mo σ σ15 := mo_J5_ensureCapacityInternal_d00df hd1
    rcases br_any h with h | h
    · rcases br_any h with h | h
      · exact Mo.tr (g1) (mo_J5_setLength_d00df_L76  h)
      · obtain ⟨σ73, he2, h⟩ := lt_some h
        have g2 : Mo σ15 σ73 := by rw [he2]; exact (Mo.rf : Mo σ15 σ15)
        exact Mo.tr (Mo.tr (g1) g2) (mo_J5_setLength_d00df_L76  h)
    · obtain ⟨r27, hd3, h⟩ := bd_some h
      rcases br_any h with h | h
      · cases h
      · cases h
  · cases h
set_option maxHeartbeats 4000000 in
set_option maxRecDepth 100000 in
theorem kc_J5_setLength_d00df (l : Launch) (D : va_G) (cA : Nat → ClassId) (ad : Nat → Nat) (σ0 : CSt) (η0 : HS) (F : Nat) (z1 : Int32) (σr : CSt) (hf : fc_J5_setLength_d00df F σ0 z1 = some σr) : KE l D cA ad σ0 η0 yJ5_setLength_d00df cJ5_setLength_d00df 2 none (rmc 4 91 (cs_nc σr - cs_nc σ0) (cs_ns σr - cs_ns σ0)) [.ref (ad 45), .int z1] none σr := by
  refine KE.of (by decide) (Nat.le_of_ble_eq_true rfl) ?_
  intro p e s m below meth c A hAe hA C hr hlk hK hP hD hS hZ ls hl
  have hx : ext η0 η0 := ext.rf
  have hcc : CC 0 0 σ0 σ0 := CC.z
  have hcl : 0 ≤ cs_nc σr - cs_nc σ0 ∧ 0 ≤ cs_ns σr - cs_ns σ0 := ⟨Nat.zero_le _, Nat.zero_le _⟩
  have hl : lv_has ls 2 [(0, .ref (ad 45)), (1, .int z1)] := hl
  have hB76 : ∀ (η : HS) (H : Heap) (locs : List Loc) (σ : CSt) (ls : Array Slot) (x1 : Int32), ext η0 η → HC D cA ad σ η H → va_D A (wC cA ad σ η) → va_S A s.heap H locs → Mo σ0 σ → lv_has ls 2 [(0, .ref (ad 45)), (1, .int x1)] → fc_J5_setLength_d00df_L76 F σ x1 = some σr → WE p l e 4 91 (cs_nc σr - cs_nc σ0) (cs_ns σr - cs_ns σ0) s m [.ref (ad 45), .int z1] below meth c none D cA ad σ0 η0 σr A H locs (cs_nc σ - cs_nc σ0) (cs_ns σ - cs_ns σ0) (F0 m 76 ls []) := by
    intro η H locs σ ls x1 hx hP hD hS hM0 hl hf
    have hcc := CC.lab hM0
    have hcl := hcc.le (mo_J5_setLength_d00df_L76  hf)
    unfold fc_J5_setLength_d00df_L76 at hf
    refine lv_aload_n C.1 C.2.1 dJ5_setLength_d00df_76 rfl (lv_at hl 0 rfl) ?_
    refine lv_iload_n C.1 C.2.1 dJ5_setLength_d00df_77 rfl (lv_at hl 1 rfl) ?_
    replace hf := lt_e hf
    refine pb_count C hK hP hD hS wf_J5_79 dJ5_setLength_d00df_78 (fun H locs hP hD hS => ?_)
    obtain rfl := Option.some.inj hf
    exact KE.vret C hr hlk hK hAe hx hP hD hS (hcc.le Mo.rf).1 (hcc.le Mo.rf).2 rfl dJ5_setLength_d00df_81
  unfold fc_J5_setLength_d00df at hf
  refine lv_iload_n C.1 C.2.1 dJ5_setLength_d00df_0 rfl (lv_at hl 1 rfl) ?_
  refine lv_if_ge (tgt := 13) C.1 C.2.1 dJ5_setLength_d00df_1 (by decide) (fun c1 => ?_) (fun c1 => ?_)
  · have hf := br_p c1 hf
    refine lv_aload_n C.1 C.2.1 dJ5_setLength_d00df_13 rfl (lv_at hl 0 rfl) ?_
    refine lv_iload_n C.1 C.2.1 dJ5_setLength_d00df_14 rfl (lv_at hl 1 rfl) ?_
    obtain ⟨σ15, hc15, hf⟩ := bd_some hf
    have hcc := CC.add2 (mo_J5_ensureCapacityInternal_d00df hc15) hcc
    have hcl := CC.le (σr := σr) hcc (by
      have h := hf
      rcases br_any h with h | h
      · rcases br_any h with h | h
        · exact (mo_J5_setLength_d00df_L76  h)
        · obtain ⟨σ73, he1, h⟩ := lt_some h
          have g1 : Mo σ15 σ73 := by rw [he1]; exact (Mo.rf : Mo σ15 σ15)
          exact Mo.tr (g1) (mo_J5_setLength_d00df_L76  h)
      · obtain ⟨r27, hd2, h⟩ := bd_some h
        rcases br_any h with h | h
        · cases h
        · cases h)
    refine cE_go (CU.run (As := [_]) wv_J5_100 C hl ((kc_J5_ensureCapacityInternal_d00df l D cA ad _ _ F _  σ15 hc15) _) (preC hK hP hD hA hZ hS (rcS hK hP)) rfl rfl rfl (Nat.le_of_ble_eq_true rfl) hcl dJ5_setLength_d00df_15) hD hA hS (fun η H locs hx1 hP hD hS => ?_)
    replace hx := hx.tr hx1
    refine lv_aload_n C.1 C.2.1 dJ5_setLength_d00df_18 rfl (lv_at hl 0 rfl) ?_
    refine gb_count C hK hP wf_J5_79 dJ5_setLength_d00df_19 ?_
    refine lv_iload_n C.1 C.2.1 dJ5_setLength_d00df_22 rfl (lv_at hl 1 rfl) ?_
    refine lv_icmp_ge (tgt := 63) C.1 C.2.1 dJ5_setLength_d00df_23 (by decide) (fun c23 => ?_) (fun c23 => ?_)
    · have hf := br_p c23 hf
      refine lv_aload_n C.1 C.2.1 dJ5_setLength_d00df_63 rfl (lv_at hl 0 rfl) ?_
      refine gb_count C hK hP wf_J5_79 dJ5_setLength_d00df_64 ?_
      refine lv_iload_n C.1 C.2.1 dJ5_setLength_d00df_67 rfl (lv_at hl 1 rfl) ?_
      refine lv_icmp_le (tgt := 76) C.1 C.2.1 dJ5_setLength_d00df_68 (by decide) (fun c68 => ?_) (fun c68 => ?_)
      · have hf := br_p c68 hf
        have hcw := CC.le hcc Mo.rf
        refine W.widen ?_ ?_ (hB76 _ _ _ _ ls _ hx hP hD hS hcc.M (lv_sub hl [0, 1] rfl) hf)
        · exact hcw.1
        · exact hcw.2
      · have hf := br_n c68 hf
        refine lv_aload_n C.1 C.2.1 dJ5_setLength_d00df_71 rfl (lv_at hl 0 rfl) ?_
        refine lv_iconst (v := (1 : Int32)) C.1 C.2.1 dJ5_setLength_d00df_72 (by decide) ?_
        replace hf := lt_e hf
        refine pb_maybeLatin1 C hK hP hD hS (by decide) wf_J5_73 dJ5_setLength_d00df_73 (fun H locs hP hD hS => ?_)
        have hcw := CC.le hcc Mo.rf
        refine W.widen ?_ ?_ (hB76 _ _ _ _ ls _ hx hP hD hS hcc.M (lv_sub hl [0, 1] rfl) hf)
        · exact hcw.1
        · exact hcw.2
    · have hf := br_n c23 hf
      refine lv_aload_n C.1 C.2.1 dJ5_setLength_d00df_26 rfl (lv_at hl 0 rfl) ?_
      obtain ⟨r27, hc27, hf⟩ := bd_some hf
      refine cV_go ((CU.run (As := []) wv_J5_83 C hl (kc_J5_isLatin1_aae02 l D cA ad _ _ F   r27 hc27) (preR hK hP hZ hS (rcS hK hP)) rfl rfl rfl (Nat.le_of_ble_eq_true rfl) hcl dJ5_setLength_d00df_27).run) ?_
      refine lv_if_eq (tgt := 48) C.1 C.2.1 dJ5_setLength_d00df_30 (by decide) (fun c30 => ?_) (fun c30 => ?_)
      · have hf := br_p c30 hf
        refine lv_aload_n C.1 C.2.1 dJ5_setLength_d00df_48 rfl (lv_at hl 0 rfl) ?_
        refine gb_value C hK hP wf_J5_15 dJ5_setLength_d00df_49 ?_
        refine lv_aload_n C.1 C.2.1 dJ5_setLength_d00df_52 rfl (lv_at hl 0 rfl) ?_
        refine gb_count C hK hP wf_J5_79 dJ5_setLength_d00df_53 ?_
        refine lv_iload_n C.1 C.2.1 dJ5_setLength_d00df_56 rfl (lv_at hl 1 rfl) ?_
        cases hf
      · have hf := br_n c30 hf
        refine lv_aload_n C.1 C.2.1 dJ5_setLength_d00df_33 rfl (lv_at hl 0 rfl) ?_
        refine gb_value C hK hP wf_J5_15 dJ5_setLength_d00df_34 ?_
        refine lv_aload_n C.1 C.2.1 dJ5_setLength_d00df_37 rfl (lv_at hl 0 rfl) ?_
        refine gb_count C hK hP wf_J5_79 dJ5_setLength_d00df_38 ?_
        refine lv_iload_n C.1 C.2.1 dJ5_setLength_d00df_41 rfl (lv_at hl 1 rfl) ?_
        cases hf
  · have hf := br_n c1 hf
    cases hf
def fc_J4_setLength_d00df (F : Nat) (σ : CSt) (x1 : Int32) : Option (CSt) :=
  bd (fc_J5_setLength_d00df F σ x1) (fun σ2 => some σ2)
theorem mo_J4_setLength_d00df {F : Nat} {σ : CSt} {x1 : Int32} {σr : CSt}  (h : fc_J4_setLength_d00df F σ x1 = some σr) : Mo σ σr := by
  unfold fc_J4_setLength_d00df at h
  obtain ⟨σ2, hd1, h⟩ := bd_some h
  have g1 : Mo σ σ2 := mo_J5_setLength_d00df hd1
  obtain rfl := Option.some.inj h
  exact g1
set_option maxHeartbeats 4000000 in
set_option maxRecDepth 100000 in
theorem kc_J4_setLength_d00df (l : Launch) (D : va_G) (cA : Nat → ClassId) (ad : Nat → Nat) (σ0 : CSt) (η0 : HS) (F : Nat) (z1 : Int32) (σr : CSt) (hf : fc_J4_setLength_d00df F σ0 z1 = some σr) : KE l D cA ad σ0 η0 yJ4_setLength_d00df cJ4_setLength_d00df 2 none (rmc 5 112 (cs_nc σr - cs_nc σ0) (cs_ns σr - cs_ns σ0)) [.ref (ad 45), .int z1] none σr := by
  refine KE.of (by decide) (Nat.le_of_ble_eq_true rfl) ?_
  intro p e s m below meth c A hAe hA C hr hlk hK hP hD hS hZ ls hl
  have hx : ext η0 η0 := ext.rf
  have hcc : CC 0 0 σ0 σ0 := CC.z
  have hcl : 0 ≤ cs_nc σr - cs_nc σ0 ∧ 0 ≤ cs_ns σr - cs_ns σ0 := ⟨Nat.zero_le _, Nat.zero_le _⟩
  have hl : lv_has ls 2 [(0, .ref (ad 45)), (1, .int z1)] := hl
  unfold fc_J4_setLength_d00df at hf
  refine lv_aload_n C.1 C.2.1 dJ4_setLength_d00df_0 rfl (lv_at hl 0 rfl) ?_
  refine lv_iload_n C.1 C.2.1 dJ4_setLength_d00df_1 rfl (lv_at hl 1 rfl) ?_
  obtain ⟨σ2, hc2, hf⟩ := bd_some hf
  have hcc := CC.add2 (mo_J5_setLength_d00df hc2) hcc
  have hcl := CC.le (σr := σr) hcc (by
    have h := hf
    obtain rfl := Option.some.inj h
    exact Mo.rf)
  refine cE_go (CP.run (As := [_]) wv_J4_333 C hK hl ((kc_J5_setLength_d00df l D cA ad _ _ F _  σ2 hc2) _) (preC hK hP hD hA hZ hS (rcS hK hP)) rfl rfl rfl (Nat.le_of_ble_eq_true rfl) hcl dJ4_setLength_d00df_2) hD hA hS (fun η H locs hx1 hP hD hS => ?_)
  replace hx := hx.tr hx1
  obtain rfl := Option.some.inj hf
  exact KE.vret C hr hlk hK hAe hx hP hD hS (hcc.le Mo.rf).1 (hcc.le Mo.rf).2 rfl dJ4_setLength_d00df_5
def fc_J5_append_3fe6f_L75 (F : Nat) (σ : CSt) : Option (CSt) :=
  some σ
def fc_J5_append_3fe6f_L56 (F : Nat) (σ : CSt) (x1 : Int32) : Option (CSt) :=
  lt (cs_sct_s σ ((cs_sct σ) + (1 : Int32))) (fun σ68 => none)
def fc_J5_append_3fe6f_L45 (F : Nat) (σ : CSt) (x1 : Int32) : Option (CSt) :=
  bd (fc_J5_isLatin1_aae02 F σ) (fun r46 => if r46 = 0 then (fc_J5_append_3fe6f_L56 F σ x1) else none)
def fc_J5_append_3fe6f (F : Nat) (σ : CSt) (x1 : Int32) : Option (CSt) :=
  bd (fc_J5_ensureCapacityInternal_d00df F σ ((cs_sct σ) + (1 : Int32))) (fun σ7 => bd (fc_J5_isLatin1_aae02 F σ7) (fun r11 => if r11 = 0 then (fc_J5_append_3fe6f_L45 F σ7 x1) else (bd (fc_J1_canEncode_fc78d F σ7 x1) (fun r18 => if r18 = 0 then (fc_J5_append_3fe6f_L45 F σ7 x1) else (lt (cs_sct_s σ7 ((cs_sct σ7) + (1 : Int32))) (fun σ36 => gd (ix (cs_sct σ7) (cs_scap σ36) = true) (lt (sc_sv σ36 (cs_sct σ7) (x1.toInt8.toInt32)) (fun σ41 => fc_J5_append_3fe6f_L75 F σ41))))))))
theorem mo_J5_append_3fe6f_L75 {F : Nat} {σ : CSt} {σr : CSt}  (h : fc_J5_append_3fe6f_L75 F σ = some σr) : Mo σ σr := by
  unfold fc_J5_append_3fe6f_L75 at h
  obtain rfl := Option.some.inj h
  exact Mo.rf
theorem mo_J5_append_3fe6f_L56 {F : Nat} {σ : CSt} {x1 : Int32} {σr : CSt}  (h : fc_J5_append_3fe6f_L56 F σ x1 = some σr) : Mo σ σr := by
  unfold fc_J5_append_3fe6f_L56 at h
  obtain ⟨σ68, he1, h⟩ := lt_some h
  have g1 : Mo σ σ68 := by rw [he1]; exact (Mo.rf : Mo σ σ)
  cases h
theorem mo_J5_append_3fe6f_L45 {F : Nat} {σ : CSt} {x1 : Int32} {σr : CSt}  (h : fc_J5_append_3fe6f_L45 F σ x1 = some σr) : Mo σ σr := by
  unfold fc_J5_append_3fe6f_L45 at h
  obtain ⟨r46, hd1, h⟩ := bd_some h
  rcases br_any h with h | h
  · exact (mo_J5_append_3fe6f_L56  h)
  · cases h
theorem mo_J5_append_3fe6f {F : Nat} {σ : CSt} {x1 : Int32} {σr : CSt}  (h : fc_J5_append_3fe6f F σ x1 = some σr) : Mo σ σr := by
  unfold fc_J5_append_3fe6f at h
  obtain ⟨σ7, hd1, h⟩ := bd_some h
  have g1 : Mo σ σ7 := mo_J5_ensureCapacityInternal_d00df hd1
  obtain ⟨r11, hd2, h⟩ := bd_some h
  rcases br_any h with h | h
  · exact Mo.tr (g1) (mo_J5_append_3fe6f_L45  h)
  · obtain ⟨r18, hd3, h⟩ := bd_some h
    rcases br_any h with h | h
    · exact Mo.tr (g1) (mo_J5_append_3fe6f_L45  h)
    · obtain ⟨σ36, he4, h⟩ := lt_some h
      have g4 : Mo σ7 σ36 := by rw [he4]; exact (Mo.rf : Mo σ7 σ7)
      obtain ⟨-, h⟩ := gd_some h
      obtain ⟨σ41, he5, h⟩ := lt_some h
      have g5 : Mo σ36 σ41 := by rw [he5]; exact (Mo.rf : Mo σ36 σ36)
      exact Mo.tr (Mo.tr (Mo.tr (g1) g4) g5) (mo_J5_append_3fe6f_L75  h)
set_option maxHeartbeats 4000000 in
set_option maxRecDepth 100000 in
theorem kc_J5_append_3fe6f (l : Launch) (D : va_G) (cA : Nat → ClassId) (ad : Nat → Nat) (σ0 : CSt) (η0 : HS) (F : Nat) (z1 : Int32) (σr : CSt) (hf : fc_J5_append_3fe6f F σ0 z1 = some σr) : KE l D cA ad σ0 η0 yJ5_append_3fe6f cJ5_append_3fe6f 2 (some (.object "java/lang/AbstractStringBuilder")) (rmc 4 91 (cs_nc σr - cs_nc σ0) (cs_ns σr - cs_ns σ0)) [.ref (ad 45), .int z1] (some (.ref (ad 45))) σr := by
  refine KE.of (by decide) (Nat.le_of_ble_eq_true rfl) ?_
  intro p e s m below meth c A hAe hA C hr hlk hK hP hD hS hZ ls hl
  have hx : ext η0 η0 := ext.rf
  have hcc : CC 0 0 σ0 σ0 := CC.z
  have hcl : 0 ≤ cs_nc σr - cs_nc σ0 ∧ 0 ≤ cs_ns σr - cs_ns σ0 := ⟨Nat.zero_le _, Nat.zero_le _⟩
  have hl : lv_has ls 2 [(0, .ref (ad 45)), (1, .int z1)] := hl
  have hB75 : ∀ (η : HS) (H : Heap) (locs : List Loc) (σ : CSt) (ls : Array Slot), ext η0 η → HC D cA ad σ η H → va_D A (wC cA ad σ η) → va_S A s.heap H locs → Mo σ0 σ → lv_has ls 2 [(0, .ref (ad 45))] → fc_J5_append_3fe6f_L75 F σ = some σr → WE p l e 4 91 (cs_nc σr - cs_nc σ0) (cs_ns σr - cs_ns σ0) s m [.ref (ad 45), .int z1] below meth c (some (.ref (ad 45))) D cA ad σ0 η0 σr A H locs (cs_nc σ - cs_nc σ0) (cs_ns σ - cs_ns σ0) (F0 m 75 ls []) := by
    intro η H locs σ ls hx hP hD hS hM0 hl hf
    have hcc := CC.lab hM0
    have hcl := hcc.le (mo_J5_append_3fe6f_L75  hf)
    unfold fc_J5_append_3fe6f_L75 at hf
    refine lv_aload_n C.1 C.2.1 dJ5_append_3fe6f_75 rfl (lv_at hl 0 rfl) ?_
    obtain rfl := Option.some.inj hf
    exact KE.aret C hr hlk hK hAe hx hP hD hS (hcc.le Mo.rf).1 (hcc.le Mo.rf).2 rfl dJ5_append_3fe6f_76
  have hB56 : ∀ (η : HS) (H : Heap) (locs : List Loc) (σ : CSt) (ls : Array Slot) (x1 : Int32), ext η0 η → HC D cA ad σ η H → va_D A (wC cA ad σ η) → va_S A s.heap H locs → Mo σ0 σ → lv_has ls 2 [(0, .ref (ad 45)), (1, .int x1)] → fc_J5_append_3fe6f_L56 F σ x1 = some σr → WE p l e 4 91 (cs_nc σr - cs_nc σ0) (cs_ns σr - cs_ns σ0) s m [.ref (ad 45), .int z1] below meth c (some (.ref (ad 45))) D cA ad σ0 η0 σr A H locs (cs_nc σ - cs_nc σ0) (cs_ns σ - cs_ns σ0) (F0 m 56 ls []) := by
    intro η H locs σ ls x1 hx hP hD hS hM0 hl hf
    have hcc := CC.lab hM0
    have hcl := hcc.le (mo_J5_append_3fe6f_L56  hf)
    unfold fc_J5_append_3fe6f_L56 at hf
    refine lv_aload_n C.1 C.2.1 dJ5_append_3fe6f_56 rfl (lv_at hl 0 rfl) ?_
    refine gb_value C hK hP wf_J5_15 dJ5_append_3fe6f_57 ?_
    refine lv_aload_n C.1 C.2.1 dJ5_append_3fe6f_60 rfl (lv_at hl 0 rfl) ?_
    refine lv_dup C.1 C.2.1 dJ5_append_3fe6f_61 rfl ?_
    refine gb_count C hK hP wf_J5_79 dJ5_append_3fe6f_62 ?_
    refine lv_dup_x1 C.1 C.2.1 dJ5_append_3fe6f_65 rfl rfl ?_
    refine lv_iconst (v := (1 : Int32)) C.1 C.2.1 dJ5_append_3fe6f_66 (by decide) ?_
    refine lv_iadd C.1 C.2.1 dJ5_append_3fe6f_67 ?_
    replace hf := lt_e hf
    refine pb_count C hK hP hD hS wf_J5_79 dJ5_append_3fe6f_68 (fun H locs hP hD hS => ?_)
    refine lv_iload_n C.1 C.2.1 dJ5_append_3fe6f_71 rfl (lv_at hl 1 rfl) ?_
    cases hf
  have hB45 : ∀ (η : HS) (H : Heap) (locs : List Loc) (σ : CSt) (ls : Array Slot) (x1 : Int32), ext η0 η → HC D cA ad σ η H → va_D A (wC cA ad σ η) → va_S A s.heap H locs → Mo σ0 σ → lv_has ls 2 [(0, .ref (ad 45)), (1, .int x1)] → fc_J5_append_3fe6f_L45 F σ x1 = some σr → WE p l e 4 91 (cs_nc σr - cs_nc σ0) (cs_ns σr - cs_ns σ0) s m [.ref (ad 45), .int z1] below meth c (some (.ref (ad 45))) D cA ad σ0 η0 σr A H locs (cs_nc σ - cs_nc σ0) (cs_ns σ - cs_ns σ0) (F0 m 45 ls []) := by
    intro η H locs σ ls x1 hx hP hD hS hM0 hl hf
    have hcc := CC.lab hM0
    have hcl := hcc.le (mo_J5_append_3fe6f_L45  hf)
    unfold fc_J5_append_3fe6f_L45 at hf
    refine lv_aload_n C.1 C.2.1 dJ5_append_3fe6f_45 rfl (lv_at hl 0 rfl) ?_
    obtain ⟨r46, hc46, hf⟩ := bd_some hf
    refine cV_go ((CU.run (As := []) wv_J5_83 C hl (kc_J5_isLatin1_aae02 l D cA ad _ _ F   r46 hc46) (preR hK hP hZ hS (rcS hK hP)) rfl rfl rfl (Nat.le_of_ble_eq_true rfl) hcl dJ5_append_3fe6f_46).run) ?_
    refine lv_if_eq (tgt := 56) C.1 C.2.1 dJ5_append_3fe6f_49 (by decide) (fun c49 => ?_) (fun c49 => ?_)
    · have hf := br_p c49 hf
      have hcw := CC.le hcc Mo.rf
      refine W.widen ?_ ?_ (hB56 _ _ _ _ ls _ hx hP hD hS hcc.M (lv_sub hl [0, 1] rfl) hf)
      · exact hcw.1
      · exact hcw.2
    · have hf := br_n c49 hf
      refine lv_aload_n C.1 C.2.1 dJ5_append_3fe6f_52 rfl (lv_at hl 0 rfl) ?_
      cases hf
  unfold fc_J5_append_3fe6f at hf
  refine lv_aload_n C.1 C.2.1 dJ5_append_3fe6f_0 rfl (lv_at hl 0 rfl) ?_
  refine lv_aload_n C.1 C.2.1 dJ5_append_3fe6f_1 rfl (lv_at hl 0 rfl) ?_
  refine gb_count C hK hP wf_J5_79 dJ5_append_3fe6f_2 ?_
  refine lv_iconst (v := (1 : Int32)) C.1 C.2.1 dJ5_append_3fe6f_5 (by decide) ?_
  refine lv_iadd C.1 C.2.1 dJ5_append_3fe6f_6 ?_
  obtain ⟨σ7, hc7, hf⟩ := bd_some hf
  have hcc := CC.add2 (mo_J5_ensureCapacityInternal_d00df hc7) hcc
  have hcl := CC.le (σr := σr) hcc (by
    have h := hf
    obtain ⟨r11, hd1, h⟩ := bd_some h
    rcases br_any h with h | h
    · exact (mo_J5_append_3fe6f_L45  h)
    · obtain ⟨r18, hd2, h⟩ := bd_some h
      rcases br_any h with h | h
      · exact (mo_J5_append_3fe6f_L45  h)
      · obtain ⟨σ36, he3, h⟩ := lt_some h
        have g3 : Mo σ7 σ36 := by rw [he3]; exact (Mo.rf : Mo σ7 σ7)
        obtain ⟨-, h⟩ := gd_some h
        obtain ⟨σ41, he4, h⟩ := lt_some h
        have g4 : Mo σ36 σ41 := by rw [he4]; exact (Mo.rf : Mo σ36 σ36)
        exact Mo.tr (Mo.tr (g3) g4) (mo_J5_append_3fe6f_L75  h))
  refine cE_go (CU.run (As := [_]) wv_J5_100 C hl ((kc_J5_ensureCapacityInternal_d00df l D cA ad _ _ F _  σ7 hc7) _) (preC hK hP hD hA hZ hS (rcS hK hP)) rfl rfl rfl (Nat.le_of_ble_eq_true rfl) hcl dJ5_append_3fe6f_7) hD hA hS (fun η H locs hx1 hP hD hS => ?_)
  replace hx := hx.tr hx1
  refine lv_aload_n C.1 C.2.1 dJ5_append_3fe6f_10 rfl (lv_at hl 0 rfl) ?_
  obtain ⟨r11, hc11, hf⟩ := bd_some hf
  refine cV_go ((CU.run (As := []) wv_J5_83 C hl (kc_J5_isLatin1_aae02 l D cA ad _ _ F   r11 hc11) (preR hK hP hZ hS (rcS hK hP)) rfl rfl rfl (Nat.le_of_ble_eq_true rfl) hcl dJ5_append_3fe6f_11).run) ?_
  refine lv_if_eq (tgt := 45) C.1 C.2.1 dJ5_append_3fe6f_14 (by decide) (fun c14 => ?_) (fun c14 => ?_)
  · have hf := br_p c14 hf
    have hcw := CC.le hcc Mo.rf
    refine W.widen ?_ ?_ (hB45 _ _ _ _ ls _ hx hP hD hS hcc.M (lv_sub hl [0, 1] rfl) hf)
    · exact hcw.1
    · exact hcw.2
  · have hf := br_n c14 hf
    refine lv_iload_n C.1 C.2.1 dJ5_append_3fe6f_17 rfl (lv_at hl 1 rfl) ?_
    obtain ⟨r18, hc18, hf⟩ := bd_some hf
    refine cV_go (runRSc (As := [_]) C hK hP hZ hS wv_J5_191 hl (kc_J1_canEncode_fc78d l D cA ad _ _ F _  r18 hc18) rfl rfl rfl (Nat.le_of_ble_eq_true rfl) hcl dJ5_append_3fe6f_18) ?_
    refine lv_if_eq (tgt := 45) C.1 C.2.1 dJ5_append_3fe6f_21 (by decide) (fun c21 => ?_) (fun c21 => ?_)
    · have hf := br_p c21 hf
      have hcw := CC.le hcc Mo.rf
      refine W.widen ?_ ?_ (hB45 _ _ _ _ ls _ hx hP hD hS hcc.M (lv_sub hl [0, 1] rfl) hf)
      · exact hcw.1
      · exact hcw.2
    · have hf := br_n c21 hf
      refine lv_aload_n C.1 C.2.1 dJ5_append_3fe6f_24 rfl (lv_at hl 0 rfl) ?_
      refine gb_value C hK hP wf_J5_15 dJ5_append_3fe6f_25 ?_
      refine lv_aload_n C.1 C.2.1 dJ5_append_3fe6f_28 rfl (lv_at hl 0 rfl) ?_
      refine lv_dup C.1 C.2.1 dJ5_append_3fe6f_29 rfl ?_
      refine gb_count C hK hP wf_J5_79 dJ5_append_3fe6f_30 ?_
      refine lv_dup_x1 C.1 C.2.1 dJ5_append_3fe6f_33 rfl rfl ?_
      refine lv_iconst (v := (1 : Int32)) C.1 C.2.1 dJ5_append_3fe6f_34 (by decide) ?_
      refine lv_iadd C.1 C.2.1 dJ5_append_3fe6f_35 ?_
      replace hf := lt_e hf
      refine pb_count C hK hP hD hS wf_J5_79 dJ5_append_3fe6f_36 (fun H locs hP hD hS => ?_)
      refine lv_iload_n C.1 C.2.1 dJ5_append_3fe6f_39 rfl (lv_at hl 1 rfl) ?_
      refine lv_i2b C.1 C.2.1 dJ5_append_3fe6f_40 rfl ?_
      obtain ⟨hi41, hf⟩ := gd_some hf
      replace hf := lt_e hf
      refine ub_sv C hK hP hD hS hi41 dJ5_append_3fe6f_41 (fun H locs hP hD hS => ?_)
      refine lv_goto (tgt := 75) C.1 C.2.1 dJ5_append_3fe6f_42 (by decide) ?_
      have hcw := CC.le hcc Mo.rf
      refine W.widen ?_ ?_ (hB75 _ _ _ _ ls hx hP hD hS hcc.M (lv_sub hl [0] rfl) hf)
      · exact hcw.1
      · exact hcw.2
def fc_J4_append_cf468 (F : Nat) (σ : CSt) (x1 : Int32) : Option (CSt) :=
  bd (fc_J5_append_3fe6f F σ x1) (fun σ2 => some σ2)
theorem mo_J4_append_cf468 {F : Nat} {σ : CSt} {x1 : Int32} {σr : CSt}  (h : fc_J4_append_cf468 F σ x1 = some σr) : Mo σ σr := by
  unfold fc_J4_append_cf468 at h
  obtain ⟨σ2, hd1, h⟩ := bd_some h
  have g1 : Mo σ σ2 := mo_J5_append_3fe6f hd1
  obtain rfl := Option.some.inj h
  exact g1
set_option maxHeartbeats 4000000 in
set_option maxRecDepth 100000 in
theorem kc_J4_append_cf468 (l : Launch) (D : va_G) (cA : Nat → ClassId) (ad : Nat → Nat) (σ0 : CSt) (η0 : HS) (F : Nat) (z1 : Int32) (σr : CSt) (hf : fc_J4_append_cf468 F σ0 z1 = some σr) : KE l D cA ad σ0 η0 yJ4_append_cf468 cJ4_append_cf468 2 (some (.object "java/lang/StringBuilder")) (rmc 5 112 (cs_nc σr - cs_nc σ0) (cs_ns σr - cs_ns σ0)) [.ref (ad 45), .int z1] (some (.ref (ad 45))) σr := by
  refine KE.of (by decide) (Nat.le_of_ble_eq_true rfl) ?_
  intro p e s m below meth c A hAe hA C hr hlk hK hP hD hS hZ ls hl
  have hx : ext η0 η0 := ext.rf
  have hcc : CC 0 0 σ0 σ0 := CC.z
  have hcl : 0 ≤ cs_nc σr - cs_nc σ0 ∧ 0 ≤ cs_ns σr - cs_ns σ0 := ⟨Nat.zero_le _, Nat.zero_le _⟩
  have hl : lv_has ls 2 [(0, .ref (ad 45)), (1, .int z1)] := hl
  unfold fc_J4_append_cf468 at hf
  refine lv_aload_n C.1 C.2.1 dJ4_append_cf468_0 rfl (lv_at hl 0 rfl) ?_
  refine lv_iload_n C.1 C.2.1 dJ4_append_cf468_1 rfl (lv_at hl 1 rfl) ?_
  obtain ⟨σ2, hc2, hf⟩ := bd_some hf
  have hcc := CC.add2 (mo_J5_append_3fe6f hc2) hcc
  have hcl := CC.le (σr := σr) hcc (by
    have h := hf
    obtain rfl := Option.some.inj h
    exact Mo.rf)
  refine cE_go (CP.run (As := [_]) wv_J4_50 C hK hl ((kc_J5_append_3fe6f l D cA ad _ _ F _  σ2 hc2) _) (preC hK hP hD hA hZ hS (rcS hK hP)) rfl rfl rfl (Nat.le_of_ble_eq_true rfl) hcl dJ4_append_cf468_2) hD hA hS (fun η H locs hx1 hP hD hS => ?_)
  replace hx := hx.tr hx1
  refine lv_pop C.1 C.2.1 dJ4_append_cf468_5 rfl ?_
  refine lv_aload_n C.1 C.2.1 dJ4_append_cf468_6 rfl (lv_at hl 0 rfl) ?_
  obtain rfl := Option.some.inj hf
  exact KE.aret C hr hlk hK hAe hx hP hD hS (hcc.le Mo.rf).1 (hcc.le Mo.rf).2 rfl dJ4_append_cf468_7
def fc_J5_append_c97b9_L48 (F : Nat) (σ : CSt) (x3 : Int32) : Option (CSt) :=
  lt (cs_sct_s σ x3) (fun σ50 => some σ50)
def fc_J5_append_c97b9 (F : Nat) (σ : CSt) (x1 : Int32) : Option (CSt) :=
  lt (cs_sct σ) (fun x2_4 => bd (fc_J6_stringSize_0f7a4 F σ x1) (fun r7 => lt (x2_4 + r7) (fun x3_11 => bd (fc_J5_ensureCapacityInternal_d00df F σ x3_11) (fun σ14 => bd (fc_J5_isLatin1_aae02 F σ14) (fun r18 => if r18 = 0 then none else (bd2 (fc_J6_getChars_ba4f3 F σ14 x1 x3_11) (fun r30 σ30 => fc_J5_append_c97b9_L48 F σ30 x3_11)))))))
theorem mo_J5_append_c97b9_L48 {F : Nat} {σ : CSt} {x3 : Int32} {σr : CSt}  (h : fc_J5_append_c97b9_L48 F σ x3 = some σr) : Mo σ σr := by
  unfold fc_J5_append_c97b9_L48 at h
  obtain ⟨σ50, he1, h⟩ := lt_some h
  have g1 : Mo σ σ50 := by rw [he1]; exact (Mo.rf : Mo σ σ)
  obtain rfl := Option.some.inj h
  exact g1
theorem mo_J5_append_c97b9 {F : Nat} {σ : CSt} {x1 : Int32} {σr : CSt}  (h : fc_J5_append_c97b9 F σ x1 = some σr) : Mo σ σr := by
  unfold fc_J5_append_c97b9 at h
  replace h := lt_e h
  obtain ⟨r7, hd1, h⟩ := bd_some h
  replace h := lt_e h
  obtain ⟨σ14, hd2, h⟩ := bd_some h
  have g2 : Mo σ σ14 := mo_J5_ensureCapacityInternal_d00df hd2
  obtain ⟨r18, hd3, h⟩ := bd_some h
  rcases br_any h with h | h
  · cases h
  · obtain ⟨r30, σ30, hd4, h⟩ := bd2_some h
    have g4 : Mo σ14 σ30 := mo_J6_getChars_ba4f3 hd4
    exact Mo.tr (Mo.tr (g2) g4) (mo_J5_append_c97b9_L48  h)
set_option maxHeartbeats 4000000 in
set_option maxRecDepth 100000 in
theorem kc_J5_append_c97b9 (l : Launch) (D : va_G) (cA : Nat → ClassId) (ad : Nat → Nat) (σ0 : CSt) (η0 : HS) (F : Nat) (z1 : Int32) (σr : CSt) (hf : fc_J5_append_c97b9 F σ0 z1 = some σr) : KE l D cA ad σ0 η0 yJ5_append_c97b9 cJ5_append_c97b9 4 (some (.object "java/lang/AbstractStringBuilder")) (rmc 4 91 (cs_nc σr - cs_nc σ0) (cs_ns σr - cs_ns σ0)) [.ref (ad 45), .int z1] (some (.ref (ad 45))) σr := by
  refine KE.of (by decide) (Nat.le_of_ble_eq_true rfl) ?_
  intro p e s m below meth c A hAe hA C hr hlk hK hP hD hS hZ ls hl
  have hx : ext η0 η0 := ext.rf
  have hcc : CC 0 0 σ0 σ0 := CC.z
  have hcl : 0 ≤ cs_nc σr - cs_nc σ0 ∧ 0 ≤ cs_ns σr - cs_ns σ0 := ⟨Nat.zero_le _, Nat.zero_le _⟩
  have hl : lv_has ls 4 [(0, .ref (ad 45)), (1, .int z1)] := hl
  have hB48 : ∀ (η : HS) (H : Heap) (locs : List Loc) (σ : CSt) (ls : Array Slot) (x3 : Int32), ext η0 η → HC D cA ad σ η H → va_D A (wC cA ad σ η) → va_S A s.heap H locs → Mo σ0 σ → lv_has ls 4 [(0, .ref (ad 45)), (3, .int x3)] → fc_J5_append_c97b9_L48 F σ x3 = some σr → WE p l e 4 91 (cs_nc σr - cs_nc σ0) (cs_ns σr - cs_ns σ0) s m [.ref (ad 45), .int z1] below meth c (some (.ref (ad 45))) D cA ad σ0 η0 σr A H locs (cs_nc σ - cs_nc σ0) (cs_ns σ - cs_ns σ0) (F0 m 48 ls []) := by
    intro η H locs σ ls x3 hx hP hD hS hM0 hl hf
    have hcc := CC.lab hM0
    have hcl := hcc.le (mo_J5_append_c97b9_L48  hf)
    unfold fc_J5_append_c97b9_L48 at hf
    refine lv_aload_n C.1 C.2.1 dJ5_append_c97b9_48 rfl (lv_at hl 0 rfl) ?_
    refine lv_iload_n C.1 C.2.1 dJ5_append_c97b9_49 rfl (lv_at hl 1 rfl) ?_
    replace hf := lt_e hf
    refine pb_count C hK hP hD hS wf_J5_79 dJ5_append_c97b9_50 (fun H locs hP hD hS => ?_)
    refine lv_aload_n C.1 C.2.1 dJ5_append_c97b9_53 rfl (lv_at hl 0 rfl) ?_
    obtain rfl := Option.some.inj hf
    exact KE.aret C hr hlk hK hAe hx hP hD hS (hcc.le Mo.rf).1 (hcc.le Mo.rf).2 rfl dJ5_append_c97b9_54
  unfold fc_J5_append_c97b9 at hf
  refine lv_aload_n C.1 C.2.1 dJ5_append_c97b9_0 rfl (lv_at hl 0 rfl) ?_
  refine gb_count C hK hP wf_J5_79 dJ5_append_c97b9_1 ?_
  obtain ⟨x2_4, ex2_4, hf⟩ := lt_some hf
  refine lv_tope ex2_4 ?_
  refine lv_istore_n (lv' := [(2, .int x2_4), (0, .ref (ad 45)), (1, .int z1)]) C.1 C.2.1 dJ5_append_c97b9_4 rfl hl (by decide) rfl (fun ls hl => ?_)
  refine lv_iload_n C.1 C.2.1 dJ5_append_c97b9_5 rfl (lv_at hl 0 rfl) ?_
  refine lv_iload_n C.1 C.2.1 dJ5_append_c97b9_6 rfl (lv_at hl 2 rfl) ?_
  obtain ⟨r7, hc7, hf⟩ := bd_some hf
  refine cV_go (runRSc (As := [_]) C hK hP hZ hS wv_J5_245 hl (kc_J6_stringSize_0f7a4 l D cA ad _ _ F _  r7 hc7) rfl rfl rfl (Nat.le_of_ble_eq_true rfl) hcl dJ5_append_c97b9_7) ?_
  refine lv_iadd C.1 C.2.1 dJ5_append_c97b9_10 ?_
  obtain ⟨x3_11, ex3_11, hf⟩ := lt_some hf
  refine lv_tope ex3_11 ?_
  refine lv_istore_n (lv' := [(3, .int x3_11), (2, .int x2_4), (0, .ref (ad 45)), (1, .int z1)]) C.1 C.2.1 dJ5_append_c97b9_11 rfl hl (by decide) rfl (fun ls hl => ?_)
  refine lv_aload_n C.1 C.2.1 dJ5_append_c97b9_12 rfl (lv_at hl 2 rfl) ?_
  refine lv_iload_n C.1 C.2.1 dJ5_append_c97b9_13 rfl (lv_at hl 0 rfl) ?_
  obtain ⟨σ14, hc14, hf⟩ := bd_some hf
  have hcc := CC.add2 (mo_J5_ensureCapacityInternal_d00df hc14) hcc
  have hcl := CC.le (σr := σr) hcc (by
    have h := hf
    obtain ⟨r18, hd1, h⟩ := bd_some h
    rcases br_any h with h | h
    · cases h
    · obtain ⟨r30, σ30, hd2, h⟩ := bd2_some h
      have g2 : Mo σ14 σ30 := mo_J6_getChars_ba4f3 hd2
      exact Mo.tr (g2) (mo_J5_append_c97b9_L48  h))
  refine cE_go (CU.run (As := [_]) wv_J5_100 C hl ((kc_J5_ensureCapacityInternal_d00df l D cA ad _ _ F _  σ14 hc14) _) (preC hK hP hD hA hZ hS (rcS hK hP)) rfl rfl rfl (Nat.le_of_ble_eq_true rfl) hcl dJ5_append_c97b9_14) hD hA hS (fun η H locs hx1 hP hD hS => ?_)
  replace hx := hx.tr hx1
  refine lv_aload_n C.1 C.2.1 dJ5_append_c97b9_17 rfl (lv_at hl 2 rfl) ?_
  obtain ⟨r18, hc18, hf⟩ := bd_some hf
  refine cV_go ((CU.run (As := []) wv_J5_83 C hl (kc_J5_isLatin1_aae02 l D cA ad _ _ F   r18 hc18) (preR hK hP hZ hS (rcS hK hP)) rfl rfl rfl (Nat.le_of_ble_eq_true rfl) hcl dJ5_append_c97b9_18).run) ?_
  refine lv_if_eq (tgt := 37) C.1 C.2.1 dJ5_append_c97b9_21 (by decide) (fun c21 => ?_) (fun c21 => ?_)
  · have hf := br_p c21 hf
    refine lv_iload_n C.1 C.2.1 dJ5_append_c97b9_37 rfl (lv_at hl 3 rfl) ?_
    refine lv_iload_n C.1 C.2.1 dJ5_append_c97b9_38 rfl (lv_at hl 1 rfl) ?_
    refine lv_iload_n C.1 C.2.1 dJ5_append_c97b9_39 rfl (lv_at hl 0 rfl) ?_
    refine lv_aload_n C.1 C.2.1 dJ5_append_c97b9_40 rfl (lv_at hl 2 rfl) ?_
    refine gb_value C hK hP wf_J5_15 dJ5_append_c97b9_41 ?_
    cases hf
  · have hf := br_n c21 hf
    refine lv_iload_n C.1 C.2.1 dJ5_append_c97b9_24 rfl (lv_at hl 3 rfl) ?_
    refine lv_iload_n C.1 C.2.1 dJ5_append_c97b9_25 rfl (lv_at hl 0 rfl) ?_
    refine lv_aload_n C.1 C.2.1 dJ5_append_c97b9_26 rfl (lv_at hl 2 rfl) ?_
    refine gb_value C hK hP wf_J5_15 dJ5_append_c97b9_27 ?_
    obtain ⟨r30, σ30, hc30, hf⟩ := bd2_some hf
    refine callCS (As := [_, _, _]) C hK hP hD hA hS hZ wv_J5_248 hl (kc_J6_getChars_ba4f3 l D cA ad _ _ F _ _  r30 σ30 hc30) rfl rfl rfl (Nat.le_of_ble_eq_true rfl) hcl dJ5_append_c97b9_30 (fun H locs hP hD hS => ?_)
    replace hcc := CC.mo2 (mo_J6_getChars_ba4f3 hc30) hcc
    refine lv_pop C.1 C.2.1 dJ5_append_c97b9_33 rfl ?_
    refine lv_goto (tgt := 48) C.1 C.2.1 dJ5_append_c97b9_34 (by decide) ?_
    have hcw := CC.le hcc Mo.rf
    refine W.widen ?_ ?_ (hB48 _ _ _ _ ls _ hx hP hD hS hcc.M (lv_sub hl [2, 0] rfl) hf)
    · exact hcw.1
    · exact hcw.2
def fc_J4_append_bf812 (F : Nat) (σ : CSt) (x1 : Int32) : Option (CSt) :=
  bd (fc_J5_append_c97b9 F σ x1) (fun σ2 => some σ2)
theorem mo_J4_append_bf812 {F : Nat} {σ : CSt} {x1 : Int32} {σr : CSt}  (h : fc_J4_append_bf812 F σ x1 = some σr) : Mo σ σr := by
  unfold fc_J4_append_bf812 at h
  obtain ⟨σ2, hd1, h⟩ := bd_some h
  have g1 : Mo σ σ2 := mo_J5_append_c97b9 hd1
  obtain rfl := Option.some.inj h
  exact g1
set_option maxHeartbeats 4000000 in
set_option maxRecDepth 100000 in
theorem kc_J4_append_bf812 (l : Launch) (D : va_G) (cA : Nat → ClassId) (ad : Nat → Nat) (σ0 : CSt) (η0 : HS) (F : Nat) (z1 : Int32) (σr : CSt) (hf : fc_J4_append_bf812 F σ0 z1 = some σr) : KE l D cA ad σ0 η0 yJ4_append_bf812 cJ4_append_bf812 2 (some (.object "java/lang/StringBuilder")) (rmc 5 114 (cs_nc σr - cs_nc σ0) (cs_ns σr - cs_ns σ0)) [.ref (ad 45), .int z1] (some (.ref (ad 45))) σr := by
  refine KE.of (by decide) (Nat.le_of_ble_eq_true rfl) ?_
  intro p e s m below meth c A hAe hA C hr hlk hK hP hD hS hZ ls hl
  have hx : ext η0 η0 := ext.rf
  have hcc : CC 0 0 σ0 σ0 := CC.z
  have hcl : 0 ≤ cs_nc σr - cs_nc σ0 ∧ 0 ≤ cs_ns σr - cs_ns σ0 := ⟨Nat.zero_le _, Nat.zero_le _⟩
  have hl : lv_has ls 2 [(0, .ref (ad 45)), (1, .int z1)] := hl
  unfold fc_J4_append_bf812 at hf
  refine lv_aload_n C.1 C.2.1 dJ4_append_bf812_0 rfl (lv_at hl 0 rfl) ?_
  refine lv_iload_n C.1 C.2.1 dJ4_append_bf812_1 rfl (lv_at hl 1 rfl) ?_
  obtain ⟨σ2, hc2, hf⟩ := bd_some hf
  have hcc := CC.add2 (mo_J5_append_c97b9 hc2) hcc
  have hcl := CC.le (σr := σr) hcc (by
    have h := hf
    obtain rfl := Option.some.inj h
    exact Mo.rf)
  refine cE_go (CP.run (As := [_]) wv_J4_53 C hK hl ((kc_J5_append_c97b9 l D cA ad _ _ F _  σ2 hc2) _) (preC hK hP hD hA hZ hS (rcS hK hP)) rfl rfl rfl (Nat.le_of_ble_eq_true rfl) hcl dJ4_append_bf812_2) hD hA hS (fun η H locs hx1 hP hD hS => ?_)
  replace hx := hx.tr hx1
  refine lv_pop C.1 C.2.1 dJ4_append_bf812_5 rfl ?_
  refine lv_aload_n C.1 C.2.1 dJ4_append_bf812_6 rfl (lv_at hl 0 rfl) ?_
  obtain rfl := Option.some.inj hf
  exact KE.aret C hr hlk hK hAe hx hP hD hS (hcc.le Mo.rf).1 (hcc.le Mo.rf).2 rfl dJ4_append_bf812_7
def fc_X9_write_L142 (F : Nat) (k43 : CSt → RV → Int32 → Option (Int32 × CSt)) (σ : CSt) (vx2 : RV) (x3 : Int32) : Option (Int32 × CSt) :=
  lt (x3 + (1 : Int32)) (fun x3_142 => k43 σ vx2 x3_142)
def fc_X9_write_L43_c (F : Nat) (k43 : CSt → RV → Int32 → Option (Int32 × CSt)) (σ : CSt) (vx2 : RV) (x3 : Int32) : Option (Int32 × CSt) :=
  bd (fc_X6_corners F σ vx2) (fun r45 => if r45 ≤ x3 then (bd (fc_J4_length_8abf5 F σ) (fun r152 => some (r152, σ))) else (if x3 = 0 then (bd (fc_J4_append_cf468 F σ (77 : Int32)) (fun σ61 => gd (ix x3 (vx2.2.1) = true) (bd (fc_J4_append_bf812 F σ61 (vx2.2.2.1 x3.toNatClampNeg)) (fun σ70 => bd (fc_J4_append_cf468 F σ70 (44 : Int32)) (fun σ75 => gd (ix x3 (vx2.2.1) = true) (bd (fc_J4_append_bf812 F σ75 (vx2.2.2.2 x3.toNatClampNeg)) (fun σ84 => fc_X9_write_L142 F k43 σ84 vx2 x3))))))) else (bd (fc_X6_isLevel F σ vx2 (x3 - (1 : Int32))) (fun r95 => if r95 = 0 then (bd (fc_J4_append_cf468 F σ (86 : Int32)) (fun σ129 => gd (ix x3 (vx2.2.1) = true) (bd (fc_J4_append_bf812 F σ129 (vx2.2.2.2 x3.toNatClampNeg)) (fun σ138 => fc_X9_write_L142 F k43 σ138 vx2 x3)))) else (bd (fc_J4_append_cf468 F σ (72 : Int32)) (fun σ107 => gd (ix x3 (vx2.2.1) = true) (bd (fc_J4_append_bf812 F σ107 (vx2.2.2.1 x3.toNatClampNeg)) (fun σ116 => fc_X9_write_L142 F k43 σ116 vx2 x3))))))))
def fc_X9_write_L43 (F : Nat) (n : Nat) (σ : CSt) (vx2 : RV) (x3 : Int32) : Option (Int32 × CSt) := lpN (fun (k : CSt × RV × Int32 → Option (Int32 × CSt)) a => fc_X9_write_L43_c F (fun σ vx2 x3 => k (σ, vx2, x3)) a.1 a.2.1 a.2.2) n (σ, vx2, x3)
def fc_X9_write (F : Nat) (σ : CSt) (x1 : Int32) : Option (Int32 × CSt) :=
  bd (fc_X1_hasConnector F σ x1) (fun r5 => if r5 = 0 then (some ((-1001 : Int32), σ)) else (gd (ix x1 10 = true) (mo (cs_cr σ x1.toNatClampNeg) (some ((-1003 : Int32), σ)) (fun v23 => bd (fc_J4_setLength_d00df F σ (0 : Int32)) (fun σ38 => fc_X9_write_L43 F F σ38 v23 (0 : Int32))))))
theorem mo_X9_write_L142 {F : Nat} {k43 : CSt → RV → Int32 → Option (Int32 × CSt)} {σ : CSt} {vx2 : RV} {x3 : Int32} {r : Int32} {σr : CSt} (hk43 : ∀ {y0 : CSt} {y1 : RV} {y2 : Int32}, k43 y0 y1 y2 = some (r, σr) → Mo y0 σr) (h : fc_X9_write_L142 F k43 σ vx2 x3 = some (r, σr)) : Mo σ σr := by
  unfold fc_X9_write_L142 at h
  replace h := lt_e h
  exact (hk43 h)
theorem mo_X9_write_L43_c {F : Nat} {k43 : CSt → RV → Int32 → Option (Int32 × CSt)} {σ : CSt} {vx2 : RV} {x3 : Int32} {r : Int32} {σr : CSt} (hk43 : ∀ {y0 : CSt} {y1 : RV} {y2 : Int32}, k43 y0 y1 y2 = some (r, σr) → Mo y0 σr) (h : fc_X9_write_L43_c F k43 σ vx2 x3 = some (r, σr)) : Mo σ σr := by
  unfold fc_X9_write_L43_c at h
  obtain ⟨r45, hd1, h⟩ := bd_some h
  rcases br_any h with h | h
  · obtain ⟨r152, hd2, h⟩ := bd_some h
    obtain ⟨-, rfl⟩ := Prod.mk.inj (Option.some.inj h)
    exact Mo.rf
  · rcases br_any h with h | h
    · obtain ⟨σ61, hd3, h⟩ := bd_some h
      have g3 : Mo σ σ61 := mo_J4_append_cf468 hd3
      obtain ⟨-, h⟩ := gd_some h
      obtain ⟨σ70, hd4, h⟩ := bd_some h
      have g4 : Mo σ61 σ70 := mo_J4_append_bf812 hd4
      obtain ⟨σ75, hd5, h⟩ := bd_some h
      have g5 : Mo σ70 σ75 := mo_J4_append_cf468 hd5
      obtain ⟨-, h⟩ := gd_some h
      obtain ⟨σ84, hd6, h⟩ := bd_some h
      have g6 : Mo σ75 σ84 := mo_J4_append_bf812 hd6
      exact Mo.tr (Mo.tr (Mo.tr (Mo.tr (g3) g4) g5) g6) (mo_X9_write_L142 hk43 h)
    · obtain ⟨r95, hd7, h⟩ := bd_some h
      rcases br_any h with h | h
      · obtain ⟨σ129, hd8, h⟩ := bd_some h
        have g8 : Mo σ σ129 := mo_J4_append_cf468 hd8
        obtain ⟨-, h⟩ := gd_some h
        obtain ⟨σ138, hd9, h⟩ := bd_some h
        have g9 : Mo σ129 σ138 := mo_J4_append_bf812 hd9
        exact Mo.tr (Mo.tr (g8) g9) (mo_X9_write_L142 hk43 h)
      · obtain ⟨σ107, hd10, h⟩ := bd_some h
        have g10 : Mo σ σ107 := mo_J4_append_cf468 hd10
        obtain ⟨-, h⟩ := gd_some h
        obtain ⟨σ116, hd11, h⟩ := bd_some h
        have g11 : Mo σ107 σ116 := mo_J4_append_bf812 hd11
        exact Mo.tr (Mo.tr (g10) g11) (mo_X9_write_L142 hk43 h)
theorem mo_X9_write_L43 {F : Nat} {n : Nat} {σ : CSt} {vx2 : RV} {x3 : Int32} {r : Int32} {σr : CSt}  (h : fc_X9_write_L43 F n σ vx2 x3 = some (r, σr)) : Mo σ σr := by
  induction n generalizing σ vx2 x3 with
  | zero => cases (show (none : Option _) = _ from h)
  | succ n ih => exact mo_X9_write_L43_c  (fun h9 => ih h9) (show fc_X9_write_L43_c F (fc_X9_write_L43 F n) σ vx2 x3 = some (r, σr) from h)
theorem mo_X9_write {F : Nat} {σ : CSt} {x1 : Int32} {r : Int32} {σr : CSt}  (h : fc_X9_write F σ x1 = some (r, σr)) : Mo σ σr := by
  unfold fc_X9_write at h
  obtain ⟨r5, hd1, h⟩ := bd_some h
  rcases br_any h with h | h
  · obtain ⟨-, rfl⟩ := Prod.mk.inj (Option.some.inj h)
    exact Mo.rf
  · obtain ⟨-, h⟩ := gd_some h
    rcases mo_any h with h | ⟨v23, h⟩
    · obtain ⟨-, rfl⟩ := Prod.mk.inj (Option.some.inj h)
      exact Mo.rf
    · obtain ⟨σ38, hd2, h⟩ := bd_some h
      have g2 : Mo σ σ38 := mo_J4_setLength_d00df hd2
      exact Mo.tr (g2) (mo_X9_write_L43  h)
set_option maxHeartbeats 4000000 in
set_option maxRecDepth 100000 in
theorem kc_X9_write (l : Launch) (D : va_G) (cA : Nat → ClassId) (ad : Nat → Nat) (σ0 : CSt) (η0 : HS) (F : Nat) (z1 : Int32) (r : Int32) (σr : CSt) (hf : fc_X9_write F σ0 z1 = some (r, σr)) : KE l D cA ad σ0 η0 yX9_write cX9_write 4 (some .int) (rmc 6 135 (cs_nc σr - cs_nc σ0) (cs_ns σr - cs_ns σ0)) [.ref (ad 0), .int z1] (some (.int r)) σr := by
  refine KE.of (by decide) (Nat.le_of_ble_eq_true rfl) ?_
  intro p e s m below meth c A hAe hA C hr hlk hK hP hD hS hZ ls hl
  have hx : ext η0 η0 := ext.rf
  have hcc : CC 0 0 σ0 σ0 := CC.z
  have hcl : 0 ≤ cs_nc σr - cs_nc σ0 ∧ 0 ≤ cs_ns σr - cs_ns σ0 := ⟨Nat.zero_le _, Nat.zero_le _⟩
  have hl : lv_has ls 4 [(0, .ref (ad 0)), (1, .int z1)] := hl
  have hB43 : ∀ (n43 : Nat) (η : HS) (H : Heap) (locs : List Loc) (σ : CSt) (ls : Array Slot) (ax2 : Nat) (vx2 : RV) (x3 : Int32), ext η0 η → HC D cA ad σ η H → va_D A (wC cA ad σ η) → va_S A s.heap H locs → Mo σ0 σ → isRt cA η ax2 vx2 → lv_has ls 4 [(0, .ref (ad 0)), (2, .ref ax2), (3, .int x3)] → fc_X9_write_L43 F n43 σ vx2 x3 = some (r, σr) → WE p l e 6 135 (cs_nc σr - cs_nc σ0) (cs_ns σr - cs_ns σ0) s m [.ref (ad 0), .int z1] below meth c (some (.int r)) D cA ad σ0 η0 σr A H locs (cs_nc σ - cs_nc σ0) (cs_ns σ - cs_ns σ0) (F0 m 43 ls []) := by
    intro n43
    induction n43 with
    | zero =>
      intro η H locs σ ls ax2 vx2 x3 hx hP hD hS hM0 hvx2 hl hf
      cases (show (none : Option _) = _ from hf)
    | succ n43 ih43 =>
      have hB142 : ∀ (η : HS) (H : Heap) (locs : List Loc) (σ : CSt) (ls : Array Slot) (ax2 : Nat) (vx2 : RV) (x3 : Int32), ext η0 η → HC D cA ad σ η H → va_D A (wC cA ad σ η) → va_S A s.heap H locs → Mo σ0 σ → isRt cA η ax2 vx2 → lv_has ls 4 [(0, .ref (ad 0)), (2, .ref ax2), (3, .int x3)] → fc_X9_write_L142 F (fc_X9_write_L43 F n43) σ vx2 x3 = some (r, σr) → WE p l e 6 135 (cs_nc σr - cs_nc σ0) (cs_ns σr - cs_ns σ0) s m [.ref (ad 0), .int z1] below meth c (some (.int r)) D cA ad σ0 η0 σr A H locs (cs_nc σ - cs_nc σ0) (cs_ns σ - cs_ns σ0) (F0 m 142 ls []) := by
        intro η H locs σ ls ax2 vx2 x3 hx hP hD hS hM0 hvx2 hl hf
        have hcc := CC.lab hM0
        have hcl := hcc.le (mo_X9_write_L142 (fun h9 => mo_X9_write_L43  h9) hf)
        unfold fc_X9_write_L142 at hf
        obtain ⟨x3_142, ex3_142, hf⟩ := lt_some hf
        refine lv_iinc (v := x3_142) (lv' := [(3, .int x3_142), (0, .ref (ad 0)), (2, .ref ax2)]) C.1 C.2.1 dX9_write_142 hl (k := 2) rfl (by rw [ex3_142]; rfl) (by decide) rfl (fun ls hl => ?_)
        refine lv_goto (tgt := 43) C.1 C.2.1 dX9_write_145 (by decide) ?_
        have hcw := CC.le hcc Mo.rf
        refine W.widen ?_ ?_ (ih43 _ _ _ _ ls _ _ _ hx hP hD hS hcc.M hvx2 (lv_sub hl [1, 2, 0] rfl) hf)
        · exact hcw.1
        · exact hcw.2
      intro η H locs σ ls ax2 vx2 x3 hx hP hD hS hM0 hvx2 hl hf
      have hcc := CC.lab hM0
      have hcl := hcc.le (mo_X9_write_L43  hf)
      have hf : fc_X9_write_L43_c F (fc_X9_write_L43 F n43) σ vx2 x3 = some (r, σr) := hf
      unfold fc_X9_write_L43_c at hf
      refine lv_iload_n C.1 C.2.1 dX9_write_43 rfl (lv_at hl 2 rfl) ?_
      refine lv_aload_n C.1 C.2.1 dX9_write_44 rfl (lv_at hl 1 rfl) ?_
      obtain ⟨r45, hc45, hf⟩ := bd_some hf
      refine cV_go (runRVc (As := []) C hK hP hZ hS wv_X9_154 hl (kc_X6_corners l D cA ad _ _ F _ _ hvx2 r45 hc45) (rcR hK hP hvx2) rfl rfl rfl (Nat.le_of_ble_eq_true rfl) hcl dX9_write_45) ?_
      refine lv_icmp_ge (tgt := 148) C.1 C.2.1 dX9_write_48 (by decide) (fun c48 => ?_) (fun c48 => ?_)
      · have hf := br_p c48 hf
        refine lv_aload_n C.1 C.2.1 dX9_write_148 rfl (lv_at hl 0 rfl) ?_
        refine gc_R_writing C hK hP wf_X9_47 dX9_write_149 ?_
        obtain ⟨r152, hc152, hf⟩ := bd_some hf
        refine cV_go (runRVc (As := []) C hK hP hZ hS wv_X9_219 hl (kc_J4_length_8abf5 l D cA ad _ _ F   r152 hc152) (rcS hK hP) rfl rfl rfl (Nat.le_of_ble_eq_true rfl) hcl dX9_write_152) ?_
        obtain ⟨rfl, rfl⟩ := Prod.mk.inj (Option.some.inj hf)
        exact KE.iret C hr hlk hK hAe hx hP hD hS (hcc.le Mo.rf).1 (hcc.le Mo.rf).2 rfl dX9_write_155
      · have hf := br_n c48 hf
        refine lv_iload_n C.1 C.2.1 dX9_write_51 rfl (lv_at hl 2 rfl) ?_
        refine lv_if_ne (tgt := 91) C.1 C.2.1 dX9_write_52 (by decide) (fun c52 => ?_) (fun c52 => ?_)
        · have hf := br_n c52 hf
          refine lv_aload_n C.1 C.2.1 dX9_write_91 rfl (lv_at hl 1 rfl) ?_
          refine lv_iload_n C.1 C.2.1 dX9_write_92 rfl (lv_at hl 2 rfl) ?_
          refine lv_iconst (v := (1 : Int32)) C.1 C.2.1 dX9_write_93 (by decide) ?_
          refine lv_isub C.1 C.2.1 dX9_write_94 ?_
          obtain ⟨r95, hc95, hf⟩ := bd_some hf
          refine cV_go (runRVc (As := [_]) C hK hP hZ hS wv_X9_216 hl (kc_X6_isLevel l D cA ad _ _ F _ _ _ hvx2 r95 hc95) (rcR hK hP hvx2) rfl rfl rfl (Nat.le_of_ble_eq_true rfl) hcl dX9_write_95) ?_
          refine lv_if_eq (tgt := 123) C.1 C.2.1 dX9_write_98 (by decide) (fun c98 => ?_) (fun c98 => ?_)
          · have hf := br_p c98 hf
            refine lv_aload_n C.1 C.2.1 dX9_write_123 rfl (lv_at hl 0 rfl) ?_
            refine gc_R_writing C hK hP wf_X9_47 dX9_write_124 ?_
            refine lv_bipush (v := (86 : Int32)) C.1 C.2.1 dX9_write_127 (by decide) ?_
            obtain ⟨σ129, hc129, hf⟩ := bd_some hf
            have hcc := CC.add2 (mo_J4_append_cf468 hc129) hcc
            have hcl := CC.le (σr := σr) hcc (by
              have h := hf
              obtain ⟨-, h⟩ := gd_some h
              obtain ⟨σ138, hd1, h⟩ := bd_some h
              have g1 : Mo σ129 σ138 := mo_J4_append_bf812 hd1
              exact Mo.tr (g1) (mo_X9_write_L142 (fun h9 => mo_X9_write_L43  h9) h))
            refine callEV (As := [_]) C hK hP hD hA hS hZ wv_X9_209 hl (kc_J4_append_cf468 l D cA ad _ _ F _  σ129 hc129) (rcS hK hP) rfl rfl rfl (Nat.le_of_ble_eq_true rfl) hcl dX9_write_129 (fun η H locs hx1 hP hD hS => ?_)
            replace hx := hx.tr hx1
            replace hvx2 := hvx2.ext hx1
            refine lv_aload_n C.1 C.2.1 dX9_write_132 rfl (lv_at hl 1 rfl) ?_
            refine gp_ys C hK hP hvx2 wf_X9_168 dX9_write_133 (fun q133 hq133 => ?_)
            refine lv_iload_n C.1 C.2.1 dX9_write_136 rfl (lv_at hl 2 rfl) ?_
            obtain ⟨hi137, hf⟩ := gd_some hf
            refine lp_pa C hK hP hq133 hi137 dX9_write_137 ?_
            obtain ⟨σ138, hc138, hf⟩ := bd_some hf
            have hcc := CC.add2 (mo_J4_append_bf812 hc138) hcc
            have hcl := CC.le (σr := σr) hcc (by
              have h := hf
              exact (mo_X9_write_L142 (fun h9 => mo_X9_write_L43  h9) h))
            refine callEV (As := [_]) C hK hP hD hA hS hZ wv_X9_213 hl (kc_J4_append_bf812 l D cA ad _ _ F _  σ138 hc138) (rcS hK hP) rfl rfl rfl (Nat.le_of_ble_eq_true rfl) hcl dX9_write_138 (fun η H locs hx1 hP hD hS => ?_)
            replace hx := hx.tr hx1
            replace hvx2 := hvx2.ext hx1
            refine lv_pop C.1 C.2.1 dX9_write_141 rfl ?_
            have hcw := CC.le hcc Mo.rf
            refine W.widen ?_ ?_ (hB142 _ _ _ _ ls _ _ _ hx hP hD hS hcc.M hvx2 (lv_sub hl [0, 1, 2] rfl) hf)
            · exact hcw.1
            · exact hcw.2
          · have hf := br_n c98 hf
            refine lv_aload_n C.1 C.2.1 dX9_write_101 rfl (lv_at hl 0 rfl) ?_
            refine gc_R_writing C hK hP wf_X9_47 dX9_write_102 ?_
            refine lv_bipush (v := (72 : Int32)) C.1 C.2.1 dX9_write_105 (by decide) ?_
            obtain ⟨σ107, hc107, hf⟩ := bd_some hf
            have hcc := CC.add2 (mo_J4_append_cf468 hc107) hcc
            have hcl := CC.le (σr := σr) hcc (by
              have h := hf
              obtain ⟨-, h⟩ := gd_some h
              obtain ⟨σ116, hd1, h⟩ := bd_some h
              have g1 : Mo σ107 σ116 := mo_J4_append_bf812 hd1
              exact Mo.tr (g1) (mo_X9_write_L142 (fun h9 => mo_X9_write_L43  h9) h))
            refine callEV (As := [_]) C hK hP hD hA hS hZ wv_X9_209 hl (kc_J4_append_cf468 l D cA ad _ _ F _  σ107 hc107) (rcS hK hP) rfl rfl rfl (Nat.le_of_ble_eq_true rfl) hcl dX9_write_107 (fun η H locs hx1 hP hD hS => ?_)
            replace hx := hx.tr hx1
            replace hvx2 := hvx2.ext hx1
            refine lv_aload_n C.1 C.2.1 dX9_write_110 rfl (lv_at hl 1 rfl) ?_
            refine gp_xs C hK hP hvx2 wf_X9_164 dX9_write_111 (fun q111 hq111 => ?_)
            refine lv_iload_n C.1 C.2.1 dX9_write_114 rfl (lv_at hl 2 rfl) ?_
            obtain ⟨hi115, hf⟩ := gd_some hf
            refine lp_pa C hK hP hq111 hi115 dX9_write_115 ?_
            obtain ⟨σ116, hc116, hf⟩ := bd_some hf
            have hcc := CC.add2 (mo_J4_append_bf812 hc116) hcc
            have hcl := CC.le (σr := σr) hcc (by
              have h := hf
              exact (mo_X9_write_L142 (fun h9 => mo_X9_write_L43  h9) h))
            refine callEV (As := [_]) C hK hP hD hA hS hZ wv_X9_213 hl (kc_J4_append_bf812 l D cA ad _ _ F _  σ116 hc116) (rcS hK hP) rfl rfl rfl (Nat.le_of_ble_eq_true rfl) hcl dX9_write_116 (fun η H locs hx1 hP hD hS => ?_)
            replace hx := hx.tr hx1
            replace hvx2 := hvx2.ext hx1
            refine lv_pop C.1 C.2.1 dX9_write_119 rfl ?_
            refine lv_goto (tgt := 142) C.1 C.2.1 dX9_write_120 (by decide) ?_
            have hcw := CC.le hcc Mo.rf
            refine W.widen ?_ ?_ (hB142 _ _ _ _ ls _ _ _ hx hP hD hS hcc.M hvx2 (lv_sub hl [0, 1, 2] rfl) hf)
            · exact hcw.1
            · exact hcw.2
        · have hf := br_p c52 hf
          refine lv_aload_n C.1 C.2.1 dX9_write_55 rfl (lv_at hl 0 rfl) ?_
          refine gc_R_writing C hK hP wf_X9_47 dX9_write_56 ?_
          refine lv_bipush (v := (77 : Int32)) C.1 C.2.1 dX9_write_59 (by decide) ?_
          obtain ⟨σ61, hc61, hf⟩ := bd_some hf
          have hcc := CC.add2 (mo_J4_append_cf468 hc61) hcc
          have hcl := CC.le (σr := σr) hcc (by
            have h := hf
            obtain ⟨-, h⟩ := gd_some h
            obtain ⟨σ70, hd1, h⟩ := bd_some h
            have g1 : Mo σ61 σ70 := mo_J4_append_bf812 hd1
            obtain ⟨σ75, hd2, h⟩ := bd_some h
            have g2 : Mo σ70 σ75 := mo_J4_append_cf468 hd2
            obtain ⟨-, h⟩ := gd_some h
            obtain ⟨σ84, hd3, h⟩ := bd_some h
            have g3 : Mo σ75 σ84 := mo_J4_append_bf812 hd3
            exact Mo.tr (Mo.tr (Mo.tr (g1) g2) g3) (mo_X9_write_L142 (fun h9 => mo_X9_write_L43  h9) h))
          refine callEV (As := [_]) C hK hP hD hA hS hZ wv_X9_209 hl (kc_J4_append_cf468 l D cA ad _ _ F _  σ61 hc61) (rcS hK hP) rfl rfl rfl (Nat.le_of_ble_eq_true rfl) hcl dX9_write_61 (fun η H locs hx1 hP hD hS => ?_)
          replace hx := hx.tr hx1
          replace hvx2 := hvx2.ext hx1
          refine lv_aload_n C.1 C.2.1 dX9_write_64 rfl (lv_at hl 1 rfl) ?_
          refine gp_xs C hK hP hvx2 wf_X9_164 dX9_write_65 (fun q65 hq65 => ?_)
          refine lv_iload_n C.1 C.2.1 dX9_write_68 rfl (lv_at hl 2 rfl) ?_
          obtain ⟨hi69, hf⟩ := gd_some hf
          refine lp_pa C hK hP hq65 hi69 dX9_write_69 ?_
          obtain ⟨σ70, hc70, hf⟩ := bd_some hf
          have hcc := CC.add2 (mo_J4_append_bf812 hc70) hcc
          have hcl := CC.le (σr := σr) hcc (by
            have h := hf
            obtain ⟨σ75, hd1, h⟩ := bd_some h
            have g1 : Mo σ70 σ75 := mo_J4_append_cf468 hd1
            obtain ⟨-, h⟩ := gd_some h
            obtain ⟨σ84, hd2, h⟩ := bd_some h
            have g2 : Mo σ75 σ84 := mo_J4_append_bf812 hd2
            exact Mo.tr (Mo.tr (g1) g2) (mo_X9_write_L142 (fun h9 => mo_X9_write_L43  h9) h))
          refine callEV (As := [_]) C hK hP hD hA hS hZ wv_X9_213 hl (kc_J4_append_bf812 l D cA ad _ _ F _  σ70 hc70) (rcS hK hP) rfl rfl rfl (Nat.le_of_ble_eq_true rfl) hcl dX9_write_70 (fun η H locs hx1 hP hD hS => ?_)
          replace hx := hx.tr hx1
          replace hvx2 := hvx2.ext hx1
          refine lv_bipush (v := (44 : Int32)) C.1 C.2.1 dX9_write_73 (by decide) ?_
          obtain ⟨σ75, hc75, hf⟩ := bd_some hf
          have hcc := CC.add2 (mo_J4_append_cf468 hc75) hcc
          have hcl := CC.le (σr := σr) hcc (by
            have h := hf
            obtain ⟨-, h⟩ := gd_some h
            obtain ⟨σ84, hd1, h⟩ := bd_some h
            have g1 : Mo σ75 σ84 := mo_J4_append_bf812 hd1
            exact Mo.tr (g1) (mo_X9_write_L142 (fun h9 => mo_X9_write_L43  h9) h))
          refine callEV (As := [_]) C hK hP hD hA hS hZ wv_X9_209 hl (kc_J4_append_cf468 l D cA ad _ _ F _  σ75 hc75) (rcS hK hP) rfl rfl rfl (Nat.le_of_ble_eq_true rfl) hcl dX9_write_75 (fun η H locs hx1 hP hD hS => ?_)
          replace hx := hx.tr hx1
          replace hvx2 := hvx2.ext hx1
          refine lv_aload_n C.1 C.2.1 dX9_write_78 rfl (lv_at hl 1 rfl) ?_
          refine gp_ys C hK hP hvx2 wf_X9_168 dX9_write_79 (fun q79 hq79 => ?_)
          refine lv_iload_n C.1 C.2.1 dX9_write_82 rfl (lv_at hl 2 rfl) ?_
          obtain ⟨hi83, hf⟩ := gd_some hf
          refine lp_pa C hK hP hq79 hi83 dX9_write_83 ?_
          obtain ⟨σ84, hc84, hf⟩ := bd_some hf
          have hcc := CC.add2 (mo_J4_append_bf812 hc84) hcc
          have hcl := CC.le (σr := σr) hcc (by
            have h := hf
            exact (mo_X9_write_L142 (fun h9 => mo_X9_write_L43  h9) h))
          refine callEV (As := [_]) C hK hP hD hA hS hZ wv_X9_213 hl (kc_J4_append_bf812 l D cA ad _ _ F _  σ84 hc84) (rcS hK hP) rfl rfl rfl (Nat.le_of_ble_eq_true rfl) hcl dX9_write_84 (fun η H locs hx1 hP hD hS => ?_)
          replace hx := hx.tr hx1
          replace hvx2 := hvx2.ext hx1
          refine lv_pop C.1 C.2.1 dX9_write_87 rfl ?_
          refine lv_goto (tgt := 142) C.1 C.2.1 dX9_write_88 (by decide) ?_
          have hcw := CC.le hcc Mo.rf
          refine W.widen ?_ ?_ (hB142 _ _ _ _ ls _ _ _ hx hP hD hS hcc.M hvx2 (lv_sub hl [0, 1, 2] rfl) hf)
          · exact hcw.1
          · exact hcw.2
  unfold fc_X9_write at hf
  refine lv_aload_n C.1 C.2.1 dX9_write_0 rfl (lv_at hl 0 rfl) ?_
  refine gc_R_canvas C hK hP wf_X9_10 dX9_write_1 ?_
  refine lv_iload_n C.1 C.2.1 dX9_write_4 rfl (lv_at hl 1 rfl) ?_
  obtain ⟨r5, hc5, hf⟩ := bd_some hf
  refine cV_go (runRVc (As := [_]) C hK hP hZ hS wv_X9_110 hl (kc_X1_hasConnector l D cA ad _ _ F _  r5 hc5) (rcC 1 2 hK hP rfl rfl) rfl rfl rfl (Nat.le_of_ble_eq_true rfl) hcl dX9_write_5) ?_
  refine lv_if_ne (tgt := 15) C.1 C.2.1 dX9_write_8 (by decide) (fun c8 => ?_) (fun c8 => ?_)
  · have hf := br_n c8 hf
    refine lv_aload_n C.1 C.2.1 dX9_write_15 rfl (lv_at hl 0 rfl) ?_
    refine gc_R_canvas C hK hP wf_X9_10 dX9_write_16 ?_
    refine gc_cv_routes C hK hP wf_X9_103 dX9_write_19 ?_
    refine lv_iload_n C.1 C.2.1 dX9_write_22 rfl (lv_at hl 1 rfl) ?_
    obtain ⟨hi23, hf⟩ := gd_some hf
    refine lr_cr C hK hP hi23 dX9_write_23 (fun hn23 => ?_) (fun a23 v23 he23 hv23 => ?_)
    · have hf := mo_n hn23 hf
      refine lv_astore_nN (lv' := [(2, .null), (0, .ref (ad 0)), (1, .int z1)]) C.1 C.2.1 dX9_write_24 rfl hl (by decide) rfl (fun ls hl => ?_)
      refine lv_aload_nN C.1 C.2.1 dX9_write_25 rfl (lv_at hl 0 rfl) ?_
      refine lv_ifnonnullN C.1 C.2.1 dX9_write_26 ?_
      refine lv_sipush (v := (-1003 : Int32)) C.1 C.2.1 dX9_write_29 (by decide) ?_
      obtain ⟨rfl, rfl⟩ := Prod.mk.inj (Option.some.inj hf)
      exact KE.iret C hr hlk hK hAe hx hP hD hS (hcc.le Mo.rf).1 (hcc.le Mo.rf).2 rfl dX9_write_32
    · have hf := mo_s he23 hf
      refine lv_astore_n (lv' := [(2, .ref a23), (0, .ref (ad 0)), (1, .int z1)]) C.1 C.2.1 dX9_write_24 rfl hl (by decide) rfl (fun ls hl => ?_)
      refine lv_aload_n C.1 C.2.1 dX9_write_25 rfl (lv_at hl 0 rfl) ?_
      refine lv_ifnonnull (tgt := 33) C.1 C.2.1 dX9_write_26 (by decide) ?_
      refine lv_aload_n C.1 C.2.1 dX9_write_33 rfl (lv_at hl 1 rfl) ?_
      refine gc_R_writing C hK hP wf_X9_47 dX9_write_34 ?_
      refine lv_iconst (v := (0 : Int32)) C.1 C.2.1 dX9_write_37 (by decide) ?_
      obtain ⟨σ38, hc38, hf⟩ := bd_some hf
      have hcc := CC.add2 (mo_J4_setLength_d00df hc38) hcc
      have hcl := CC.le (σr := σr) hcc (by
        have h := hf
        exact (mo_X9_write_L43  h))
      refine callEV (As := [_]) C hK hP hD hA hS hZ wv_X9_206 hl (kc_J4_setLength_d00df l D cA ad _ _ F _  σ38 hc38) (rcS hK hP) rfl rfl rfl (Nat.le_of_ble_eq_true rfl) hcl dX9_write_38 (fun η H locs hx1 hP hD hS => ?_)
      replace hx := hx.tr hx1
      replace hv23 := hv23.ext hx1
      refine lv_iconst (v := (0 : Int32)) C.1 C.2.1 dX9_write_41 (by decide) ?_
      refine lv_istore_n (lv' := [(3, .int (0 : Int32)), (2, .ref a23), (0, .ref (ad 0)), (1, .int z1)]) C.1 C.2.1 dX9_write_42 rfl hl (by decide) rfl (fun ls hl => ?_)
      have hcw := CC.le hcc Mo.rf
      refine W.widen ?_ ?_ (hB43 F _ _ _ _ ls _ _ _ hx hP hD hS hcc.M hv23 (lv_sub hl [2, 1, 0] rfl) hf)
      · exact hcw.1
      · exact hcw.2
  · have hf := br_p c8 hf
    refine lv_sipush (v := (-1001 : Int32)) C.1 C.2.1 dX9_write_11 (by decide) ?_
    obtain ⟨rfl, rfl⟩ := Prod.mk.inj (Option.some.inj hf)
    exact KE.iret C hr hlk hK hAe hx hP hD hS (hcc.le Mo.rf).1 (hcc.le Mo.rf).2 rfl dX9_write_14
def fc_X9_written (F : Nat) (σ : CSt) (x1 : Int32) : Option (Int32) :=
  bd (fc_J4_length_8abf5 F σ) (fun r6 => bd (fc_X9_isWithin F σ x1 (0 : Int32) (r6 - (1 : Int32))) (fun r11 => if r11 = 0 then (some (-1001 : Int32)) else (bd (fc_J4_charAt_5068e F σ x1) (fun r26 => some r26))))
set_option maxHeartbeats 4000000 in
set_option maxRecDepth 100000 in
theorem kc_X9_written (l : Launch) (D : va_G) (cA : Nat → ClassId) (ad : Nat → Nat) (σ : CSt) (η : HS) (F : Nat) (z1 : Int32) (r : Int32) (hf : fc_X9_written F σ z1 = some r) : KRc l D cA ad σ η yX9_written cX9_written 2 (some .int) (rmk 4 88) [.ref (ad 0), .int z1] (QcV (.int r)) := by
  refine KRc.of (by decide) (Nat.le_of_ble_eq_true rfl) ?_
  intro p e s m below meth c C hr hlk hK hP hZ ls hl
  have hS : va_S NoA s.heap s.heap [] := va_S.rf
  have hl : lv_has ls 2 [(0, .ref (ad 0)), (1, .int z1)] := hl
  unfold fc_X9_written at hf
  refine lv_iload_n C.1 C.2.1 dX9_written_0 rfl (lv_at hl 1 rfl) ?_
  refine lv_iconst (v := (0 : Int32)) C.1 C.2.1 dX9_written_1 (by decide) ?_
  refine lv_aload_n C.1 C.2.1 dX9_written_2 rfl (lv_at hl 0 rfl) ?_
  refine gc_R_writing C hK hP wf_X9_47 dX9_written_3 ?_
  obtain ⟨r6, hc6, hf⟩ := bd_some hf
  refine cV_go (runRVc (As := []) C hK hP hZ hS wv_X9_219 hl (kc_J4_length_8abf5 l D cA ad _ η F   r6 hc6) (rcS hK hP) rfl rfl rfl (Nat.le_of_ble_eq_true rfl) ⟨Nat.le_refl _, Nat.le_refl _⟩ dX9_written_6) ?_
  refine lv_iconst (v := (1 : Int32)) C.1 C.2.1 dX9_written_9 (by decide) ?_
  refine lv_isub C.1 C.2.1 dX9_written_10 ?_
  obtain ⟨r11, hc11, hf⟩ := bd_some hf
  refine cV_go (runRSc (As := [_, _, _]) C hK hP hZ hS wv_X9_74 hl (kc_X9_isWithin l D cA ad _ η F _ _ _  r11 hc11) rfl rfl rfl (Nat.le_of_ble_eq_true rfl) ⟨Nat.le_refl _, Nat.le_refl _⟩ dX9_written_11) ?_
  refine lv_if_ne (tgt := 21) C.1 C.2.1 dX9_written_14 (by decide) (fun c14 => ?_) (fun c14 => ?_)
  · have hf := br_n c14 hf
    refine lv_aload_n C.1 C.2.1 dX9_written_21 rfl (lv_at hl 0 rfl) ?_
    refine gc_R_writing C hK hP wf_X9_47 dX9_written_22 ?_
    refine lv_iload_n C.1 C.2.1 dX9_written_25 rfl (lv_at hl 1 rfl) ?_
    obtain ⟨r26, hc26, hf⟩ := bd_some hf
    refine cV_go (runRVc (As := [_]) C hK hP hZ hS wv_X9_220 hl (kc_J4_charAt_5068e l D cA ad _ η F _  r26 hc26) (rcS hK hP) rfl rfl rfl (Nat.le_of_ble_eq_true rfl) ⟨Nat.le_refl _, Nat.le_refl _⟩ dX9_written_26) ?_
    exact KRc.iret C hr hlk (Option.some.inj hf) dX9_written_29
  · have hf := br_p c14 hf
    refine lv_sipush (v := (-1001 : Int32)) C.1 C.2.1 dX9_written_17 (by decide) ?_
    exact KRc.iret C hr hlk (Option.some.inj hf) dX9_written_20
