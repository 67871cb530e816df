theorem wArrI : Cond.arrayClass .int ∈ gT := gT_i 143 (by decide +kernel) rfl
theorem wm_J7_304 : Cond.methodLink RJ7 304 Lib.Math.min.name ∈ gT ∧ Cond.static Lib.Math.min.name ∈ gT ∧ Cond.initialized "java/lang/Math" ∈ gT ∧ Cond.code Lib.Math.min.name Lib.Math.min.code 2 (some .int) ∈ gT := ⟨gT_i 708 (by decide +kernel) rfl, gT_i 452 (by decide +kernel) rfl, gT_i 92 (by decide +kernel) rfl, gT_i 453 (by decide +kernel) rfl⟩
theorem wy_J7_150 : Cond.methodLink RJ7 150 arraycopyName ∈ gT ∧ Cond.native arraycopyName ∈ gT ∧ Cond.static arraycopyName ∈ gT ∧ Cond.initialized "java/lang/System" ∈ gT := ⟨gT_i 709 (by decide +kernel) rfl, gT_i 391 (by decide +kernel) rfl, gT_i 390 (by decide +kernel) rfl, gT_i 90 (by decide +kernel) rfl⟩
theorem wv_X8_160 : CS RX8 160 yJ7_copyOf_59c91 cJ7_copyOf_59c91 3 (some (.array .int)) 2 := ⟨gT_i 698 (by decide +kernel) rfl, gT_i 699 (by decide +kernel) rfl, gT_i 93 (by decide +kernel) rfl, gT_i 700 (by decide +kernel) rfl, by decide, by decide, by decide +kernel⟩
theorem wri_X8_164 : Cond.methodLink RX8 164 yX6_init ∈ gT ∧ Cond.instanceMethod yX6_init ∈ gT ∧ Cond.initialized RX6 ∈ gT ∧ Cond.code yX6_init cX6_init 4 none ∈ gT := ⟨gT_i 710 (by decide +kernel) rfl, gT_i 711 (by decide +kernel) rfl, gT_i 94 (by decide +kernel) rfl, gT_i 712 (by decide +kernel) rfl⟩
theorem wri_X9_283 : Cond.methodLink RX9 283 yX6_init ∈ gT ∧ Cond.instanceMethod yX6_init ∈ gT ∧ Cond.initialized RX6 ∈ gT ∧ Cond.code yX6_init cX6_init 4 none ∈ gT := ⟨gT_i 733 (by decide +kernel) rfl, gT_i 711 (by decide +kernel) rfl, gT_i 94 (by decide +kernel) rfl, gT_i 712 (by decide +kernel) rfl⟩
theorem wnr_X8_151 : Cond.classLink RX8 151 RX6 ∈ gT ∧ Cond.instantiable RX6 3 ∈ gT ∧ Cond.initialized RX6 ∈ gT := ⟨gT_i 697 (by decide +kernel) rfl, gT_i 544 (by decide +kernel) rfl, gT_i 94 (by decide +kernel) rfl⟩
theorem wnr_X9_147 : Cond.classLink RX9 147 RX6 ∈ gT ∧ Cond.instantiable RX6 3 ∈ gT ∧ Cond.initialized RX6 ∈ gT := ⟨gT_i 732 (by decide +kernel) rfl, gT_i 544 (by decide +kernel) rfl, gT_i 94 (by decide +kernel) rfl⟩
theorem wg_X8_33 : Cond.fieldLink RX8 33 "ConnectorRouter$WayFinder" "cornerXs" "[I" ∈ gT := gT_i 223 (by decide +kernel) rfl
theorem wg_X8_36 : Cond.fieldLink RX8 36 "ConnectorRouter$WayFinder" "cornerYs" "[I" ∈ gT := gT_i 224 (by decide +kernel) rfl
theorem wg_X8_135 : Cond.fieldLink RX8 135 "ConnectorRouter$WayFinder" "corners" "I" ∈ gT := gT_i 225 (by decide +kernel) rfl
theorem set_last {α : Type} (l : List α) (a b : α) : (l ++ [a]).set l.length b = l ++ [b] := by
  induction l with
  | nil => rfl
  | cons x t ih => exact congrArg (x :: ·) ih
theorem get_last {α : Type} (l : List α) (a : α) : (l ++ [a])[l.length]? = some a := by
  induction l with
  | nil => rfl
  | cons x t ih => exact ih
set_option maxHeartbeats 4000000 in
set_option maxRecDepth 100000 in
theorem kc_copyOf_25 (l : Launch) (D : va_G) (cA : Nat → ClassId) (ad : Nat → Nat) (σ : CSt) (η : HS) (x : Int32) (hx0 : ¬ x < 0) (hx1 : x.toNatClampNeg < 326) : KX l D cA ad σ η yJ7_copyOf_59c91 cJ7_copyOf_59c91 3 (some (.array .int)) (rmc 1 40 1 x.toNatClampNeg) [.ref (ad 25), .int x] (QA x.toNatClampNeg (va_cpy (cs_fcx σ) (fun _ => 0) 0 0 x.toNatClampNeg) D cA ad σ η (bump σ 1 x.toNatClampNeg)) := by
  refine KX.of (by decide) (Nat.le_of_ble_eq_true rfl) ?_
  intro p e s m below meth c A hAe hA C hr hlk hK hP hD hS hZ ls hl
  have hl : lv_has ls 3 [(0, .ref (ad 25)), (1, .int x)] := hl
  refine lv_iload_n C.1 C.2.1 dJ7_copyOf_59c91_0 rfl (lv_at hl 1 rfl) ?_
  refine lv_aload_n C.1 C.2.1 dJ7_copyOf_59c91_1 rfl (lv_at hl 0 rfl) ?_
  refine nc_fcx C hK hP dJ7_copyOf_59c91_2 ?_
  refine lv_icmp_ne (tgt := 14) C.1 C.2.1 dJ7_copyOf_59c91_3 (by decide) (fun c3 => ?_) (fun c3 => ?_)
  · refine lv_iload_n C.1 C.2.1 dJ7_copyOf_59c91_14 rfl (lv_at hl 1 rfl) ?_
    refine va_newa (atype := .int) (ty := .int) C.1 C.2.1 (C.2.2.2.2 _ wArrI) rfl hK hP.2 hD hS hA (N' := x.toNatClampNeg) (a0 := (x.toNatClampNeg, .inl fun _ => 0)) (fun _ => by rw [vp_cell_i]; rfl) hx0 rfl (by show x.toNatClampNeg * 4 ≤ _; omega) (Nat.le_refl _) (by show 0 + x.toNatClampNeg ≤ x.toNatClampNeg; omega) dJ7_copyOf_59c91_15 (fun q cB H hK1 hPw hD hS => ?_)
    have hcB : cB = cA 0 := by
      have h1 : s.vm.findClass ("[" ++ FieldType.int.toString) = some cB := (hK1.2 5 (cB, .int) rfl).2
      have h2 : s.vm.findClass ("[" ++ FieldType.int.toString) = some (cA 0) := (hK1.2 0 (cA 0, .int) rfl).2
      exact Option.some.inj (h1.symm.trans h2)
    subst hcB
    refine lv_astore_n (lv' := [(2, .ref q), (0, .ref (ad 25)), (1, .int x)]) C.1 C.2.1 dJ7_copyOf_59c91_17 rfl hl (by decide) rfl (fun ls hl => ?_)
    refine lv_aload_n C.1 C.2.1 dJ7_copyOf_59c91_18 rfl (lv_at hl 1 rfl) ?_
    refine lv_iconst (v := (0 : Int32)) C.1 C.2.1 dJ7_copyOf_59c91_19 (by decide) ?_
    refine lv_aload_n C.1 C.2.1 dJ7_copyOf_59c91_20 rfl (lv_at hl 0 rfl) ?_
    refine lv_iconst (v := (0 : Int32)) C.1 C.2.1 dJ7_copyOf_59c91_21 (by decide) ?_
    refine lv_aload_n C.1 C.2.1 dJ7_copyOf_59c91_22 rfl (lv_at hl 1 rfl) ?_
    refine va_alen C.1 C.2.1 hK1 hPw 25 0 rfl rfl (show Int32.ofNat 326 = 326 by decide) dJ7_copyOf_59c91_23 ?_
    refine lv_iload_n C.1 C.2.1 dJ7_copyOf_59c91_24 rfl (lv_at hl 2 rfl) ?_
    refine va_mmin C.1 C.2.1 (by rw [C.2.2.1]; exact hl.1.symm) C.2.2.2.1 (C.2.2.2.2 _ wm_J7_304.1) (C.2.2.2.2 _ wm_J7_304.2.1) (C.2.2.2.2 _ wm_J7_304.2.2.1) (C.2.2.2.2 _ wm_J7_304.2.2.2) (Nat.le_of_ble_eq_true rfl) (Nat.le_of_ble_eq_true rfl) (Nat.le_refl _) (by show 0 + x.toNatClampNeg ≤ x.toNatClampNeg; omega) dJ7_copyOf_59c91_25 ?_
    have hlt : x < 326 := by
      rw [Int32.lt_iff_toInt_lt]
      have h3 : x.toInt = (x.toNatClampNeg : Int) := by
        have h4 : (0 : Int) ≤ x.toInt := by
          have := Int32.le_iff_toInt_le.mp (Int32.not_lt.mp hx0)
          simpa using this
        show x.toInt = ((x.toInt.toNat : Nat) : Int)
        omega
      have h5 : (326 : Int32).toInt = 326 := by decide
      omega
    rw [if_pos hlt]
    refine va_copyi C.1 C.2.1 (by rw [C.2.2.1]; exact hl.1.symm) C.2.2.2.1 (C.2.2.2.2 _ wy_J7_150.1) (C.2.2.2.2 _ wy_J7_150.2.1) (C.2.2.2.2 _ wy_J7_150.2.2.1) (C.2.2.2.2 _ wy_J7_150.2.2.2) hK1 hPw hD hS 25 (wC cA ad σ η).length 0 5 (f := cs_fcx σ) (g := fun _ => 0) rfl (get_last _ _) rfl rfl rfl (by decide) (by decide) hx0 (by show 0 + x.toNatClampNeg ≤ 326; omega) (by show 0 + x.toNatClampNeg ≤ x.toNatClampNeg; omega) (fun _ _ => rfl) (Nat.le_of_ble_eq_true rfl) (Nat.le_of_ble_eq_true rfl) dJ7_copyOf_59c91_28 (fun H locs hPw hD hS => ?_)
    rw [set_last] at hPw hD
    have hq : q ∉ η.2.2.2.1 := va_pl_fresh2 (X := wCf cA ad σ η) (f := η.2.2.2.2) hD
    rw [wC_push hq] at hPw hD
    refine lv_aload_n C.1 C.2.1 dJ7_copyOf_59c91_31 rfl (lv_at hl 0 rfl) ?_
    refine W.widen (k := 1) (n := x.toNatClampNeg) (Nat.le_refl _) (by omega) ?_
    refine W.aret C.1 C.2.1 hr (Or.inr ⟨_, rfl⟩) (Or.inr ⟨_, rfl⟩) (fun t ht hW => ?_) hS.2.2 dJ7_copyOf_59c91_32 hlk
    subst hAe
    exact ⟨_, q, rfl, ext_push hq, ⟨List.mem_append_right _ (List.mem_singleton.mpr rfl), va_up_self _ _ _⟩, by rw [ht]; exact ⟨rel_ext hP.1 (ext_push hq) rfl rfl, hPw⟩, va_K.moved hW.alike hK, hD, hS.F ht⟩
  · exfalso
    subst c3
    exact absurd hx1 (by decide)
set_option maxHeartbeats 4000000 in
set_option maxRecDepth 100000 in
theorem kc_copyOf_26 (l : Launch) (D : va_G) (cA : Nat → ClassId) (ad : Nat → Nat) (σ : CSt) (η : HS) (x : Int32) (hx0 : ¬ x < 0) (hx1 : x.toNatClampNeg < 326) : KX l D cA ad σ η yJ7_copyOf_59c91 cJ7_copyOf_59c91 3 (some (.array .int)) (rmc 1 40 1 x.toNatClampNeg) [.ref (ad 26), .int x] (QA x.toNatClampNeg (va_cpy (cs_fcy σ) (fun _ => 0) 0 0 x.toNatClampNeg) D cA ad σ η (bump σ 1 x.toNatClampNeg)) := by
  refine KX.of (by decide) (Nat.le_of_ble_eq_true rfl) ?_
  intro p e s m below meth c A hAe hA C hr hlk hK hP hD hS hZ ls hl
  have hl : lv_has ls 3 [(0, .ref (ad 26)), (1, .int x)] := hl
  refine lv_iload_n C.1 C.2.1 dJ7_copyOf_59c91_0 rfl (lv_at hl 1 rfl) ?_
  refine lv_aload_n C.1 C.2.1 dJ7_copyOf_59c91_1 rfl (lv_at hl 0 rfl) ?_
  refine nc_fcy C hK hP dJ7_copyOf_59c91_2 ?_
  refine lv_icmp_ne (tgt := 14) C.1 C.2.1 dJ7_copyOf_59c91_3 (by decide) (fun c3 => ?_) (fun c3 => ?_)
  · refine lv_iload_n C.1 C.2.1 dJ7_copyOf_59c91_14 rfl (lv_at hl 1 rfl) ?_
    refine va_newa (atype := .int) (ty := .int) C.1 C.2.1 (C.2.2.2.2 _ wArrI) rfl hK hP.2 hD hS hA (N' := x.toNatClampNeg) (a0 := (x.toNatClampNeg, .inl fun _ => 0)) (fun _ => by rw [vp_cell_i]; rfl) hx0 rfl (by show x.toNatClampNeg * 4 ≤ _; omega) (Nat.le_refl _) (by show 0 + x.toNatClampNeg ≤ x.toNatClampNeg; omega) dJ7_copyOf_59c91_15 (fun q cB H hK1 hPw hD hS => ?_)
    have hcB : cB = cA 0 := by
      have h1 : s.vm.findClass ("[" ++ FieldType.int.toString) = some cB := (hK1.2 5 (cB, .int) rfl).2
      have h2 : s.vm.findClass ("[" ++ FieldType.int.toString) = some (cA 0) := (hK1.2 0 (cA 0, .int) rfl).2
      exact Option.some.inj (h1.symm.trans h2)
    subst hcB
    refine lv_astore_n (lv' := [(2, .ref q), (0, .ref (ad 26)), (1, .int x)]) C.1 C.2.1 dJ7_copyOf_59c91_17 rfl hl (by decide) rfl (fun ls hl => ?_)
    refine lv_aload_n C.1 C.2.1 dJ7_copyOf_59c91_18 rfl (lv_at hl 1 rfl) ?_
    refine lv_iconst (v := (0 : Int32)) C.1 C.2.1 dJ7_copyOf_59c91_19 (by decide) ?_
    refine lv_aload_n C.1 C.2.1 dJ7_copyOf_59c91_20 rfl (lv_at hl 0 rfl) ?_
    refine lv_iconst (v := (0 : Int32)) C.1 C.2.1 dJ7_copyOf_59c91_21 (by decide) ?_
    refine lv_aload_n C.1 C.2.1 dJ7_copyOf_59c91_22 rfl (lv_at hl 1 rfl) ?_
    refine va_alen C.1 C.2.1 hK1 hPw 26 0 rfl rfl (show Int32.ofNat 326 = 326 by decide) dJ7_copyOf_59c91_23 ?_
    refine lv_iload_n C.1 C.2.1 dJ7_copyOf_59c91_24 rfl (lv_at hl 2 rfl) ?_
    refine va_mmin C.1 C.2.1 (by rw [C.2.2.1]; exact hl.1.symm) C.2.2.2.1 (C.2.2.2.2 _ wm_J7_304.1) (C.2.2.2.2 _ wm_J7_304.2.1) (C.2.2.2.2 _ wm_J7_304.2.2.1) (C.2.2.2.2 _ wm_J7_304.2.2.2) (Nat.le_of_ble_eq_true rfl) (Nat.le_of_ble_eq_true rfl) (Nat.le_refl _) (by show 0 + x.toNatClampNeg ≤ x.toNatClampNeg; omega) dJ7_copyOf_59c91_25 ?_
    have hlt : x < 326 := by
      rw [Int32.lt_iff_toInt_lt]
      have h3 : x.toInt = (x.toNatClampNeg : Int) := by
        have h4 : (0 : Int) ≤ x.toInt := by
          have := Int32.le_iff_toInt_le.mp (Int32.not_lt.mp hx0)
          simpa using this
        show x.toInt = ((x.toInt.toNat : Nat) : Int)
        omega
      have h5 : (326 : Int32).toInt = 326 := by decide
      omega
    rw [if_pos hlt]
    refine va_copyi C.1 C.2.1 (by rw [C.2.2.1]; exact hl.1.symm) C.2.2.2.1 (C.2.2.2.2 _ wy_J7_150.1) (C.2.2.2.2 _ wy_J7_150.2.1) (C.2.2.2.2 _ wy_J7_150.2.2.1) (C.2.2.2.2 _ wy_J7_150.2.2.2) hK1 hPw hD hS 26 (wC cA ad σ η).length 0 5 (f := cs_fcy σ) (g := fun _ => 0) rfl (get_last _ _) rfl rfl rfl (by decide) (by decide) hx0 (by show 0 + x.toNatClampNeg ≤ 326; omega) (by show 0 + x.toNatClampNeg ≤ x.toNatClampNeg; omega) (fun _ _ => rfl) (Nat.le_of_ble_eq_true rfl) (Nat.le_of_ble_eq_true rfl) dJ7_copyOf_59c91_28 (fun H locs hPw hD hS => ?_)
    rw [set_last] at hPw hD
    have hq : q ∉ η.2.2.2.1 := va_pl_fresh2 (X := wCf cA ad σ η) (f := η.2.2.2.2) hD
    rw [wC_push hq] at hPw hD
    refine lv_aload_n C.1 C.2.1 dJ7_copyOf_59c91_31 rfl (lv_at hl 0 rfl) ?_
    refine W.widen (k := 1) (n := x.toNatClampNeg) (Nat.le_refl _) (by omega) ?_
    refine W.aret C.1 C.2.1 hr (Or.inr ⟨_, rfl⟩) (Or.inr ⟨_, rfl⟩) (fun t ht hW => ?_) hS.2.2 dJ7_copyOf_59c91_32 hlk
    subst hAe
    exact ⟨_, q, rfl, ext_push hq, ⟨List.mem_append_right _ (List.mem_singleton.mpr rfl), va_up_self _ _ _⟩, by rw [ht]; exact ⟨rel_ext hP.1 (ext_push hq) rfl rfl, hPw⟩, va_K.moved hW.alike hK, hD, hS.F ht⟩
  · exfalso
    subst c3
    exact absurd hx1 (by decide)
def fc_X8_makeRoute (F : Nat) (σ : CSt) (x1 : Int32) : Option (RV × CSt) :=
  gd (ix (cs_fcn σ) 326 = true) (lt (bump (bump (bump σ 1 3) 1 (cs_fcn σ).toNatClampNeg) 1 (cs_fcn σ).toNatClampNeg) (fun σ1 => some ((x1, (cs_fcn σ).toNatClampNeg, va_cpy (cs_fcx σ) (fun _ => 0) 0 0 (cs_fcn σ).toNatClampNeg, va_cpy (cs_fcy σ) (fun _ => 0) 0 0 (cs_fcn σ).toNatClampNeg), σ1)))
set_option maxHeartbeats 4000000 in
set_option maxRecDepth 100000 in
theorem kc_X8_makeRoute (l : Launch) (D : va_G) (cA : Nat → ClassId) (ad : Nat → Nat) (σ : CSt) (η : HS) (F : Nat) (x : Int32) (v : RV) (σr : CSt) (hf : fc_X8_makeRoute F σ x = some (v, σr)) : KX l D cA ad σ η yX8_makeRoute cX8_makeRoute 2 (some (.object "ConnectorRouter$Route")) (rmc 2 62 (cs_nc σr - cs_nc σ) (cs_ns σr - cs_ns σ)) [.ref (ad 23), .int x] (QM v D cA ad σ η σr) := by
  obtain ⟨hi, hf⟩ := gd_some hf
  have hf := lt_e hf
  obtain ⟨rfl, rfl⟩ := Prod.mk.inj (Option.some.inj hf)
  have hin := ix_in hi
  have hx0 : ¬ (cs_fcn σ) < 0 := fun q => hin (Or.inl q)
  have hx1 : (cs_fcn σ).toNatClampNeg < 326 := Nat.not_le.mp fun q => hin (Or.inr q)
  obtain ⟨n, hn⟩ : ∃ n, n = (cs_fcn σ).toNatClampNeg := ⟨_, rfl⟩
  have hmc : cs_nc (bump (bump (bump σ 1 3) 1 (cs_fcn σ).toNatClampNeg) 1 (cs_fcn σ).toNatClampNeg) - cs_nc σ = 3 := by show cs_nc σ + 1 + 1 + 1 - cs_nc σ = 3; omega
  have hms : cs_ns (bump (bump (bump σ 1 3) 1 (cs_fcn σ).toNatClampNeg) 1 (cs_fcn σ).toNatClampNeg) - cs_ns σ = 3 + n + n := by rw [hn]; show cs_ns σ + 3 + _ + _ - cs_ns σ = _; omega
  rw [hmc, hms]
  refine KX.of (by decide) (Nat.le_of_ble_eq_true rfl) ?_
  intro p e s m below meth c A hAe hA C hr hlk hK hP hD hS hZ ls hl
  have hl : lv_has ls 2 [(0, .ref (ad 23)), (1, .int x)] := hl
  refine nw_rt C hK hP hD hS hA wnr_X8_151 ⟨by show 0 + 1 ≤ 3; omega, by show 0 + 3 ≤ 3 + n + n; omega⟩ dX8_makeRoute_0 (fun q η1 H hq hxb hu hP1 hD hS => ?_)
  refine lv_dup C.1 C.2.1 dX8_makeRoute_3 rfl ?_
  refine lv_iload_n C.1 C.2.1 dX8_makeRoute_4 rfl (lv_at hl 1 rfl) ?_
  refine lv_aload_n C.1 C.2.1 dX8_makeRoute_5 rfl (lv_at hl 0 rfl) ?_
  refine gc_fi_cornerXs C hK hP1 wg_X8_33 dX8_makeRoute_6 ?_
  refine lv_aload_n C.1 C.2.1 dX8_makeRoute_9 rfl (lv_at hl 0 rfl) ?_
  refine gc_fi_corners C hK hP1 wg_X8_135 dX8_makeRoute_10 ?_
  refine cA_go (va_runS (As := [.ref (ad 25), .int (cs_fcn σ)]) (g := F0 m 13 ls [.int (cs_fcn σ), .ref (ad 25), .int x, .ref q, .ref q]) (rest := [.int x, .ref q, .ref q]) C (kc_copyOf_25 l D cA ad (bump σ 1 3) η1 (cs_fcn σ) hx0 hx1 H.size) (wv_X8_160.cwE C ⟨Nat.le_of_ble_eq_true rfl, Nat.le_of_ble_eq_true rfl⟩) ⟨KC.blind, fun U hU hW => ⟨rfl, by rw [hU], by rw [hU]; exact hP1, va_K.moved hW.alike hK, hD.weaken (fun _ _ _ _ => trivial), hZ.go hS (hF_of hD hA hS) hU hW⟩⟩ rfl rfl hl.1 rfl (lv_room (Nat.le_of_ble_eq_true rfl)) dX8_makeRoute_13 ⟨by show 0 + 1 + 1 ≤ 3; omega, by show 0 + 3 + (cs_fcn σ).toNatClampNeg ≤ 3 + n + n; omega⟩) hD hA hS (fun ax η2 H locs hx2 hpx hP2 hD hS => ?_)
  refine lv_aload_n C.1 C.2.1 dX8_makeRoute_16 rfl (lv_at hl 0 rfl) ?_
  refine gc_fi_cornerYs C hK hP2 wg_X8_36 dX8_makeRoute_17 ?_
  refine lv_aload_n C.1 C.2.1 dX8_makeRoute_20 rfl (lv_at hl 0 rfl) ?_
  refine gc_fi_corners C hK hP2 wg_X8_135 dX8_makeRoute_21 ?_
  refine cA_go (va_runS (As := [.ref (ad 26), .int (cs_fcn σ)]) (g := F0 m 24 ls [.int (cs_fcn σ), .ref (ad 26), .ref ax, .int x, .ref q, .ref q]) (rest := [.ref ax, .int x, .ref q, .ref q]) C (kc_copyOf_26 l D cA ad (bump (bump σ 1 3) 1 (cs_fcn σ).toNatClampNeg) η2 (cs_fcn σ) hx0 hx1 H.size) (wv_X8_160.cwE C ⟨Nat.le_of_ble_eq_true rfl, Nat.le_of_ble_eq_true rfl⟩) ⟨KC.blind, fun U hU hW => ⟨rfl, by rw [hU], by rw [hU]; exact hP2, va_K.moved hW.alike hK, hD.weaken (fun _ _ _ _ => trivial), hZ.go hS (hF_of hD hA hS) hU hW⟩⟩ rfl rfl hl.1 rfl (lv_room (Nat.le_of_ble_eq_true rfl)) dX8_makeRoute_24 ⟨by show 0 + 1 + 1 + 1 ≤ 3; omega, by show 0 + 3 + (cs_fcn σ).toNatClampNeg + (cs_fcn σ).toNatClampNeg ≤ 3 + n + n; omega⟩) hD hA hS (fun ay η3 H locs hx3 hpy hP3 hD hS => ?_)
  refine in_rt (ηb := η) (q := q) C hK hP3 hD hA hS hZ hl wri_X8_164 ((hu.ext hx2).ext hx3) (hxb.tr (hx2.tr hx3)) hq (hpx.ext hx3) hpy rfl (Nat.le_of_ble_eq_true rfl) ⟨by show 0 + 1 + 1 + 1 ≤ 3; omega, by show 0 + 3 + (cs_fcn σ).toNatClampNeg + (cs_fcn σ).toNatClampNeg ≤ 3 + n + n; omega⟩ dX8_makeRoute_27 (fun η4 H locs hx4 hrt hP4 hD hS => ?_)
  refine W.widen (k := 3) (n := 3 + n + n) (Nat.le_refl _) (by show 0 + 3 + (cs_fcn σ).toNatClampNeg + (cs_fcn σ).toNatClampNeg ≤ 3 + n + n; omega) ?_
  refine W.aret C.1 C.2.1 hr (Or.inl ⟨_, rfl⟩) (Or.inr ⟨_, rfl⟩) (fun t ht hW => ?_) hS.2.2 dX8_makeRoute_30 hlk
  subst hAe
  exact ⟨η4, q, rfl, hx4, hrt, by rw [ht]; exact hP4, va_K.moved hW.alike hK, hD, hS.F ht⟩
