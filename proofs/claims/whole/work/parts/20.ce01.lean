def fc_X1_copyFrom_K_L62_c (F : Nat) (i9 : Nat) (k62 : CSt → Int32 → Option (CSt)) (σ : CSt) (x2 : Int32) : Option (CSt) :=
  if (10 : Int32) ≤ x2 then (some σ) else (gd (ix x2 10 = true) (mo (cs_cr σ x2.toNatClampNeg) (gd (ix x2 10 = true) (lt (cs_kr_s σ (va_up (cs_kr σ) i9 (va_up (cs_kr σ i9) x2.toNatClampNeg none))) (fun σ82 => lt (x2 + (1 : Int32)) (fun x2_83 => k62 σ82 x2_83)))) (fun v81 => gd (ix x2 10 = true) (lt (cs_kr_s σ (va_up (cs_kr σ) i9 (va_up (cs_kr σ i9) x2.toNatClampNeg (some v81)))) (fun σ82 => lt (x2 + (1 : Int32)) (fun x2_83 => k62 σ82 x2_83))))))
def fc_X1_copyFrom_K_L62 (F : Nat) (i9 : Nat) (n : Nat) (σ : CSt) (x2 : Int32) : Option (CSt) := lpN (fun (k : CSt × Int32 → Option (CSt)) a => fc_X1_copyFrom_K_L62_c F i9 (fun σ x2 => k (σ, x2)) a.1 a.2) n (σ, x2)
def fc_X1_copyFrom_K (F : Nat) (σ : CSt) (i9 : Nat) : Option (CSt) :=
  lt (cs_kb_s σ (va_up (cs_kb σ) i9 (cs_cb σ))) (fun σ5 => lt (cs_kc_s σ5 (va_up (cs_kc σ5) i9 (cs_cc σ5))) (fun σ13 => lt (cs_kp_s σ13 (va_up (cs_kp σ13) i9 (cs_cp σ13))) (fun σ21 => gd (cpo (0 : Int32) (0 : Int32) (32 : Int32) 32 32 = true) (lt (cs_ke_s σ21 (va_up (cs_ke σ21) i9 (va_cpy (cs_ce σ21) (cs_ke σ21 i9) (0 : Int32).toNatClampNeg (0 : Int32).toNatClampNeg (32 : Int32).toNatClampNeg))) (fun σ39 => gd (cpo (0 : Int32) (0 : Int32) (60 : Int32) 60 60 = true) (lt (cs_kq_s σ39 (va_up (cs_kq σ39) i9 (va_cpy (cs_cq σ39) (cs_kq σ39 i9) (0 : Int32).toNatClampNeg (0 : Int32).toNatClampNeg (60 : Int32).toNatClampNeg))) (fun σ57 => fc_X1_copyFrom_K_L62 F i9 F σ57 (0 : Int32))))))))
set_option maxHeartbeats 4000000 in
set_option maxRecDepth 100000 in
theorem kc_X1_copyFrom_K (l : Launch) (D : va_G) (cA : Nat → ClassId) (ad : Nat → Nat) (σ0 : CSt) (η0 : HS) (F : Nat) (i9 : Nat) (hi9 : i9 < 4) (σr : CSt) (hf : fc_X1_copyFrom_K F σ0 i9 = some σr) : KE l D cA ad σ0 η0 yX1_copyFrom cX1_copyFrom 3 none (rmc 1 40 0 0) [.ref (ad (5 + 4 * i9)), .ref (ad 1)] none σr := by
  refine KE.of (by decide) (Nat.le_of_ble_eq_true rfl) ?_
  intro p e s m below meth c A hAe hA C hr hlk hK hP hD hS hZ ls hl
  have hx : ext η0 η0 := ext.rf
  have hl : lv_has ls 3 [(0, .ref (ad (5 + 4 * i9))), (1, .ref (ad 1))] := hl
  have hB62 : ∀ (n62 : Nat) (η : HS) (H : Heap) (locs : List Loc) (σ : CSt) (ls : Array Slot) (x2 : Int32), ext η0 η → HC D cA ad σ η H → va_D A (wC cA ad σ η) → va_S A s.heap H locs → lv_has ls 3 [(0, .ref (ad (5 + 4 * i9))), (1, .ref (ad 1)), (2, .int x2)] → fc_X1_copyFrom_K_L62 F i9 n62 σ x2 = some σr → WE p l e 1 40 0 0 s m [.ref (ad (5 + 4 * i9)), .ref (ad 1)] below meth c none D cA ad σ0 η0 σr A H locs 0 0 (F0 m 62 ls []) := by
    intro n62
    induction n62 with
    | zero =>
      intro η H locs σ ls x2 hx hP hD hS hl hf
      cases (show (none : Option _) = _ from hf)
    | succ n62 ih62 =>
      intro η H locs σ ls x2 hx hP hD hS hl hf
      have hf : fc_X1_copyFrom_K_L62_c F i9 (fc_X1_copyFrom_K_L62 F i9 n62) σ x2 = some σr := hf
      unfold fc_X1_copyFrom_K_L62_c at hf
      refine lv_iload_n C.1 C.2.1 dX1_copyFrom_62 rfl (lv_at hl 2 rfl) ?_
      refine lv_aload_n C.1 C.2.1 dX1_copyFrom_63 rfl (lv_at hl 0 rfl) ?_
      refine gk_routes C hK hP hi9 wf_X1_24 dX1_copyFrom_64 ?_
      refine nk_3 C hK hP hi9 dX1_copyFrom_67 ?_
      refine lv_icmp_ge (tgt := 89) C.1 C.2.1 dX1_copyFrom_68 (by decide) (fun c68 => ?_) (fun c68 => ?_)
      · have hf := br_p c68 hf
        obtain rfl := Option.some.inj hf
        exact KE.vret C hr hlk hK hAe hx hP hD hS (Nat.le_refl _) (Nat.le_refl _) rfl dX1_copyFrom_89
      · have hf := br_n c68 hf
        refine lv_aload_n C.1 C.2.1 dX1_copyFrom_71 rfl (lv_at hl 0 rfl) ?_
        refine gk_routes C hK hP hi9 wf_X1_24 dX1_copyFrom_72 ?_
        refine lv_iload_n C.1 C.2.1 dX1_copyFrom_75 rfl (lv_at hl 2 rfl) ?_
        refine lv_aload_n C.1 C.2.1 dX1_copyFrom_76 rfl (lv_at hl 1 rfl) ?_
        refine gc_cv_routes C hK hP wf_X1_24 dX1_copyFrom_77 ?_
        refine lv_iload_n C.1 C.2.1 dX1_copyFrom_80 rfl (lv_at hl 2 rfl) ?_
        obtain ⟨hi81, hf⟩ := gd_some hf
        refine lr_cr C hK hP hi81 dX1_copyFrom_81 (fun hn81 => ?_) (fun a81 v81 he81 hv81 => ?_)
        · have hf := mo_n hn81 hf
          obtain ⟨hi82, hf⟩ := gd_some hf
          replace hf := lt_e hf
          refine sr_krn C hK hP hD hS hi9 hi82 dX1_copyFrom_82 (fun η H locs hx1 hP hD hS => ?_)
          replace hx := hx.tr hx1
          obtain ⟨x2_83, ex2_83, hf⟩ := lt_some hf
          refine lv_iinc (v := x2_83) (lv' := [(2, .int x2_83), (0, .ref (ad (5 + 4 * i9))), (1, .ref (ad 1))]) C.1 C.2.1 dX1_copyFrom_83 hl (k := 2) rfl (by rw [ex2_83]; rfl) (by decide) rfl (fun ls hl => ?_)
          refine lv_goto (tgt := 62) C.1 C.2.1 dX1_copyFrom_86 (by decide) ?_
          exact ih62 _ _ _ _ ls _ hx hP hD hS (lv_sub hl [1, 2, 0] rfl) hf
        · have hf := mo_s he81 hf
          obtain ⟨hi82, hf⟩ := gd_some hf
          replace hf := lt_e hf
          refine sr_krs C hK hP hD hS hv81 hi9 hi82 dX1_copyFrom_82 (fun η H locs hx1 hP hD hS => ?_)
          replace hx := hx.tr hx1
          obtain ⟨x2_83, ex2_83, hf⟩ := lt_some hf
          refine lv_iinc (v := x2_83) (lv' := [(2, .int x2_83), (0, .ref (ad (5 + 4 * i9))), (1, .ref (ad 1))]) C.1 C.2.1 dX1_copyFrom_83 hl (k := 2) rfl (by rw [ex2_83]; rfl) (by decide) rfl (fun ls hl => ?_)
          refine lv_goto (tgt := 62) C.1 C.2.1 dX1_copyFrom_86 (by decide) ?_
          exact ih62 _ _ _ _ ls _ hx hP hD hS (lv_sub hl [1, 2, 0] rfl) hf
  unfold fc_X1_copyFrom_K at hf
  refine lv_aload_n C.1 C.2.1 dX1_copyFrom_0 rfl (lv_at hl 0 rfl) ?_
  refine lv_aload_n C.1 C.2.1 dX1_copyFrom_1 rfl (lv_at hl 1 rfl) ?_
  refine gc_cv_boxes C hK hP wf_X1_28 dX1_copyFrom_2 ?_
  replace hf := lt_e hf
  refine pk_boxes C hK hP hD hS hi9 wf_X1_28 dX1_copyFrom_5 (fun H locs hP hD hS => ?_)
  refine lv_aload_n C.1 C.2.1 dX1_copyFrom_8 rfl (lv_at hl 0 rfl) ?_
  refine lv_aload_n C.1 C.2.1 dX1_copyFrom_9 rfl (lv_at hl 1 rfl) ?_
  refine gc_cv_connectors C hK hP wf_X1_31 dX1_copyFrom_10 ?_
  replace hf := lt_e hf
  refine pk_connectors C hK hP hD hS hi9 wf_X1_31 dX1_copyFrom_13 (fun H locs hP hD hS => ?_)
  refine lv_aload_n C.1 C.2.1 dX1_copyFrom_16 rfl (lv_at hl 0 rfl) ?_
  refine lv_aload_n C.1 C.2.1 dX1_copyFrom_17 rfl (lv_at hl 1 rfl) ?_
  refine gc_cv_penalty C hK hP wf_X1_9 dX1_copyFrom_18 ?_
  replace hf := lt_e hf
  refine pk_penalty C hK hP hD hS hi9 wf_X1_9 dX1_copyFrom_21 (fun H locs hP hD hS => ?_)
  refine lv_aload_n C.1 C.2.1 dX1_copyFrom_24 rfl (lv_at hl 1 rfl) ?_
  refine gc_cv_edges C hK hP wf_X1_15 dX1_copyFrom_25 ?_
  refine lv_iconst (v := (0 : Int32)) C.1 C.2.1 dX1_copyFrom_28 (by decide) ?_
  refine lv_aload_n C.1 C.2.1 dX1_copyFrom_29 rfl (lv_at hl 0 rfl) ?_
  refine gk_edges C hK hP hi9 wf_X1_15 dX1_copyFrom_30 ?_
  refine lv_iconst (v := (0 : Int32)) C.1 C.2.1 dX1_copyFrom_33 (by decide) ?_
  refine lv_aload_n C.1 C.2.1 dX1_copyFrom_34 rfl (lv_at hl 0 rfl) ?_
  refine gk_edges C hK hP hi9 wf_X1_15 dX1_copyFrom_35 ?_
  refine nk_1 C hK hP hi9 dX1_copyFrom_38 ?_
  obtain ⟨hi39, hf⟩ := gd_some hf
  replace hf := lt_e hf
  refine cyK_ce C hK hP hD hS hi9 (by rw [C.2.2.1]; exact hl.1.symm) wy_X1_34 hi39 (Nat.le_of_ble_eq_true rfl) (Nat.le_of_ble_eq_true rfl) dX1_copyFrom_39 (fun H locs hP hD hS => ?_)
  refine lv_aload_n C.1 C.2.1 dX1_copyFrom_42 rfl (lv_at hl 1 rfl) ?_
  refine gc_cv_ports C hK hP wf_X1_19 dX1_copyFrom_43 ?_
  refine lv_iconst (v := (0 : Int32)) C.1 C.2.1 dX1_copyFrom_46 (by decide) ?_
  refine lv_aload_n C.1 C.2.1 dX1_copyFrom_47 rfl (lv_at hl 0 rfl) ?_
  refine gk_ports C hK hP hi9 wf_X1_19 dX1_copyFrom_48 ?_
  refine lv_iconst (v := (0 : Int32)) C.1 C.2.1 dX1_copyFrom_51 (by decide) ?_
  refine lv_aload_n C.1 C.2.1 dX1_copyFrom_52 rfl (lv_at hl 0 rfl) ?_
  refine gk_ports C hK hP hi9 wf_X1_19 dX1_copyFrom_53 ?_
  refine nk_2 C hK hP hi9 dX1_copyFrom_56 ?_
  obtain ⟨hi57, hf⟩ := gd_some hf
  replace hf := lt_e hf
  refine cyK_cq C hK hP hD hS hi9 (by rw [C.2.2.1]; exact hl.1.symm) wy_X1_34 hi57 (Nat.le_of_ble_eq_true rfl) (Nat.le_of_ble_eq_true rfl) dX1_copyFrom_57 (fun H locs hP hD hS => ?_)
  refine lv_iconst (v := (0 : Int32)) C.1 C.2.1 dX1_copyFrom_60 (by decide) ?_
  refine lv_istore_n (lv' := [(2, .int (0 : Int32)), (0, .ref (ad (5 + 4 * i9))), (1, .ref (ad 1))]) C.1 C.2.1 dX1_copyFrom_61 rfl hl (by decide) rfl (fun ls hl => ?_)
  exact hB62 F _ _ _ _ ls _ hx hP hD hS (lv_sub hl [1, 2, 0] rfl) hf
def fc_X1_copyFrom_M_L62_c (F : Nat) (i9 : Nat) (k62 : CSt → Int32 → Option (CSt)) (σ : CSt) (x2 : Int32) : Option (CSt) :=
  if (10 : Int32) ≤ x2 then (some σ) else (gd (ix x2 10 = true) (mo (cs_kr σ i9 x2.toNatClampNeg) (gd (ix x2 10 = true) (lt (cs_cr_s σ (va_up (cs_cr σ) x2.toNatClampNeg none)) (fun σ82 => lt (x2 + (1 : Int32)) (fun x2_83 => k62 σ82 x2_83)))) (fun v81 => gd (ix x2 10 = true) (lt (cs_cr_s σ (va_up (cs_cr σ) x2.toNatClampNeg (some v81))) (fun σ82 => lt (x2 + (1 : Int32)) (fun x2_83 => k62 σ82 x2_83))))))
def fc_X1_copyFrom_M_L62 (F : Nat) (i9 : Nat) (n : Nat) (σ : CSt) (x2 : Int32) : Option (CSt) := lpN (fun (k : CSt × Int32 → Option (CSt)) a => fc_X1_copyFrom_M_L62_c F i9 (fun σ x2 => k (σ, x2)) a.1 a.2) n (σ, x2)
def fc_X1_copyFrom_M (F : Nat) (σ : CSt) (i9 : Nat) : Option (CSt) :=
  lt (cs_cb_s σ (cs_kb σ i9)) (fun σ5 => lt (cs_cc_s σ5 (cs_kc σ5 i9)) (fun σ13 => lt (cs_cp_s σ13 (cs_kp σ13 i9)) (fun σ21 => gd (cpo (0 : Int32) (0 : Int32) (32 : Int32) 32 32 = true) (lt (cs_ce_s σ21 (va_cpy (cs_ke σ21 i9) (cs_ce σ21) (0 : Int32).toNatClampNeg (0 : Int32).toNatClampNeg (32 : Int32).toNatClampNeg)) (fun σ39 => gd (cpo (0 : Int32) (0 : Int32) (60 : Int32) 60 60 = true) (lt (cs_cq_s σ39 (va_cpy (cs_kq σ39 i9) (cs_cq σ39) (0 : Int32).toNatClampNeg (0 : Int32).toNatClampNeg (60 : Int32).toNatClampNeg)) (fun σ57 => fc_X1_copyFrom_M_L62 F i9 F σ57 (0 : Int32))))))))
set_option maxHeartbeats 4000000 in
set_option maxRecDepth 100000 in
theorem kc_X1_copyFrom_M (l : Launch) (D : va_G) (cA : Nat → ClassId) (ad : Nat → Nat) (σ0 : CSt) (η0 : HS) (F : Nat) (i9 : Nat) (hi9 : i9 < 4) (σr : CSt) (hf : fc_X1_copyFrom_M F σ0 i9 = some σr) : KE l D cA ad σ0 η0 yX1_copyFrom cX1_copyFrom 3 none (rmc 1 40 0 0) [.ref (ad 1), .ref (ad (5 + 4 * i9))] none σr := by
  refine KE.of (by decide) (Nat.le_of_ble_eq_true rfl) ?_
  intro p e s m below meth c A hAe hA C hr hlk hK hP hD hS hZ ls hl
  have hx : ext η0 η0 := ext.rf
  have hl : lv_has ls 3 [(0, .ref (ad 1)), (1, .ref (ad (5 + 4 * i9)))] := hl
  have hB62 : ∀ (n62 : Nat) (η : HS) (H : Heap) (locs : List Loc) (σ : CSt) (ls : Array Slot) (x2 : Int32), ext η0 η → HC D cA ad σ η H → va_D A (wC cA ad σ η) → va_S A s.heap H locs → lv_has ls 3 [(0, .ref (ad 1)), (1, .ref (ad (5 + 4 * i9))), (2, .int x2)] → fc_X1_copyFrom_M_L62 F i9 n62 σ x2 = some σr → WE p l e 1 40 0 0 s m [.ref (ad 1), .ref (ad (5 + 4 * i9))] below meth c none D cA ad σ0 η0 σr A H locs 0 0 (F0 m 62 ls []) := by
    intro n62
    induction n62 with
    | zero =>
      intro η H locs σ ls x2 hx hP hD hS hl hf
      cases (show (none : Option _) = _ from hf)
    | succ n62 ih62 =>
      intro η H locs σ ls x2 hx hP hD hS hl hf
      have hf : fc_X1_copyFrom_M_L62_c F i9 (fc_X1_copyFrom_M_L62 F i9 n62) σ x2 = some σr := hf
      unfold fc_X1_copyFrom_M_L62_c at hf
      refine lv_iload_n C.1 C.2.1 dX1_copyFrom_62 rfl (lv_at hl 2 rfl) ?_
      refine lv_aload_n C.1 C.2.1 dX1_copyFrom_63 rfl (lv_at hl 0 rfl) ?_
      refine gc_cv_routes C hK hP wf_X1_24 dX1_copyFrom_64 ?_
      refine nc_cr C hK hP dX1_copyFrom_67 ?_
      refine lv_icmp_ge (tgt := 89) C.1 C.2.1 dX1_copyFrom_68 (by decide) (fun c68 => ?_) (fun c68 => ?_)
      · have hf := br_p c68 hf
        obtain rfl := Option.some.inj hf
        exact KE.vret C hr hlk hK hAe hx hP hD hS (Nat.le_refl _) (Nat.le_refl _) rfl dX1_copyFrom_89
      · have hf := br_n c68 hf
        refine lv_aload_n C.1 C.2.1 dX1_copyFrom_71 rfl (lv_at hl 0 rfl) ?_
        refine gc_cv_routes C hK hP wf_X1_24 dX1_copyFrom_72 ?_
        refine lv_iload_n C.1 C.2.1 dX1_copyFrom_75 rfl (lv_at hl 2 rfl) ?_
        refine lv_aload_n C.1 C.2.1 dX1_copyFrom_76 rfl (lv_at hl 1 rfl) ?_
        refine gk_routes C hK hP hi9 wf_X1_24 dX1_copyFrom_77 ?_
        refine lv_iload_n C.1 C.2.1 dX1_copyFrom_80 rfl (lv_at hl 2 rfl) ?_
        obtain ⟨hi81, hf⟩ := gd_some hf
        refine lr_kr C hK hP hi9 hi81 dX1_copyFrom_81 (fun hn81 => ?_) (fun a81 v81 he81 hv81 => ?_)
        · have hf := mo_n hn81 hf
          obtain ⟨hi82, hf⟩ := gd_some hf
          replace hf := lt_e hf
          refine sr_crn C hK hP hD hS hi82 dX1_copyFrom_82 (fun η H locs hx1 hP hD hS => ?_)
          replace hx := hx.tr hx1
          obtain ⟨x2_83, ex2_83, hf⟩ := lt_some hf
          refine lv_iinc (v := x2_83) (lv' := [(2, .int x2_83), (0, .ref (ad 1)), (1, .ref (ad (5 + 4 * i9)))]) C.1 C.2.1 dX1_copyFrom_83 hl (k := 2) rfl (by rw [ex2_83]; rfl) (by decide) rfl (fun ls hl => ?_)
          refine lv_goto (tgt := 62) C.1 C.2.1 dX1_copyFrom_86 (by decide) ?_
          exact ih62 _ _ _ _ ls _ hx hP hD hS (lv_sub hl [1, 2, 0] rfl) hf
        · have hf := mo_s he81 hf
          obtain ⟨hi82, hf⟩ := gd_some hf
          replace hf := lt_e hf
          refine sr_crs C hK hP hD hS hv81 hi82 dX1_copyFrom_82 (fun η H locs hx1 hP hD hS => ?_)
          replace hx := hx.tr hx1
          obtain ⟨x2_83, ex2_83, hf⟩ := lt_some hf
          refine lv_iinc (v := x2_83) (lv' := [(2, .int x2_83), (0, .ref (ad 1)), (1, .ref (ad (5 + 4 * i9)))]) C.1 C.2.1 dX1_copyFrom_83 hl (k := 2) rfl (by rw [ex2_83]; rfl) (by decide) rfl (fun ls hl => ?_)
          refine lv_goto (tgt := 62) C.1 C.2.1 dX1_copyFrom_86 (by decide) ?_
          exact ih62 _ _ _ _ ls _ hx hP hD hS (lv_sub hl [1, 2, 0] rfl) hf
  unfold fc_X1_copyFrom_M at hf
  refine lv_aload_n C.1 C.2.1 dX1_copyFrom_0 rfl (lv_at hl 0 rfl) ?_
  refine lv_aload_n C.1 C.2.1 dX1_copyFrom_1 rfl (lv_at hl 1 rfl) ?_
  refine gk_boxes C hK hP hi9 wf_X1_28 dX1_copyFrom_2 ?_
  replace hf := lt_e hf
  refine pc_cv_boxes C hK hP hD hS wf_X1_28 dX1_copyFrom_5 (fun H locs hP hD hS => ?_)
  refine lv_aload_n C.1 C.2.1 dX1_copyFrom_8 rfl (lv_at hl 0 rfl) ?_
  refine lv_aload_n C.1 C.2.1 dX1_copyFrom_9 rfl (lv_at hl 1 rfl) ?_
  refine gk_connectors C hK hP hi9 wf_X1_31 dX1_copyFrom_10 ?_
  replace hf := lt_e hf
  refine pc_cv_connectors C hK hP hD hS wf_X1_31 dX1_copyFrom_13 (fun H locs hP hD hS => ?_)
  refine lv_aload_n C.1 C.2.1 dX1_copyFrom_16 rfl (lv_at hl 0 rfl) ?_
  refine lv_aload_n C.1 C.2.1 dX1_copyFrom_17 rfl (lv_at hl 1 rfl) ?_
  refine gk_penalty C hK hP hi9 wf_X1_9 dX1_copyFrom_18 ?_
  replace hf := lt_e hf
  refine pc_cv_penalty C hK hP hD hS wf_X1_9 dX1_copyFrom_21 (fun H locs hP hD hS => ?_)
  refine lv_aload_n C.1 C.2.1 dX1_copyFrom_24 rfl (lv_at hl 1 rfl) ?_
  refine gk_edges C hK hP hi9 wf_X1_15 dX1_copyFrom_25 ?_
  refine lv_iconst (v := (0 : Int32)) C.1 C.2.1 dX1_copyFrom_28 (by decide) ?_
  refine lv_aload_n C.1 C.2.1 dX1_copyFrom_29 rfl (lv_at hl 0 rfl) ?_
  refine gc_cv_edges C hK hP wf_X1_15 dX1_copyFrom_30 ?_
  refine lv_iconst (v := (0 : Int32)) C.1 C.2.1 dX1_copyFrom_33 (by decide) ?_
  refine lv_aload_n C.1 C.2.1 dX1_copyFrom_34 rfl (lv_at hl 0 rfl) ?_
  refine gc_cv_edges C hK hP wf_X1_15 dX1_copyFrom_35 ?_
  refine nc_ce C hK hP dX1_copyFrom_38 ?_
  obtain ⟨hi39, hf⟩ := gd_some hf
  replace hf := lt_e hf
  refine cyM_ce C hK hP hD hS hi9 (by rw [C.2.2.1]; exact hl.1.symm) wy_X1_34 hi39 (Nat.le_of_ble_eq_true rfl) (Nat.le_of_ble_eq_true rfl) dX1_copyFrom_39 (fun H locs hP hD hS => ?_)
  refine lv_aload_n C.1 C.2.1 dX1_copyFrom_42 rfl (lv_at hl 1 rfl) ?_
  refine gk_ports C hK hP hi9 wf_X1_19 dX1_copyFrom_43 ?_
  refine lv_iconst (v := (0 : Int32)) C.1 C.2.1 dX1_copyFrom_46 (by decide) ?_
  refine lv_aload_n C.1 C.2.1 dX1_copyFrom_47 rfl (lv_at hl 0 rfl) ?_
  refine gc_cv_ports C hK hP wf_X1_19 dX1_copyFrom_48 ?_
  refine lv_iconst (v := (0 : Int32)) C.1 C.2.1 dX1_copyFrom_51 (by decide) ?_
  refine lv_aload_n C.1 C.2.1 dX1_copyFrom_52 rfl (lv_at hl 0 rfl) ?_
  refine gc_cv_ports C hK hP wf_X1_19 dX1_copyFrom_53 ?_
  refine nc_cq C hK hP dX1_copyFrom_56 ?_
  obtain ⟨hi57, hf⟩ := gd_some hf
  replace hf := lt_e hf
  refine cyM_cq C hK hP hD hS hi9 (by rw [C.2.2.1]; exact hl.1.symm) wy_X1_34 hi57 (Nat.le_of_ble_eq_true rfl) (Nat.le_of_ble_eq_true rfl) dX1_copyFrom_57 (fun H locs hP hD hS => ?_)
  refine lv_iconst (v := (0 : Int32)) C.1 C.2.1 dX1_copyFrom_60 (by decide) ?_
  refine lv_istore_n (lv' := [(2, .int (0 : Int32)), (0, .ref (ad 1)), (1, .ref (ad (5 + 4 * i9)))]) C.1 C.2.1 dX1_copyFrom_61 rfl hl (by decide) rfl (fun ls hl => ?_)
  exact hB62 F _ _ _ _ ls _ hx hP hD hS (lv_sub hl [1, 2, 0] rfl) hf
def fc_X5_keep_L33 (F : Nat) (σ : CSt) : Option (CSt) :=
  gd (ix ((((cs_ho σ) + (cs_hs σ)) - (1 : Int32)) - (((cs_ho σ) + (cs_hs σ)) - (1 : Int32)) / (4 : Int32) * (4 : Int32)) 4 = true) (bd (fc_X1_copyFrom_K F σ (((((cs_ho σ) + (cs_hs σ)) - (1 : Int32)) - (((cs_ho σ) + (cs_hs σ)) - (1 : Int32)) / (4 : Int32) * (4 : Int32)).toNatClampNeg)) (fun σ52 => some σ52))
def fc_X5_keep (F : Nat) (σ : CSt) : Option (CSt) :=
  if (cs_hs σ) = (4 : Int32) then (lt (cs_ho_s σ (((cs_ho σ) + (1 : Int32)) - ((cs_ho σ) + (1 : Int32)) / (4 : Int32) * (4 : Int32))) (fun σ17 => fc_X5_keep_L33 F σ17)) else (lt (cs_hs_s σ ((cs_hs σ) + (1 : Int32))) (fun σ30 => fc_X5_keep_L33 F σ30))
set_option maxHeartbeats 4000000 in
set_option maxRecDepth 100000 in
theorem kc_X5_keep (l : Launch) (D : va_G) (cA : Nat → ClassId) (ad : Nat → Nat) (σ0 : CSt) (η0 : HS) (F : Nat)  (σr : CSt) (hf : fc_X5_keep F σ0 = some σr) : KE l D cA ad σ0 η0 yX5_keep cX5_keep 2 none (rmc 2 62 0 0) [.ref (ad 21), .ref (ad 1)] none σr := by
  refine KE.of (by decide) (Nat.le_of_ble_eq_true rfl) ?_
  intro p e s m below meth c A hAe hA C hr hlk hK hP hD hS hZ ls hl
  have hx : ext η0 η0 := ext.rf
  have hl : lv_has ls 2 [(0, .ref (ad 21)), (1, .ref (ad 1))] := hl
  have hB33 : ∀ (η : HS) (H : Heap) (locs : List Loc) (σ : CSt) (ls : Array Slot), ext η0 η → HC D cA ad σ η H → va_D A (wC cA ad σ η) → va_S A s.heap H locs → lv_has ls 2 [(0, .ref (ad 21)), (1, .ref (ad 1))] → fc_X5_keep_L33 F σ = some σr → WE p l e 2 62 0 0 s m [.ref (ad 21), .ref (ad 1)] below meth c none D cA ad σ0 η0 σr A H locs 0 0 (F0 m 33 ls []) := by
    intro η H locs σ ls hx hP hD hS hl hf
    unfold fc_X5_keep_L33 at hf
    refine lv_aload_n C.1 C.2.1 dX5_keep_33 rfl (lv_at hl 0 rfl) ?_
    refine gc_hi_kept C hK hP wf_X5_11 dX5_keep_34 ?_
    refine lv_aload_n C.1 C.2.1 dX5_keep_37 rfl (lv_at hl 0 rfl) ?_
    refine gc_hi_oldest C hK hP wf_X5_20 dX5_keep_38 ?_
    refine lv_aload_n C.1 C.2.1 dX5_keep_41 rfl (lv_at hl 0 rfl) ?_
    refine gc_hi_size C hK hP wf_X5_16 dX5_keep_42 ?_
    refine lv_iadd C.1 C.2.1 dX5_keep_45 ?_
    refine lv_iconst (v := (1 : Int32)) C.1 C.2.1 dX5_keep_46 (by decide) ?_
    refine lv_isub C.1 C.2.1 dX5_keep_47 ?_
    refine lv_iconst (v := (4 : Int32)) C.1 C.2.1 dX5_keep_48 (by decide) ?_
    refine lv_irem C.1 C.2.1 dX5_keep_49 (by decide) ?_
    obtain ⟨hi50, hf⟩ := gd_some hf
    refine lk_kept C hK hP hi50 dX5_keep_50 (fun h450 => ?_)
    refine lv_aload_n C.1 C.2.1 dX5_keep_51 rfl (lv_at hl 1 rfl) ?_
    obtain ⟨σ52, hc52, hf⟩ := bd_some hf
    refine callEV (As := [_]) C hK hP hD hA hS hZ wv_X5_23 hl (kc_X1_copyFrom_K l D cA ad _ _ F _ h450 σ52 hc52) (rcK h450 hK hP) rfl rfl rfl (Nat.le_of_ble_eq_true rfl) ⟨Nat.le_refl _, Nat.le_refl _⟩ dX5_keep_52 (fun η H locs hx1 hP hD hS => ?_)
    replace hx := hx.tr hx1
    obtain rfl := Option.some.inj hf
    exact KE.vret C hr hlk hK hAe hx hP hD hS (Nat.le_refl _) (Nat.le_refl _) rfl dX5_keep_55
  unfold fc_X5_keep at hf
  refine lv_aload_n C.1 C.2.1 dX5_keep_0 rfl (lv_at hl 0 rfl) ?_
  refine gc_hi_size C hK hP wf_X5_16 dX5_keep_1 ?_
  refine lv_iconst (v := (4 : Int32)) C.1 C.2.1 dX5_keep_4 (by decide) ?_
  refine lv_icmp_ne (tgt := 23) C.1 C.2.1 dX5_keep_5 (by decide) (fun c5 => ?_) (fun c5 => ?_)
  · have hf := br_n c5 hf
    refine lv_aload_n C.1 C.2.1 dX5_keep_23 rfl (lv_at hl 0 rfl) ?_
    refine lv_dup C.1 C.2.1 dX5_keep_24 rfl ?_
    refine gc_hi_size C hK hP wf_X5_16 dX5_keep_25 ?_
    refine lv_iconst (v := (1 : Int32)) C.1 C.2.1 dX5_keep_28 (by decide) ?_
    refine lv_iadd C.1 C.2.1 dX5_keep_29 ?_
    replace hf := lt_e hf
    refine pc_hi_size C hK hP hD hS wf_X5_16 dX5_keep_30 (fun H locs hP hD hS => ?_)
    exact hB33 _ _ _ _ ls hx hP hD hS (lv_sub hl [0, 1] rfl) hf
  · have hf := br_p c5 hf
    refine lv_aload_n C.1 C.2.1 dX5_keep_8 rfl (lv_at hl 0 rfl) ?_
    refine lv_aload_n C.1 C.2.1 dX5_keep_9 rfl (lv_at hl 0 rfl) ?_
    refine gc_hi_oldest C hK hP wf_X5_20 dX5_keep_10 ?_
    refine lv_iconst (v := (1 : Int32)) C.1 C.2.1 dX5_keep_13 (by decide) ?_
    refine lv_iadd C.1 C.2.1 dX5_keep_14 ?_
    refine lv_iconst (v := (4 : Int32)) C.1 C.2.1 dX5_keep_15 (by decide) ?_
    refine lv_irem C.1 C.2.1 dX5_keep_16 (by decide) ?_
    replace hf := lt_e hf
    refine pc_hi_oldest C hK hP hD hS wf_X5_20 dX5_keep_17 (fun H locs hP hD hS => ?_)
    refine lv_goto (tgt := 33) C.1 C.2.1 dX5_keep_20 (by decide) ?_
    exact hB33 _ _ _ _ ls hx hP hD hS (lv_sub hl [0, 1] rfl) hf
def fc_X9_remember_L18 (F : Nat) (σ : CSt) : Option (CSt) :=
  some σ
def fc_X9_remember (F : Nat) (σ : CSt) : Option (CSt) :=
  if (cs_run σ) = 0 then (bd (fc_X5_keep F σ) (fun σ15 => fc_X9_remember_L18 F σ15)) else (fc_X9_remember_L18 F σ)
set_option maxHeartbeats 4000000 in
set_option maxRecDepth 100000 in
theorem kc_X9_remember (l : Launch) (D : va_G) (cA : Nat → ClassId) (ad : Nat → Nat) (σ0 : CSt) (η0 : HS) (F : Nat)  (σr : CSt) (hf : fc_X9_remember F σ0 = some σr) : KE l D cA ad σ0 η0 yX9_remember cX9_remember 1 none (rmc 3 83 0 0) [.ref (ad 0)] none σr := by
  refine KE.of (by decide) (Nat.le_of_ble_eq_true rfl) ?_
  intro p e s m below meth c A hAe hA C hr hlk hK hP hD hS hZ ls hl
  have hx : ext η0 η0 := ext.rf
  have hl : lv_has ls 1 [(0, .ref (ad 0))] := hl
  have hB18 : ∀ (η : HS) (H : Heap) (locs : List Loc) (σ : CSt) (ls : Array Slot), ext η0 η → HC D cA ad σ η H → va_D A (wC cA ad σ η) → va_S A s.heap H locs → lv_has ls 1 [] → fc_X9_remember_L18 F σ = some σr → WE p l e 3 83 0 0 s m [.ref (ad 0)] below meth c none D cA ad σ0 η0 σr A H locs 0 0 (F0 m 18 ls []) := by
    intro η H locs σ ls hx hP hD hS hl hf
    unfold fc_X9_remember_L18 at hf
    obtain rfl := Option.some.inj hf
    exact KE.vret C hr hlk hK hAe hx hP hD hS (Nat.le_refl _) (Nat.le_refl _) rfl dX9_remember_18
  unfold fc_X9_remember at hf
  refine lv_aload_n C.1 C.2.1 dX9_remember_0 rfl (lv_at hl 0 rfl) ?_
  refine gc_R_running C hK hP wf_X9_231 dX9_remember_1 ?_
  refine lv_if_ne (tgt := 18) C.1 C.2.1 dX9_remember_4 (by decide) (fun c4 => ?_) (fun c4 => ?_)
  · have hf := br_n c4 hf
    exact hB18 _ _ _ _ ls hx hP hD hS (lv_sub hl [] rfl) hf
  · have hf := br_p c4 hf
    refine lv_aload_n C.1 C.2.1 dX9_remember_7 rfl (lv_at hl 0 rfl) ?_
    refine gc_R_history C hK hP wf_X9_19 dX9_remember_8 ?_
    refine lv_aload_n C.1 C.2.1 dX9_remember_11 rfl (lv_at hl 0 rfl) ?_
    refine gc_R_canvas C hK hP wf_X9_10 dX9_remember_12 ?_
    obtain ⟨σ15, hc15, hf⟩ := bd_some hf
    refine callEV (As := [_]) C hK hP hD hA hS hZ wv_X9_270 hl (kc_X5_keep l D cA ad _ _ F   σ15 hc15) (rcC 21 5 hK hP rfl rfl) rfl rfl rfl (Nat.le_of_ble_eq_true rfl) ⟨Nat.le_refl _, Nat.le_refl _⟩ dX9_remember_15 (fun η H locs hx1 hP hD hS => ?_)
    replace hx := hx.tr hx1
    exact hB18 _ _ _ _ ls hx hP hD hS (lv_sub hl [] rfl) hf
def fc_X9_addBox (F : Nat) (σ : CSt) (x1 : Int32) (x2 : Int32) (x3 : Int32) (x4 : Int32) : Option (Int32 × CSt) :=
  bd (fc_X1_isSound F σ x1 x2 x3 x4) (fun r5 => if r5 = 0 then (some ((-1002 : Int32), σ)) else (bd (fc_X1_isTooNear F σ (-1 : Int32) x1 x2 x3 x4) (fun r25 => if r25 = 0 then (if (cs_cb σ) < (8 : Int32) then (bd (fc_X9_remember F σ) (fun σ52 => lt (cs_cb σ52) (fun x5_62 => lt (cs_cb_s σ52 ((cs_cb σ52) + (1 : Int32))) (fun σ74 => bd (fc_X1_putBox F σ74 x5_62 x1 x2 x3 x4) (fun σ88 => some (x5_62, σ88)))))) else (some ((-1004 : Int32), σ))) else (some ((-1003 : Int32), σ)))))
set_option maxHeartbeats 4000000 in
set_option maxRecDepth 100000 in
theorem kc_X9_addBox (l : Launch) (D : va_G) (cA : Nat → ClassId) (ad : Nat → Nat) (σ0 : CSt) (η0 : HS) (F : Nat) (z1 : Int32) (z2 : Int32) (z3 : Int32) (z4 : Int32) (r : Int32) (σr : CSt) (hf : fc_X9_addBox F σ0 z1 z2 z3 z4 = some (r, σr)) : KE l D cA ad σ0 η0 yX9_addBox cX9_addBox 6 (some .int) (rmc 4 103 0 0) [.ref (ad 0), .int z1, .int z2, .int z3, .int z4] (some (.int r)) σr := by
  refine KE.of (by decide) (Nat.le_of_ble_eq_true rfl) ?_
  intro p e s m below meth c A hAe hA C hr hlk hK hP hD hS hZ ls hl
  have hx : ext η0 η0 := ext.rf
  have hl : lv_has ls 6 [(0, .ref (ad 0)), (1, .int z1), (2, .int z2), (3, .int z3), (4, .int z4)] := hl
  unfold fc_X9_addBox at hf
  refine lv_iload_n C.1 C.2.1 dX9_addBox_0 rfl (lv_at hl 1 rfl) ?_
  refine lv_iload_n C.1 C.2.1 dX9_addBox_1 rfl (lv_at hl 2 rfl) ?_
  refine lv_iload_n C.1 C.2.1 dX9_addBox_2 rfl (lv_at hl 3 rfl) ?_
  refine lv_iload C.1 C.2.1 dX9_addBox_3 (lv_at hl 4 rfl) ?_
  obtain ⟨r5, hc5, hf⟩ := bd_some hf
  refine cV_go (runRSc (As := [_, _, _, _]) C hK hP hZ hS wv_X9_51 hl (kc_X1_isSound l D cA ad _ _ F _ _ _ _  r5 hc5) rfl rfl rfl (Nat.le_of_ble_eq_true rfl) ⟨Nat.le_refl _, Nat.le_refl _⟩ dX9_addBox_5) ?_
  refine lv_if_ne (tgt := 15) C.1 C.2.1 dX9_addBox_8 (by decide) (fun c8 => ?_) (fun c8 => ?_)
  · have hf := br_n c8 hf
    refine lv_aload_n C.1 C.2.1 dX9_addBox_15 rfl (lv_at hl 0 rfl) ?_
    refine gc_R_canvas C hK hP wf_X9_10 dX9_addBox_16 ?_
    refine lv_iconst (v := (-1 : Int32)) C.1 C.2.1 dX9_addBox_19 (by decide) ?_
    refine lv_iload_n C.1 C.2.1 dX9_addBox_20 rfl (lv_at hl 1 rfl) ?_
    refine lv_iload_n C.1 C.2.1 dX9_addBox_21 rfl (lv_at hl 2 rfl) ?_
    refine lv_iload_n C.1 C.2.1 dX9_addBox_22 rfl (lv_at hl 3 rfl) ?_
    refine lv_iload C.1 C.2.1 dX9_addBox_23 (lv_at hl 4 rfl) ?_
    obtain ⟨r25, hc25, hf⟩ := bd_some hf
    refine cV_go (runRVc (As := [_, _, _, _, _]) C hK hP hZ hS wv_X9_55 hl (kc_X1_isTooNear l D cA ad _ _ F _ _ _ _ _  r25 hc25) (rcC 1 2 hK hP rfl rfl) rfl rfl rfl (Nat.le_of_ble_eq_true rfl) ⟨Nat.le_refl _, Nat.le_refl _⟩ dX9_addBox_25) ?_
    refine lv_if_eq (tgt := 35) C.1 C.2.1 dX9_addBox_28 (by decide) (fun c28 => ?_) (fun c28 => ?_)
    · have hf := br_p c28 hf
      refine lv_aload_n C.1 C.2.1 dX9_addBox_35 rfl (lv_at hl 0 rfl) ?_
      refine gc_R_canvas C hK hP wf_X9_10 dX9_addBox_36 ?_
      refine gc_cv_boxes C hK hP wf_X9_59 dX9_addBox_39 ?_
      refine lv_bipush (v := (8 : Int32)) C.1 C.2.1 dX9_addBox_42 (by decide) ?_
      refine lv_icmp_lt (tgt := 51) C.1 C.2.1 dX9_addBox_44 (by decide) (fun c44 => ?_) (fun c44 => ?_)
      · have hf := br_p c44 hf
        refine lv_aload_n C.1 C.2.1 dX9_addBox_51 rfl (lv_at hl 0 rfl) ?_
        obtain ⟨σ52, hc52, hf⟩ := bd_some hf
        refine callEV (As := []) C hK hP hD hA hS hZ wv_X9_63 hl (kc_X9_remember l D cA ad _ _ F   σ52 hc52) (rcC 0 9 hK hP rfl rfl) rfl rfl rfl (Nat.le_of_ble_eq_true rfl) ⟨Nat.le_refl _, Nat.le_refl _⟩ dX9_addBox_52 (fun η H locs hx1 hP hD hS => ?_)
        replace hx := hx.tr hx1
        refine lv_aload_n C.1 C.2.1 dX9_addBox_55 rfl (lv_at hl 0 rfl) ?_
        refine gc_R_canvas C hK hP wf_X9_10 dX9_addBox_56 ?_
        refine gc_cv_boxes C hK hP wf_X9_59 dX9_addBox_59 ?_
        obtain ⟨x5_62, ex5_62, hf⟩ := lt_some hf
        refine lv_tope ex5_62 ?_
        refine lv_istore (lv' := [(5, .int x5_62), (0, .ref (ad 0)), (1, .int z1), (2, .int z2), (3, .int z3), (4, .int z4)]) C.1 C.2.1 dX9_addBox_62 hl (by decide) rfl (fun ls hl => ?_)
        refine lv_aload_n C.1 C.2.1 dX9_addBox_64 rfl (lv_at hl 1 rfl) ?_
        refine gc_R_canvas C hK hP wf_X9_10 dX9_addBox_65 ?_
        refine lv_dup C.1 C.2.1 dX9_addBox_68 rfl ?_
        refine gc_cv_boxes C hK hP wf_X9_59 dX9_addBox_69 ?_
        refine lv_iconst (v := (1 : Int32)) C.1 C.2.1 dX9_addBox_72 (by decide) ?_
        refine lv_iadd C.1 C.2.1 dX9_addBox_73 ?_
        replace hf := lt_e hf
        refine pc_cv_boxes C hK hP hD hS wf_X9_59 dX9_addBox_74 (fun H locs hP hD hS => ?_)
        refine lv_aload_n C.1 C.2.1 dX9_addBox_77 rfl (lv_at hl 1 rfl) ?_
        refine gc_R_canvas C hK hP wf_X9_10 dX9_addBox_78 ?_
        refine lv_iload C.1 C.2.1 dX9_addBox_81 (lv_at hl 0 rfl) ?_
        refine lv_iload_n C.1 C.2.1 dX9_addBox_83 rfl (lv_at hl 2 rfl) ?_
        refine lv_iload_n C.1 C.2.1 dX9_addBox_84 rfl (lv_at hl 3 rfl) ?_
        refine lv_iload_n C.1 C.2.1 dX9_addBox_85 rfl (lv_at hl 4 rfl) ?_
        refine lv_iload C.1 C.2.1 dX9_addBox_86 (lv_at hl 5 rfl) ?_
        obtain ⟨σ88, hc88, hf⟩ := bd_some hf
        refine callCV (As := [_, _, _, _, _]) C hK hP hD hA hS hZ wv_X9_66 hl (kc_X1_putBox l D cA ad _ _ F _ _ _ _ _  σ88 hc88) (rcC 1 2 hK hP rfl rfl) rfl rfl rfl (Nat.le_of_ble_eq_true rfl) ⟨Nat.le_refl _, Nat.le_refl _⟩ dX9_addBox_88 (fun H locs hP hD hS => ?_)
        refine lv_iload C.1 C.2.1 dX9_addBox_91 (lv_at hl 0 rfl) ?_
        obtain ⟨rfl, rfl⟩ := Prod.mk.inj (Option.some.inj hf)
        exact KE.iret C hr hlk hK hAe hx hP hD hS (Nat.le_refl _) (Nat.le_refl _) rfl dX9_addBox_93
      · have hf := br_n c44 hf
        refine lv_sipush (v := (-1004 : Int32)) C.1 C.2.1 dX9_addBox_47 (by decide) ?_
        obtain ⟨rfl, rfl⟩ := Prod.mk.inj (Option.some.inj hf)
        exact KE.iret C hr hlk hK hAe hx hP hD hS (Nat.le_refl _) (Nat.le_refl _) rfl dX9_addBox_50
    · have hf := br_n c28 hf
      refine lv_sipush (v := (-1003 : Int32)) C.1 C.2.1 dX9_addBox_31 (by decide) ?_
      obtain ⟨rfl, rfl⟩ := Prod.mk.inj (Option.some.inj hf)
      exact KE.iret C hr hlk hK hAe hx hP hD hS (Nat.le_refl _) (Nat.le_refl _) rfl dX9_addBox_34
  · have hf := br_p c8 hf
    refine lv_sipush (v := (-1002 : Int32)) C.1 C.2.1 dX9_addBox_11 (by decide) ?_
    obtain ⟨rfl, rfl⟩ := Prod.mk.inj (Option.some.inj hf)
    exact KE.iret C hr hlk hK hAe hx hP hD hS (Nat.le_refl _) (Nat.le_refl _) rfl dX9_addBox_14
def fc_X9_moveBox_L37 (F : Nat) (σ : CSt) : Option (Int32 × CSt) :=
  some ((-1002 : Int32), σ)
def fc_X9_moveBox (F : Nat) (σ : CSt) (x1 : Int32) (x2 : Int32) (x3 : Int32) : Option (Int32 × CSt) :=
  bd (fc_X1_hasBox F σ x1) (fun r5 => if r5 = 0 then (some ((-1001 : Int32), σ)) else (bd (fc_X9_isWithin F σ x2 (-99 : Int32) (99 : Int32)) (fun r20 => if r20 = 0 then (fc_X9_moveBox_L37 F σ) else (bd (fc_X9_isWithin F σ x3 (-99 : Int32) (99 : Int32)) (fun r31 => if r31 = 0 then (fc_X9_moveBox_L37 F σ) else (bd (fc_X1_edge F σ x1 (0 : Int32)) (fun r47 => lt (r47 + x2) (fun x4_52 => bd (fc_X1_edge F σ x1 (1 : Int32)) (fun r60 => lt (r60 + x3) (fun x5_65 => bd (fc_X1_edge F σ x1 (2 : Int32)) (fun r73 => lt (r73 + x2) (fun x6_78 => bd (fc_X1_edge F σ x1 (3 : Int32)) (fun r86 => lt (r86 + x3) (fun x7_91 => bd (fc_X1_isSound F σ x4_52 x5_65 x6_78 x7_91) (fun r101 => if r101 = 0 then (some ((-1002 : Int32), σ)) else (bd (fc_X1_isTooNear F σ x1 x4_52 x5_65 x6_78 x7_91) (fun r124 => if r124 = 0 then (bd (fc_X9_remember F σ) (fun σ135 => bd (fc_X1_putBox F σ135 x1 x4_52 x5_65 x6_78 x7_91) (fun σ151 => bd (fc_X1_touchedConnectors F σ151) (fun r158 => bd (fc_X1_connectorsWithoutRoute F σ151) (fun r165 => some ((r158 - r165), σ151)))))) else (some ((-1003 : Int32), σ)))))))))))))))))))
set_option maxHeartbeats 4000000 in
set_option maxRecDepth 100000 in
theorem kc_X9_moveBox (l : Launch) (D : va_G) (cA : Nat → ClassId) (ad : Nat → Nat) (σ0 : CSt) (η0 : HS) (F : Nat) (z1 : Int32) (z2 : Int32) (z3 : Int32) (r : Int32) (σr : CSt) (hf : fc_X9_moveBox F σ0 z1 z2 z3 = some (r, σr)) : KE l D cA ad σ0 η0 yX9_moveBox cX9_moveBox 8 (some .int) (rmc 5 117 0 0) [.ref (ad 0), .int z1, .int z2, .int z3] (some (.int r)) σr := by
  refine KE.of (by decide) (Nat.le_of_ble_eq_true rfl) ?_
  intro p e s m below meth c A hAe hA C hr hlk hK hP hD hS hZ ls hl
  have hx : ext η0 η0 := ext.rf
  have hl : lv_has ls 8 [(0, .ref (ad 0)), (1, .int z1), (2, .int z2), (3, .int z3)] := hl
  have hB37 : ∀ (η : HS) (H : Heap) (locs : List Loc) (σ : CSt) (ls : Array Slot), ext η0 η → HC D cA ad σ η H → va_D A (wC cA ad σ η) → va_S A s.heap H locs → lv_has ls 8 [] → fc_X9_moveBox_L37 F σ = some (r, σr) → WE p l e 5 117 0 0 s m [.ref (ad 0), .int z1, .int z2, .int z3] below meth c (some (.int r)) D cA ad σ0 η0 σr A H locs 0 0 (F0 m 37 ls []) := by
    intro η H locs σ ls hx hP hD hS hl hf
    unfold fc_X9_moveBox_L37 at hf
    refine lv_sipush (v := (-1002 : Int32)) C.1 C.2.1 dX9_moveBox_37 (by decide) ?_
    obtain ⟨rfl, rfl⟩ := Prod.mk.inj (Option.some.inj hf)
    exact KE.iret C hr hlk hK hAe hx hP hD hS (Nat.le_refl _) (Nat.le_refl _) rfl dX9_moveBox_40
  unfold fc_X9_moveBox at hf
  refine lv_aload_n C.1 C.2.1 dX9_moveBox_0 rfl (lv_at hl 0 rfl) ?_
  refine gc_R_canvas C hK hP wf_X9_10 dX9_moveBox_1 ?_
  refine lv_iload_n C.1 C.2.1 dX9_moveBox_4 rfl (lv_at hl 1 rfl) ?_
  obtain ⟨r5, hc5, hf⟩ := bd_some hf
  refine cV_go (runRVc (As := [_]) C hK hP hZ hS wv_X9_70 hl (kc_X1_hasBox l D cA ad _ _ F _  r5 hc5) (rcC 1 2 hK hP rfl rfl) rfl rfl rfl (Nat.le_of_ble_eq_true rfl) ⟨Nat.le_refl _, Nat.le_refl _⟩ dX9_moveBox_5) ?_
  refine lv_if_ne (tgt := 15) C.1 C.2.1 dX9_moveBox_8 (by decide) (fun c8 => ?_) (fun c8 => ?_)
  · have hf := br_n c8 hf
    refine lv_iload_n C.1 C.2.1 dX9_moveBox_15 rfl (lv_at hl 2 rfl) ?_
    refine lv_bipush (v := (-99 : Int32)) C.1 C.2.1 dX9_moveBox_16 (by decide) ?_
    refine lv_bipush (v := (99 : Int32)) C.1 C.2.1 dX9_moveBox_18 (by decide) ?_
    obtain ⟨r20, hc20, hf⟩ := bd_some hf
    refine cV_go (runRSc (As := [_, _, _]) C hK hP hZ hS wv_X9_74 hl (kc_X9_isWithin l D cA ad _ _ F _ _ _  r20 hc20) rfl rfl rfl (Nat.le_of_ble_eq_true rfl) ⟨Nat.le_refl _, Nat.le_refl _⟩ dX9_moveBox_20) ?_
    refine lv_if_eq (tgt := 37) C.1 C.2.1 dX9_moveBox_23 (by decide) (fun c23 => ?_) (fun c23 => ?_)
    · have hf := br_p c23 hf
      exact hB37 _ _ _ _ ls hx hP hD hS (lv_sub hl [] rfl) hf
    · have hf := br_n c23 hf
      refine lv_iload_n C.1 C.2.1 dX9_moveBox_26 rfl (lv_at hl 3 rfl) ?_
      refine lv_bipush (v := (-99 : Int32)) C.1 C.2.1 dX9_moveBox_27 (by decide) ?_
      refine lv_bipush (v := (99 : Int32)) C.1 C.2.1 dX9_moveBox_29 (by decide) ?_
      obtain ⟨r31, hc31, hf⟩ := bd_some hf
      refine cV_go (runRSc (As := [_, _, _]) C hK hP hZ hS wv_X9_74 hl (kc_X9_isWithin l D cA ad _ _ F _ _ _  r31 hc31) rfl rfl rfl (Nat.le_of_ble_eq_true rfl) ⟨Nat.le_refl _, Nat.le_refl _⟩ dX9_moveBox_31) ?_
      refine lv_if_ne (tgt := 41) C.1 C.2.1 dX9_moveBox_34 (by decide) (fun c34 => ?_) (fun c34 => ?_)
      · have hf := br_n c34 hf
        refine lv_aload_n C.1 C.2.1 dX9_moveBox_41 rfl (lv_at hl 0 rfl) ?_
        refine gc_R_canvas C hK hP wf_X9_10 dX9_moveBox_42 ?_
        refine lv_iload_n C.1 C.2.1 dX9_moveBox_45 rfl (lv_at hl 1 rfl) ?_
        refine lv_iconst (v := (0 : Int32)) C.1 C.2.1 dX9_moveBox_46 (by decide) ?_
        obtain ⟨r47, hc47, hf⟩ := bd_some hf
        refine cV_go (runRVc (As := [_, _]) C hK hP hZ hS wv_X9_78 hl (kc_X1_edge l D cA ad _ _ F _ _  r47 hc47) (rcC 1 2 hK hP rfl rfl) rfl rfl rfl (Nat.le_of_ble_eq_true rfl) ⟨Nat.le_refl _, Nat.le_refl _⟩ dX9_moveBox_47) ?_
        refine lv_iload_n C.1 C.2.1 dX9_moveBox_50 rfl (lv_at hl 2 rfl) ?_
        refine lv_iadd C.1 C.2.1 dX9_moveBox_51 ?_
        obtain ⟨x4_52, ex4_52, hf⟩ := lt_some hf
        refine lv_tope ex4_52 ?_
        refine lv_istore (lv' := [(4, .int x4_52), (0, .ref (ad 0)), (1, .int z1), (2, .int z2), (3, .int z3)]) C.1 C.2.1 dX9_moveBox_52 hl (by decide) rfl (fun ls hl => ?_)
        refine lv_aload_n C.1 C.2.1 dX9_moveBox_54 rfl (lv_at hl 1 rfl) ?_
        refine gc_R_canvas C hK hP wf_X9_10 dX9_moveBox_55 ?_
        refine lv_iload_n C.1 C.2.1 dX9_moveBox_58 rfl (lv_at hl 2 rfl) ?_
        refine lv_iconst (v := (1 : Int32)) C.1 C.2.1 dX9_moveBox_59 (by decide) ?_
        obtain ⟨r60, hc60, hf⟩ := bd_some hf
        refine cV_go (runRVc (As := [_, _]) C hK hP hZ hS wv_X9_78 hl (kc_X1_edge l D cA ad _ _ F _ _  r60 hc60) (rcC 1 2 hK hP rfl rfl) rfl rfl rfl (Nat.le_of_ble_eq_true rfl) ⟨Nat.le_refl _, Nat.le_refl _⟩ dX9_moveBox_60) ?_
        refine lv_iload_n C.1 C.2.1 dX9_moveBox_63 rfl (lv_at hl 4 rfl) ?_
        refine lv_iadd C.1 C.2.1 dX9_moveBox_64 ?_
        obtain ⟨x5_65, ex5_65, hf⟩ := lt_some hf
        refine lv_tope ex5_65 ?_
        refine lv_istore (lv' := [(5, .int x5_65), (4, .int x4_52), (0, .ref (ad 0)), (1, .int z1), (2, .int z2), (3, .int z3)]) C.1 C.2.1 dX9_moveBox_65 hl (by decide) rfl (fun ls hl => ?_)
        refine lv_aload_n C.1 C.2.1 dX9_moveBox_67 rfl (lv_at hl 2 rfl) ?_
        refine gc_R_canvas C hK hP wf_X9_10 dX9_moveBox_68 ?_
        refine lv_iload_n C.1 C.2.1 dX9_moveBox_71 rfl (lv_at hl 3 rfl) ?_
        refine lv_iconst (v := (2 : Int32)) C.1 C.2.1 dX9_moveBox_72 (by decide) ?_
        obtain ⟨r73, hc73, hf⟩ := bd_some hf
        refine cV_go (runRVc (As := [_, _]) C hK hP hZ hS wv_X9_78 hl (kc_X1_edge l D cA ad _ _ F _ _  r73 hc73) (rcC 1 2 hK hP rfl rfl) rfl rfl rfl (Nat.le_of_ble_eq_true rfl) ⟨Nat.le_refl _, Nat.le_refl _⟩ dX9_moveBox_73) ?_
        refine lv_iload_n C.1 C.2.1 dX9_moveBox_76 rfl (lv_at hl 4 rfl) ?_
        refine lv_iadd C.1 C.2.1 dX9_moveBox_77 ?_
        obtain ⟨x6_78, ex6_78, hf⟩ := lt_some hf
        refine lv_tope ex6_78 ?_
        refine lv_istore (lv' := [(6, .int x6_78), (5, .int x5_65), (4, .int x4_52), (0, .ref (ad 0)), (1, .int z1), (2, .int z2), (3, .int z3)]) C.1 C.2.1 dX9_moveBox_78 hl (by decide) rfl (fun ls hl => ?_)
        refine lv_aload_n C.1 C.2.1 dX9_moveBox_80 rfl (lv_at hl 3 rfl) ?_
        refine gc_R_canvas C hK hP wf_X9_10 dX9_moveBox_81 ?_
        refine lv_iload_n C.1 C.2.1 dX9_moveBox_84 rfl (lv_at hl 4 rfl) ?_
        refine lv_iconst (v := (3 : Int32)) C.1 C.2.1 dX9_moveBox_85 (by decide) ?_
        obtain ⟨r86, hc86, hf⟩ := bd_some hf
        refine cV_go (runRVc (As := [_, _]) C hK hP hZ hS wv_X9_78 hl (kc_X1_edge l D cA ad _ _ F _ _  r86 hc86) (rcC 1 2 hK hP rfl rfl) rfl rfl rfl (Nat.le_of_ble_eq_true rfl) ⟨Nat.le_refl _, Nat.le_refl _⟩ dX9_moveBox_86) ?_
        refine lv_iload_n C.1 C.2.1 dX9_moveBox_89 rfl (lv_at hl 6 rfl) ?_
        refine lv_iadd C.1 C.2.1 dX9_moveBox_90 ?_
        obtain ⟨x7_91, ex7_91, hf⟩ := lt_some hf
        refine lv_tope ex7_91 ?_
        refine lv_istore (lv' := [(7, .int x7_91), (6, .int x6_78), (5, .int x5_65), (4, .int x4_52), (0, .ref (ad 0)), (1, .int z1), (2, .int z2), (3, .int z3)]) C.1 C.2.1 dX9_moveBox_91 hl (by decide) rfl (fun ls hl => ?_)
        refine lv_iload C.1 C.2.1 dX9_moveBox_93 (lv_at hl 3 rfl) ?_
        refine lv_iload C.1 C.2.1 dX9_moveBox_95 (lv_at hl 2 rfl) ?_
        refine lv_iload C.1 C.2.1 dX9_moveBox_97 (lv_at hl 1 rfl) ?_
        refine lv_iload C.1 C.2.1 dX9_moveBox_99 (lv_at hl 0 rfl) ?_
        obtain ⟨r101, hc101, hf⟩ := bd_some hf
        refine cV_go (runRSc (As := [_, _, _, _]) C hK hP hZ hS wv_X9_51 hl (kc_X1_isSound l D cA ad _ _ F _ _ _ _  r101 hc101) rfl rfl rfl (Nat.le_of_ble_eq_true rfl) ⟨Nat.le_refl _, Nat.le_refl _⟩ dX9_moveBox_101) ?_
        refine lv_if_ne (tgt := 111) C.1 C.2.1 dX9_moveBox_104 (by decide) (fun c104 => ?_) (fun c104 => ?_)
        · have hf := br_n c104 hf
          refine lv_aload_n C.1 C.2.1 dX9_moveBox_111 rfl (lv_at hl 4 rfl) ?_
          refine gc_R_canvas C hK hP wf_X9_10 dX9_moveBox_112 ?_
          refine lv_iload_n C.1 C.2.1 dX9_moveBox_115 rfl (lv_at hl 5 rfl) ?_
          refine lv_iload C.1 C.2.1 dX9_moveBox_116 (lv_at hl 3 rfl) ?_
          refine lv_iload C.1 C.2.1 dX9_moveBox_118 (lv_at hl 2 rfl) ?_
          refine lv_iload C.1 C.2.1 dX9_moveBox_120 (lv_at hl 1 rfl) ?_
          refine lv_iload C.1 C.2.1 dX9_moveBox_122 (lv_at hl 0 rfl) ?_
          obtain ⟨r124, hc124, hf⟩ := bd_some hf
          refine cV_go (runRVc (As := [_, _, _, _, _]) C hK hP hZ hS wv_X9_55 hl (kc_X1_isTooNear l D cA ad _ _ F _ _ _ _ _  r124 hc124) (rcC 1 2 hK hP rfl rfl) rfl rfl rfl (Nat.le_of_ble_eq_true rfl) ⟨Nat.le_refl _, Nat.le_refl _⟩ dX9_moveBox_124) ?_
          refine lv_if_eq (tgt := 134) C.1 C.2.1 dX9_moveBox_127 (by decide) (fun c127 => ?_) (fun c127 => ?_)
          · have hf := br_p c127 hf
            refine lv_aload_n C.1 C.2.1 dX9_moveBox_134 rfl (lv_at hl 4 rfl) ?_
            obtain ⟨σ135, hc135, hf⟩ := bd_some hf
            refine callEV (As := []) C hK hP hD hA hS hZ wv_X9_63 hl (kc_X9_remember l D cA ad _ _ F   σ135 hc135) (rcC 0 9 hK hP rfl rfl) rfl rfl rfl (Nat.le_of_ble_eq_true rfl) ⟨Nat.le_refl _, Nat.le_refl _⟩ dX9_moveBox_135 (fun η H locs hx1 hP hD hS => ?_)
            replace hx := hx.tr hx1
            refine lv_aload_n C.1 C.2.1 dX9_moveBox_138 rfl (lv_at hl 4 rfl) ?_
            refine gc_R_canvas C hK hP wf_X9_10 dX9_moveBox_139 ?_
            refine lv_iload_n C.1 C.2.1 dX9_moveBox_142 rfl (lv_at hl 5 rfl) ?_
            refine lv_iload C.1 C.2.1 dX9_moveBox_143 (lv_at hl 3 rfl) ?_
            refine lv_iload C.1 C.2.1 dX9_moveBox_145 (lv_at hl 2 rfl) ?_
            refine lv_iload C.1 C.2.1 dX9_moveBox_147 (lv_at hl 1 rfl) ?_
            refine lv_iload C.1 C.2.1 dX9_moveBox_149 (lv_at hl 0 rfl) ?_
            obtain ⟨σ151, hc151, hf⟩ := bd_some hf
            refine callCV (As := [_, _, _, _, _]) C hK hP hD hA hS hZ wv_X9_66 hl (kc_X1_putBox l D cA ad _ _ F _ _ _ _ _  σ151 hc151) (rcC 1 2 hK hP rfl rfl) rfl rfl rfl (Nat.le_of_ble_eq_true rfl) ⟨Nat.le_refl _, Nat.le_refl _⟩ dX9_moveBox_151 (fun H locs hP hD hS => ?_)
            refine lv_aload_n C.1 C.2.1 dX9_moveBox_154 rfl (lv_at hl 4 rfl) ?_
            refine gc_R_canvas C hK hP wf_X9_10 dX9_moveBox_155 ?_
            obtain ⟨r158, hc158, hf⟩ := bd_some hf
            refine cV_go (runRVc (As := []) C hK hP hZ hS wv_X9_82 hl (kc_X1_touchedConnectors l D cA ad _ _ F   r158 hc158) (rcC 1 2 hK hP rfl rfl) rfl rfl rfl (Nat.le_of_ble_eq_true rfl) ⟨Nat.le_refl _, Nat.le_refl _⟩ dX9_moveBox_158) ?_
            refine lv_aload_n C.1 C.2.1 dX9_moveBox_161 rfl (lv_at hl 4 rfl) ?_
            refine gc_R_canvas C hK hP wf_X9_10 dX9_moveBox_162 ?_
            obtain ⟨r165, hc165, hf⟩ := bd_some hf
            refine cV_go (runRVc (As := []) C hK hP hZ hS wv_X9_86 hl (kc_X1_connectorsWithoutRoute l D cA ad _ _ F   r165 hc165) (rcC 1 2 hK hP rfl rfl) rfl rfl rfl (Nat.le_of_ble_eq_true rfl) ⟨Nat.le_refl _, Nat.le_refl _⟩ dX9_moveBox_165) ?_
            refine lv_isub C.1 C.2.1 dX9_moveBox_168 ?_
            obtain ⟨rfl, rfl⟩ := Prod.mk.inj (Option.some.inj hf)
            exact KE.iret C hr hlk hK hAe hx hP hD hS (Nat.le_refl _) (Nat.le_refl _) rfl dX9_moveBox_169
          · have hf := br_n c127 hf
            refine lv_sipush (v := (-1003 : Int32)) C.1 C.2.1 dX9_moveBox_130 (by decide) ?_
            obtain ⟨rfl, rfl⟩ := Prod.mk.inj (Option.some.inj hf)
            exact KE.iret C hr hlk hK hAe hx hP hD hS (Nat.le_refl _) (Nat.le_refl _) rfl dX9_moveBox_133
        · have hf := br_p c104 hf
          refine lv_sipush (v := (-1002 : Int32)) C.1 C.2.1 dX9_moveBox_107 (by decide) ?_
          obtain ⟨rfl, rfl⟩ := Prod.mk.inj (Option.some.inj hf)
          exact KE.iret C hr hlk hK hAe hx hP hD hS (Nat.le_refl _) (Nat.le_refl _) rfl dX9_moveBox_110
      · have hf := br_p c34 hf
        exact hB37 _ _ _ _ ls hx hP hD hS (lv_sub hl [] rfl) hf
  · have hf := br_p c8 hf
    refine lv_sipush (v := (-1001 : Int32)) C.1 C.2.1 dX9_moveBox_11 (by decide) ?_
    obtain ⟨rfl, rfl⟩ := Prod.mk.inj (Option.some.inj hf)
    exact KE.iret C hr hlk hK hAe hx hP hD hS (Nat.le_refl _) (Nat.le_refl _) rfl dX9_moveBox_14
def fc_X9_link_L82 (F : Nat) (σ : CSt) (x1 : Int32) (x2 : Int32) (x3 : Int32) (x4 : Int32) (x5 : Int32) (x6 : Int32) : Option (Int32 × CSt) :=
  if (cs_cc σ) < (10 : Int32) then (bd (fc_X9_remember F σ) (fun σ99 => lt (cs_cc σ99) (fun x7_109 => lt (cs_cc_s σ99 ((cs_cc σ99) + (1 : Int32))) (fun σ121 => gd (ix x7_109 10 = true) (lt (cs_cr_s σ121 (va_up (cs_cr σ121) x7_109.toNatClampNeg none)) (fun σ134 => bd (fc_X1_putPort F σ134 x7_109 (0 : Int32) x1 x2 x3) (fun σ145 => bd (fc_X1_putPort F σ145 x7_109 (1 : Int32) x4 x5 x6) (fun σ161 => some (x7_109, σ161))))))))) else (some ((-1004 : Int32), σ))
def fc_X9_link_L56 (F : Nat) (σ : CSt) : Option (Int32 × CSt) :=
  some ((-1002 : Int32), σ)
def fc_X9_link_L23 (F : Nat) (σ : CSt) : Option (Int32 × CSt) :=
  some ((-1001 : Int32), σ)
def fc_X9_link (F : Nat) (σ : CSt) (x1 : Int32) (x2 : Int32) (x3 : Int32) (x4 : Int32) (x5 : Int32) (x6 : Int32) : Option (Int32 × CSt) :=
  bd (fc_X1_hasBox F σ x1) (fun r5 => if r5 = 0 then (fc_X9_link_L23 F σ) else (bd (fc_X1_hasBox F σ x4) (fun r17 => if r17 = 0 then (fc_X9_link_L23 F σ) else (bd (fc_X1_hasPort F σ x1 x2 x3) (fun r34 => if r34 = 0 then (fc_X9_link_L56 F σ) else (bd (fc_X1_hasPort F σ x4 x5 x6) (fun r50 => if r50 = 0 then (fc_X9_link_L56 F σ) else (if x1 = x4 then (if x2 = x5 then (if x3 = x6 then (some ((-1003 : Int32), σ)) else (fc_X9_link_L82 F σ x1 x2 x3 x4 x5 x6)) else (fc_X9_link_L82 F σ x1 x2 x3 x4 x5 x6)) else (fc_X9_link_L82 F σ x1 x2 x3 x4 x5 x6)))))))))
set_option maxHeartbeats 4000000 in
set_option maxRecDepth 100000 in
theorem kc_X9_link (l : Launch) (D : va_G) (cA : Nat → ClassId) (ad : Nat → Nat) (σ0 : CSt) (η0 : HS) (F : Nat) (z1 : Int32) (z2 : Int32) (z3 : Int32) (z4 : Int32) (z5 : Int32) (z6 : Int32) (r : Int32) (σr : CSt) (hf : fc_X9_link F σ0 z1 z2 z3 z4 z5 z6 = some (r, σr)) : KE l D cA ad σ0 η0 yX9_link cX9_link 8 (some .int) (rmc 4 103 0 0) [.ref (ad 0), .int z1, .int z2, .int z3, .int z4, .int z5, .int z6] (some (.int r)) σr := by
  refine KE.of (by decide) (Nat.le_of_ble_eq_true rfl) ?_
  intro p e s m below meth c A hAe hA C hr hlk hK hP hD hS hZ ls hl
  have hx : ext η0 η0 := ext.rf
  have hl : lv_has ls 8 [(0, .ref (ad 0)), (1, .int z1), (2, .int z2), (3, .int z3), (4, .int z4), (5, .int z5), (6, .int z6)] := hl
  have hB82 : ∀ (η : HS) (H : Heap) (locs : List Loc) (σ : CSt) (ls : Array Slot) (x1 : Int32) (x2 : Int32) (x3 : Int32) (x4 : Int32) (x5 : Int32) (x6 : Int32), ext η0 η → HC D cA ad σ η H → va_D A (wC cA ad σ η) → va_S A s.heap H locs → lv_has ls 8 [(0, .ref (ad 0)), (1, .int x1), (2, .int x2), (3, .int x3), (4, .int x4), (5, .int x5), (6, .int x6)] → fc_X9_link_L82 F σ x1 x2 x3 x4 x5 x6 = some (r, σr) → WE p l e 4 103 0 0 s m [.ref (ad 0), .int z1, .int z2, .int z3, .int z4, .int z5, .int z6] below meth c (some (.int r)) D cA ad σ0 η0 σr A H locs 0 0 (F0 m 82 ls []) := by
    intro η H locs σ ls x1 x2 x3 x4 x5 x6 hx hP hD hS hl hf
    unfold fc_X9_link_L82 at hf
    refine lv_aload_n C.1 C.2.1 dX9_link_82 rfl (lv_at hl 0 rfl) ?_
    refine gc_R_canvas C hK hP wf_X9_10 dX9_link_83 ?_
    refine gc_cv_connectors C hK hP wf_X9_100 dX9_link_86 ?_
    refine lv_bipush (v := (10 : Int32)) C.1 C.2.1 dX9_link_89 (by decide) ?_
    refine lv_icmp_lt (tgt := 98) C.1 C.2.1 dX9_link_91 (by decide) (fun c91 => ?_) (fun c91 => ?_)
    · have hf := br_p c91 hf
      refine lv_aload_n C.1 C.2.1 dX9_link_98 rfl (lv_at hl 0 rfl) ?_
      obtain ⟨σ99, hc99, hf⟩ := bd_some hf
      refine callEV (As := []) C hK hP hD hA hS hZ wv_X9_63 hl (kc_X9_remember l D cA ad _ _ F   σ99 hc99) (rcC 0 9 hK hP rfl rfl) rfl rfl rfl (Nat.le_of_ble_eq_true rfl) ⟨Nat.le_refl _, Nat.le_refl _⟩ dX9_link_99 (fun η H locs hx1 hP hD hS => ?_)
      replace hx := hx.tr hx1
      refine lv_aload_n C.1 C.2.1 dX9_link_102 rfl (lv_at hl 0 rfl) ?_
      refine gc_R_canvas C hK hP wf_X9_10 dX9_link_103 ?_
      refine gc_cv_connectors C hK hP wf_X9_100 dX9_link_106 ?_
      obtain ⟨x7_109, ex7_109, hf⟩ := lt_some hf
      refine lv_tope ex7_109 ?_
      refine lv_istore (lv' := [(7, .int x7_109), (0, .ref (ad 0)), (1, .int x1), (2, .int x2), (3, .int x3), (4, .int x4), (5, .int x5), (6, .int x6)]) C.1 C.2.1 dX9_link_109 hl (by decide) rfl (fun ls hl => ?_)
      refine lv_aload_n C.1 C.2.1 dX9_link_111 rfl (lv_at hl 1 rfl) ?_
      refine gc_R_canvas C hK hP wf_X9_10 dX9_link_112 ?_
      refine lv_dup C.1 C.2.1 dX9_link_115 rfl ?_
      refine gc_cv_connectors C hK hP wf_X9_100 dX9_link_116 ?_
      refine lv_iconst (v := (1 : Int32)) C.1 C.2.1 dX9_link_119 (by decide) ?_
      refine lv_iadd C.1 C.2.1 dX9_link_120 ?_
      replace hf := lt_e hf
      refine pc_cv_connectors C hK hP hD hS wf_X9_100 dX9_link_121 (fun H locs hP hD hS => ?_)
      refine lv_aload_n C.1 C.2.1 dX9_link_124 rfl (lv_at hl 1 rfl) ?_
      refine gc_R_canvas C hK hP wf_X9_10 dX9_link_125 ?_
      refine gc_cv_routes C hK hP wf_X9_103 dX9_link_128 ?_
      refine lv_iload C.1 C.2.1 dX9_link_131 (lv_at hl 0 rfl) ?_
      refine lv_null C.1 C.2.1 dX9_link_133 ?_
      obtain ⟨hi134, hf⟩ := gd_some hf
      replace hf := lt_e hf
      refine sr_crn C hK hP hD hS hi134 dX9_link_134 (fun η H locs hx1 hP hD hS => ?_)
      replace hx := hx.tr hx1
      refine lv_aload_n C.1 C.2.1 dX9_link_135 rfl (lv_at hl 1 rfl) ?_
      refine gc_R_canvas C hK hP wf_X9_10 dX9_link_136 ?_
      refine lv_iload C.1 C.2.1 dX9_link_139 (lv_at hl 0 rfl) ?_
      refine lv_iconst (v := (0 : Int32)) C.1 C.2.1 dX9_link_141 (by decide) ?_
      refine lv_iload_n C.1 C.2.1 dX9_link_142 rfl (lv_at hl 2 rfl) ?_
      refine lv_iload_n C.1 C.2.1 dX9_link_143 rfl (lv_at hl 3 rfl) ?_
      refine lv_iload_n C.1 C.2.1 dX9_link_144 rfl (lv_at hl 4 rfl) ?_
      obtain ⟨σ145, hc145, hf⟩ := bd_some hf
      refine callCV (As := [_, _, _, _, _]) C hK hP hD hA hS hZ wv_X9_107 hl (kc_X1_putPort l D cA ad _ _ F _ _ _ _ _  σ145 hc145) (rcC 1 2 hK hP rfl rfl) rfl rfl rfl (Nat.le_of_ble_eq_true rfl) ⟨Nat.le_refl _, Nat.le_refl _⟩ dX9_link_145 (fun H locs hP hD hS => ?_)
      refine lv_aload_n C.1 C.2.1 dX9_link_148 rfl (lv_at hl 1 rfl) ?_
      refine gc_R_canvas C hK hP wf_X9_10 dX9_link_149 ?_
      refine lv_iload C.1 C.2.1 dX9_link_152 (lv_at hl 0 rfl) ?_
      refine lv_iconst (v := (1 : Int32)) C.1 C.2.1 dX9_link_154 (by decide) ?_
      refine lv_iload C.1 C.2.1 dX9_link_155 (lv_at hl 5 rfl) ?_
      refine lv_iload C.1 C.2.1 dX9_link_157 (lv_at hl 6 rfl) ?_
      refine lv_iload C.1 C.2.1 dX9_link_159 (lv_at hl 7 rfl) ?_
      obtain ⟨σ161, hc161, hf⟩ := bd_some hf
      refine callCV (As := [_, _, _, _, _]) C hK hP hD hA hS hZ wv_X9_107 hl (kc_X1_putPort l D cA ad _ _ F _ _ _ _ _  σ161 hc161) (rcC 1 2 hK hP rfl rfl) rfl rfl rfl (Nat.le_of_ble_eq_true rfl) ⟨Nat.le_refl _, Nat.le_refl _⟩ dX9_link_161 (fun H locs hP hD hS => ?_)
      refine lv_iload C.1 C.2.1 dX9_link_164 (lv_at hl 0 rfl) ?_
      obtain ⟨rfl, rfl⟩ := Prod.mk.inj (Option.some.inj hf)
      exact KE.iret C hr hlk hK hAe hx hP hD hS (Nat.le_refl _) (Nat.le_refl _) rfl dX9_link_166
    · have hf := br_n c91 hf
      refine lv_sipush (v := (-1004 : Int32)) C.1 C.2.1 dX9_link_94 (by decide) ?_
      obtain ⟨rfl, rfl⟩ := Prod.mk.inj (Option.some.inj hf)
      exact KE.iret C hr hlk hK hAe hx hP hD hS (Nat.le_refl _) (Nat.le_refl _) rfl dX9_link_97
  have hB56 : ∀ (η : HS) (H : Heap) (locs : List Loc) (σ : CSt) (ls : Array Slot), ext η0 η → HC D cA ad σ η H → va_D A (wC cA ad σ η) → va_S A s.heap H locs → lv_has ls 8 [] → fc_X9_link_L56 F σ = some (r, σr) → WE p l e 4 103 0 0 s m [.ref (ad 0), .int z1, .int z2, .int z3, .int z4, .int z5, .int z6] below meth c (some (.int r)) D cA ad σ0 η0 σr A H locs 0 0 (F0 m 56 ls []) := by
    intro η H locs σ ls hx hP hD hS hl hf
    unfold fc_X9_link_L56 at hf
    refine lv_sipush (v := (-1002 : Int32)) C.1 C.2.1 dX9_link_56 (by decide) ?_
    obtain ⟨rfl, rfl⟩ := Prod.mk.inj (Option.some.inj hf)
    exact KE.iret C hr hlk hK hAe hx hP hD hS (Nat.le_refl _) (Nat.le_refl _) rfl dX9_link_59
  have hB23 : ∀ (η : HS) (H : Heap) (locs : List Loc) (σ : CSt) (ls : Array Slot), ext η0 η → HC D cA ad σ η H → va_D A (wC cA ad σ η) → va_S A s.heap H locs → lv_has ls 8 [] → fc_X9_link_L23 F σ = some (r, σr) → WE p l e 4 103 0 0 s m [.ref (ad 0), .int z1, .int z2, .int z3, .int z4, .int z5, .int z6] below meth c (some (.int r)) D cA ad σ0 η0 σr A H locs 0 0 (F0 m 23 ls []) := by
    intro η H locs σ ls hx hP hD hS hl hf
    unfold fc_X9_link_L23 at hf
    refine lv_sipush (v := (-1001 : Int32)) C.1 C.2.1 dX9_link_23 (by decide) ?_
    obtain ⟨rfl, rfl⟩ := Prod.mk.inj (Option.some.inj hf)
    exact KE.iret C hr hlk hK hAe hx hP hD hS (Nat.le_refl _) (Nat.le_refl _) rfl dX9_link_26
  unfold fc_X9_link at hf
  refine lv_aload_n C.1 C.2.1 dX9_link_0 rfl (lv_at hl 0 rfl) ?_
  refine gc_R_canvas C hK hP wf_X9_10 dX9_link_1 ?_
  refine lv_iload_n C.1 C.2.1 dX9_link_4 rfl (lv_at hl 1 rfl) ?_
  obtain ⟨r5, hc5, hf⟩ := bd_some hf
  refine cV_go (runRVc (As := [_]) C hK hP hZ hS wv_X9_70 hl (kc_X1_hasBox l D cA ad _ _ F _  r5 hc5) (rcC 1 2 hK hP rfl rfl) rfl rfl rfl (Nat.le_of_ble_eq_true rfl) ⟨Nat.le_refl _, Nat.le_refl _⟩ dX9_link_5) ?_
  refine lv_if_eq (tgt := 23) C.1 C.2.1 dX9_link_8 (by decide) (fun c8 => ?_) (fun c8 => ?_)
  · have hf := br_p c8 hf
    exact hB23 _ _ _ _ ls hx hP hD hS (lv_sub hl [] rfl) hf
  · have hf := br_n c8 hf
    refine lv_aload_n C.1 C.2.1 dX9_link_11 rfl (lv_at hl 0 rfl) ?_
    refine gc_R_canvas C hK hP wf_X9_10 dX9_link_12 ?_
    refine lv_iload C.1 C.2.1 dX9_link_15 (lv_at hl 4 rfl) ?_
    obtain ⟨r17, hc17, hf⟩ := bd_some hf
    refine cV_go (runRVc (As := [_]) C hK hP hZ hS wv_X9_70 hl (kc_X1_hasBox l D cA ad _ _ F _  r17 hc17) (rcC 1 2 hK hP rfl rfl) rfl rfl rfl (Nat.le_of_ble_eq_true rfl) ⟨Nat.le_refl _, Nat.le_refl _⟩ dX9_link_17) ?_
    refine lv_if_ne (tgt := 27) C.1 C.2.1 dX9_link_20 (by decide) (fun c20 => ?_) (fun c20 => ?_)
    · have hf := br_n c20 hf
      refine lv_aload_n C.1 C.2.1 dX9_link_27 rfl (lv_at hl 0 rfl) ?_
      refine gc_R_canvas C hK hP wf_X9_10 dX9_link_28 ?_
      refine lv_iload_n C.1 C.2.1 dX9_link_31 rfl (lv_at hl 1 rfl) ?_
      refine lv_iload_n C.1 C.2.1 dX9_link_32 rfl (lv_at hl 2 rfl) ?_
      refine lv_iload_n C.1 C.2.1 dX9_link_33 rfl (lv_at hl 3 rfl) ?_
      obtain ⟨r34, hc34, hf⟩ := bd_some hf
      refine cV_go (runRVc (As := [_, _, _]) C hK hP hZ hS wv_X9_97 hl (kc_X1_hasPort l D cA ad _ _ F _ _ _  r34 hc34) (rcC 1 2 hK hP rfl rfl) rfl rfl rfl (Nat.le_of_ble_eq_true rfl) ⟨Nat.le_refl _, Nat.le_refl _⟩ dX9_link_34) ?_
      refine lv_if_eq (tgt := 56) C.1 C.2.1 dX9_link_37 (by decide) (fun c37 => ?_) (fun c37 => ?_)
      · have hf := br_p c37 hf
        exact hB56 _ _ _ _ ls hx hP hD hS (lv_sub hl [] rfl) hf
      · have hf := br_n c37 hf
        refine lv_aload_n C.1 C.2.1 dX9_link_40 rfl (lv_at hl 0 rfl) ?_
        refine gc_R_canvas C hK hP wf_X9_10 dX9_link_41 ?_
        refine lv_iload C.1 C.2.1 dX9_link_44 (lv_at hl 4 rfl) ?_
        refine lv_iload C.1 C.2.1 dX9_link_46 (lv_at hl 5 rfl) ?_
        refine lv_iload C.1 C.2.1 dX9_link_48 (lv_at hl 6 rfl) ?_
        obtain ⟨r50, hc50, hf⟩ := bd_some hf
        refine cV_go (runRVc (As := [_, _, _]) C hK hP hZ hS wv_X9_97 hl (kc_X1_hasPort l D cA ad _ _ F _ _ _  r50 hc50) (rcC 1 2 hK hP rfl rfl) rfl rfl rfl (Nat.le_of_ble_eq_true rfl) ⟨Nat.le_refl _, Nat.le_refl _⟩ dX9_link_50) ?_
        refine lv_if_ne (tgt := 60) C.1 C.2.1 dX9_link_53 (by decide) (fun c53 => ?_) (fun c53 => ?_)
        · have hf := br_n c53 hf
          refine lv_iload_n C.1 C.2.1 dX9_link_60 rfl (lv_at hl 1 rfl) ?_
          refine lv_iload C.1 C.2.1 dX9_link_61 (lv_at hl 4 rfl) ?_
          refine lv_icmp_ne (tgt := 82) C.1 C.2.1 dX9_link_63 (by decide) (fun c63 => ?_) (fun c63 => ?_)
          · have hf := br_n c63 hf
            exact hB82 _ _ _ _ ls _ _ _ _ _ _ hx hP hD hS (lv_sub hl [0, 1, 2, 3, 4, 5, 6] rfl) hf
          · have hf := br_p c63 hf
            refine lv_iload_n C.1 C.2.1 dX9_link_66 rfl (lv_at hl 2 rfl) ?_
            refine lv_iload C.1 C.2.1 dX9_link_67 (lv_at hl 5 rfl) ?_
            refine lv_icmp_ne (tgt := 82) C.1 C.2.1 dX9_link_69 (by decide) (fun c69 => ?_) (fun c69 => ?_)
            · have hf := br_n c69 hf
              exact hB82 _ _ _ _ ls _ _ _ _ _ _ hx hP hD hS (lv_sub hl [0, 1, 2, 3, 4, 5, 6] rfl) hf
            · have hf := br_p c69 hf
              refine lv_iload_n C.1 C.2.1 dX9_link_72 rfl (lv_at hl 3 rfl) ?_
              refine lv_iload C.1 C.2.1 dX9_link_73 (lv_at hl 6 rfl) ?_
              refine lv_icmp_ne (tgt := 82) C.1 C.2.1 dX9_link_75 (by decide) (fun c75 => ?_) (fun c75 => ?_)
              · have hf := br_n c75 hf
                exact hB82 _ _ _ _ ls _ _ _ _ _ _ hx hP hD hS (lv_sub hl [0, 1, 2, 3, 4, 5, 6] rfl) hf
              · have hf := br_p c75 hf
                refine lv_sipush (v := (-1003 : Int32)) C.1 C.2.1 dX9_link_78 (by decide) ?_
                obtain ⟨rfl, rfl⟩ := Prod.mk.inj (Option.some.inj hf)
                exact KE.iret C hr hlk hK hAe hx hP hD hS (Nat.le_refl _) (Nat.le_refl _) rfl dX9_link_81
        · have hf := br_p c53 hf
          exact hB56 _ _ _ _ ls hx hP hD hS (lv_sub hl [] rfl) hf
    · have hf := br_p c20 hf
      exact hB23 _ _ _ _ ls hx hP hD hS (lv_sub hl [] rfl) hf
def fc_X1_removeConnector_L12_c (F : Nat) (k12 : CSt → Int32 → Option (CSt)) (σ : CSt) (x2 : Int32) : Option (CSt) :=
  if (cs_cc σ) ≤ x2 then (gd (ix (cs_cc σ) 10 = true) (lt (cs_cr_s σ (va_up (cs_cr σ) (cs_cc σ).toNatClampNeg none)) (fun σ72 => some σ72))) else (gd (cpo ((6 : Int32) * (x2 + (1 : Int32))) ((6 : Int32) * x2) (6 : Int32) 60 60 = true) (lt (cs_cq_s σ (va_cpy (cs_cq σ) (cs_cq σ) ((6 : Int32) * (x2 + (1 : Int32))).toNatClampNeg ((6 : Int32) * x2).toNatClampNeg (6 : Int32).toNatClampNeg)) (fun σ40 => gd (ix (x2 + (1 : Int32)) 10 = true) (mo (cs_cr σ40 (x2 + (1 : Int32)).toNatClampNeg) (gd (ix x2 10 = true) (lt (cs_cr_s σ40 (va_up (cs_cr σ40) x2.toNatClampNeg none)) (fun σ56 => lt (x2 + (1 : Int32)) (fun x2_57 => k12 σ56 x2_57)))) (fun v55 => gd (ix x2 10 = true) (lt (cs_cr_s σ40 (va_up (cs_cr σ40) x2.toNatClampNeg (some v55))) (fun σ56 => lt (x2 + (1 : Int32)) (fun x2_57 => k12 σ56 x2_57))))))))
def fc_X1_removeConnector_L12 (F : Nat) (n : Nat) (σ : CSt) (x2 : Int32) : Option (CSt) := lpN (fun (k : CSt × Int32 → Option (CSt)) a => fc_X1_removeConnector_L12_c F (fun σ x2 => k (σ, x2)) a.1 a.2) n (σ, x2)
def fc_X1_removeConnector (F : Nat) (σ : CSt) (x1 : Int32) : Option (CSt) :=
  lt (cs_cc_s σ ((cs_cc σ) - (1 : Int32))) (fun σ7 => fc_X1_removeConnector_L12 F F σ7 x1)
set_option maxHeartbeats 4000000 in
set_option maxRecDepth 100000 in
theorem kc_X1_removeConnector (l : Launch) (D : va_G) (cA : Nat → ClassId) (ad : Nat → Nat) (σ0 : CSt) (η0 : HS) (F : Nat) (z1 : Int32) (σr : CSt) (hf : fc_X1_removeConnector F σ0 z1 = some σr) : KE l D cA ad σ0 η0 yX1_removeConnector cX1_removeConnector 3 none (rmc 1 40 0 0) [.ref (ad 1), .int z1] none σr := by
  refine KE.of (by decide) (Nat.le_of_ble_eq_true rfl) ?_
  intro p e s m below meth c A hAe hA C hr hlk hK hP hD hS hZ ls hl
  have hx : ext η0 η0 := ext.rf
  have hl : lv_has ls 3 [(0, .ref (ad 1)), (1, .int z1)] := hl
  have hB12 : ∀ (n12 : Nat) (η : HS) (H : Heap) (locs : List Loc) (σ : CSt) (ls : Array Slot) (x2 : Int32), ext η0 η → HC D cA ad σ η H → va_D A (wC cA ad σ η) → va_S A s.heap H locs → lv_has ls 3 [(0, .ref (ad 1)), (2, .int x2)] → fc_X1_removeConnector_L12 F n12 σ x2 = some σr → WE p l e 1 40 0 0 s m [.ref (ad 1), .int z1] below meth c none D cA ad σ0 η0 σr A H locs 0 0 (F0 m 12 ls []) := by
    intro n12
    induction n12 with
    | zero =>
      intro η H locs σ ls x2 hx hP hD hS hl hf
      cases (show (none : Option _) = _ from hf)
    | succ n12 ih12 =>
      intro η H locs σ ls x2 hx hP hD hS hl hf
      have hf : fc_X1_removeConnector_L12_c F (fc_X1_removeConnector_L12 F n12) σ x2 = some σr := hf
      unfold fc_X1_removeConnector_L12_c at hf
      refine lv_iload_n C.1 C.2.1 dX1_removeConnector_12 rfl (lv_at hl 1 rfl) ?_
      refine lv_aload_n C.1 C.2.1 dX1_removeConnector_13 rfl (lv_at hl 0 rfl) ?_
      refine gc_cv_connectors C hK hP wf_X1_31 dX1_removeConnector_14 ?_
      refine lv_icmp_ge (tgt := 63) C.1 C.2.1 dX1_removeConnector_17 (by decide) (fun c17 => ?_) (fun c17 => ?_)
      · have hf := br_p c17 hf
        refine lv_aload_n C.1 C.2.1 dX1_removeConnector_63 rfl (lv_at hl 0 rfl) ?_
        refine gc_cv_routes C hK hP wf_X1_24 dX1_removeConnector_64 ?_
        refine lv_aload_n C.1 C.2.1 dX1_removeConnector_67 rfl (lv_at hl 0 rfl) ?_
        refine gc_cv_connectors C hK hP wf_X1_31 dX1_removeConnector_68 ?_
        refine lv_null C.1 C.2.1 dX1_removeConnector_71 ?_
        obtain ⟨hi72, hf⟩ := gd_some hf
        replace hf := lt_e hf
        refine sr_crn C hK hP hD hS hi72 dX1_removeConnector_72 (fun η H locs hx1 hP hD hS => ?_)
        replace hx := hx.tr hx1
        obtain rfl := Option.some.inj hf
        exact KE.vret C hr hlk hK hAe hx hP hD hS (Nat.le_refl _) (Nat.le_refl _) rfl dX1_removeConnector_73
      · have hf := br_n c17 hf
        refine lv_aload_n C.1 C.2.1 dX1_removeConnector_20 rfl (lv_at hl 0 rfl) ?_
        refine gc_cv_ports C hK hP wf_X1_19 dX1_removeConnector_21 ?_
        refine lv_bipush (v := (6 : Int32)) C.1 C.2.1 dX1_removeConnector_24 (by decide) ?_
        refine lv_iload_n C.1 C.2.1 dX1_removeConnector_26 rfl (lv_at hl 1 rfl) ?_
        refine lv_iconst (v := (1 : Int32)) C.1 C.2.1 dX1_removeConnector_27 (by decide) ?_
        refine lv_iadd C.1 C.2.1 dX1_removeConnector_28 ?_
        refine lv_imul C.1 C.2.1 dX1_removeConnector_29 ?_
        refine lv_aload_n C.1 C.2.1 dX1_removeConnector_30 rfl (lv_at hl 0 rfl) ?_
        refine gc_cv_ports C hK hP wf_X1_19 dX1_removeConnector_31 ?_
        refine lv_bipush (v := (6 : Int32)) C.1 C.2.1 dX1_removeConnector_34 (by decide) ?_
        refine lv_iload_n C.1 C.2.1 dX1_removeConnector_36 rfl (lv_at hl 1 rfl) ?_
        refine lv_imul C.1 C.2.1 dX1_removeConnector_37 ?_
        refine lv_bipush (v := (6 : Int32)) C.1 C.2.1 dX1_removeConnector_38 (by decide) ?_
        obtain ⟨hi40, hf⟩ := gd_some hf
        replace hf := lt_e hf
        refine cy_cq_cq C hK hP hD hS (by rw [C.2.2.1]; exact hl.1.symm) wy_X1_34 hi40 (Nat.le_of_ble_eq_true rfl) (Nat.le_of_ble_eq_true rfl) dX1_removeConnector_40 (fun H locs hP hD hS => ?_)
        refine lv_aload_n C.1 C.2.1 dX1_removeConnector_43 rfl (lv_at hl 0 rfl) ?_
        refine gc_cv_routes C hK hP wf_X1_24 dX1_removeConnector_44 ?_
        refine lv_iload_n C.1 C.2.1 dX1_removeConnector_47 rfl (lv_at hl 1 rfl) ?_
        refine lv_aload_n C.1 C.2.1 dX1_removeConnector_48 rfl (lv_at hl 0 rfl) ?_
        refine gc_cv_routes C hK hP wf_X1_24 dX1_removeConnector_49 ?_
        refine lv_iload_n C.1 C.2.1 dX1_removeConnector_52 rfl (lv_at hl 1 rfl) ?_
        refine lv_iconst (v := (1 : Int32)) C.1 C.2.1 dX1_removeConnector_53 (by decide) ?_
        refine lv_iadd C.1 C.2.1 dX1_removeConnector_54 ?_
        obtain ⟨hi55, hf⟩ := gd_some hf
        refine lr_cr C hK hP hi55 dX1_removeConnector_55 (fun hn55 => ?_) (fun a55 v55 he55 hv55 => ?_)
        · have hf := mo_n hn55 hf
          obtain ⟨hi56, hf⟩ := gd_some hf
          replace hf := lt_e hf
          refine sr_crn C hK hP hD hS hi56 dX1_removeConnector_56 (fun η H locs hx1 hP hD hS => ?_)
          replace hx := hx.tr hx1
          obtain ⟨x2_57, ex2_57, hf⟩ := lt_some hf
          refine lv_iinc (v := x2_57) (lv' := [(2, .int x2_57), (0, .ref (ad 1))]) C.1 C.2.1 dX1_removeConnector_57 hl (k := 1) rfl (by rw [ex2_57]; rfl) (by decide) rfl (fun ls hl => ?_)
          refine lv_goto (tgt := 12) C.1 C.2.1 dX1_removeConnector_60 (by decide) ?_
          exact ih12 _ _ _ _ ls _ hx hP hD hS (lv_sub hl [1, 0] rfl) hf
        · have hf := mo_s he55 hf
          obtain ⟨hi56, hf⟩ := gd_some hf
          replace hf := lt_e hf
          refine sr_crs C hK hP hD hS hv55 hi56 dX1_removeConnector_56 (fun η H locs hx1 hP hD hS => ?_)
          replace hx := hx.tr hx1
          obtain ⟨x2_57, ex2_57, hf⟩ := lt_some hf
          refine lv_iinc (v := x2_57) (lv' := [(2, .int x2_57), (0, .ref (ad 1))]) C.1 C.2.1 dX1_removeConnector_57 hl (k := 1) rfl (by rw [ex2_57]; rfl) (by decide) rfl (fun ls hl => ?_)
          refine lv_goto (tgt := 12) C.1 C.2.1 dX1_removeConnector_60 (by decide) ?_
          exact ih12 _ _ _ _ ls _ hx hP hD hS (lv_sub hl [1, 0] rfl) hf
  unfold fc_X1_removeConnector at hf
  refine lv_aload_n C.1 C.2.1 dX1_removeConnector_0 rfl (lv_at hl 0 rfl) ?_
  refine lv_dup C.1 C.2.1 dX1_removeConnector_1 rfl ?_
  refine gc_cv_connectors C hK hP wf_X1_31 dX1_removeConnector_2 ?_
  refine lv_iconst (v := (1 : Int32)) C.1 C.2.1 dX1_removeConnector_5 (by decide) ?_
  refine lv_isub C.1 C.2.1 dX1_removeConnector_6 ?_
  replace hf := lt_e hf
  refine pc_cv_connectors C hK hP hD hS wf_X1_31 dX1_removeConnector_7 (fun H locs hP hD hS => ?_)
  refine lv_iload_n C.1 C.2.1 dX1_removeConnector_10 rfl (lv_at hl 1 rfl) ?_
  refine lv_istore_n (lv' := [(2, .int z1), (0, .ref (ad 1)), (1, .int z1)]) C.1 C.2.1 dX1_removeConnector_11 rfl hl (by decide) rfl (fun ls hl => ?_)
  exact hB12 F _ _ _ _ ls _ hx hP hD hS (lv_sub hl [1, 0] rfl) hf
def fc_X9_drop (F : Nat) (σ : CSt) (x1 : Int32) : Option (Int32 × CSt) :=
  bd (fc_X1_hasConnector F σ x1) (fun r5 => if r5 = 0 then (some ((-1001 : Int32), σ)) else (bd (fc_X9_remember F σ) (fun σ16 => bd (fc_X1_removeConnector F σ16 x1) (fun σ24 => some ((cs_cc σ24), σ24)))))
set_option maxHeartbeats 4000000 in
set_option maxRecDepth 100000 in
theorem kc_X9_drop (l : Launch) (D : va_G) (cA : Nat → ClassId) (ad : Nat → Nat) (σ0 : CSt) (η0 : HS) (F : Nat) (z1 : Int32) (r : Int32) (σr : CSt) (hf : fc_X9_drop F σ0 z1 = some (r, σr)) : KE l D cA ad σ0 η0 yX9_drop cX9_drop 2 (some .int) (rmc 4 103 0 0) [.ref (ad 0), .int z1] (some (.int r)) σr := by
  refine KE.of (by decide) (Nat.le_of_ble_eq_true rfl) ?_
  intro p e s m below meth c A hAe hA C hr hlk hK hP hD hS hZ ls hl
  have hx : ext η0 η0 := ext.rf
  have hl : lv_has ls 2 [(0, .ref (ad 0)), (1, .int z1)] := hl
  unfold fc_X9_drop at hf
  refine lv_aload_n C.1 C.2.1 dX9_drop_0 rfl (lv_at hl 0 rfl) ?_
  refine gc_R_canvas C hK hP wf_X9_10 dX9_drop_1 ?_
  refine lv_iload_n C.1 C.2.1 dX9_drop_4 rfl (lv_at hl 1 rfl) ?_
  obtain ⟨r5, hc5, hf⟩ := bd_some hf
  refine cV_go (runRVc (As := [_]) C hK hP hZ hS wv_X9_110 hl (kc_X1_hasConnector l D cA ad _ _ F _  r5 hc5) (rcC 1 2 hK hP rfl rfl) rfl rfl rfl (Nat.le_of_ble_eq_true rfl) ⟨Nat.le_refl _, Nat.le_refl _⟩ dX9_drop_5) ?_
  refine lv_if_ne (tgt := 15) C.1 C.2.1 dX9_drop_8 (by decide) (fun c8 => ?_) (fun c8 => ?_)
  · have hf := br_n c8 hf
    refine lv_aload_n C.1 C.2.1 dX9_drop_15 rfl (lv_at hl 0 rfl) ?_
    obtain ⟨σ16, hc16, hf⟩ := bd_some hf
    refine callEV (As := []) C hK hP hD hA hS hZ wv_X9_63 hl (kc_X9_remember l D cA ad _ _ F   σ16 hc16) (rcC 0 9 hK hP rfl rfl) rfl rfl rfl (Nat.le_of_ble_eq_true rfl) ⟨Nat.le_refl _, Nat.le_refl _⟩ dX9_drop_16 (fun η H locs hx1 hP hD hS => ?_)
    replace hx := hx.tr hx1
    refine lv_aload_n C.1 C.2.1 dX9_drop_19 rfl (lv_at hl 0 rfl) ?_
    refine gc_R_canvas C hK hP wf_X9_10 dX9_drop_20 ?_
    refine lv_iload_n C.1 C.2.1 dX9_drop_23 rfl (lv_at hl 1 rfl) ?_
    obtain ⟨σ24, hc24, hf⟩ := bd_some hf
    refine callEV (As := [_]) C hK hP hD hA hS hZ wv_X9_113 hl (kc_X1_removeConnector l D cA ad _ _ F _  σ24 hc24) (rcC 1 2 hK hP rfl rfl) rfl rfl rfl (Nat.le_of_ble_eq_true rfl) ⟨Nat.le_refl _, Nat.le_refl _⟩ dX9_drop_24 (fun η H locs hx1 hP hD hS => ?_)
    replace hx := hx.tr hx1
    refine lv_aload_n C.1 C.2.1 dX9_drop_27 rfl (lv_at hl 0 rfl) ?_
    refine gc_R_canvas C hK hP wf_X9_10 dX9_drop_28 ?_
    refine gc_cv_connectors C hK hP wf_X9_100 dX9_drop_31 ?_
    obtain ⟨rfl, rfl⟩ := Prod.mk.inj (Option.some.inj hf)
    exact KE.iret C hr hlk hK hAe hx hP hD hS (Nat.le_refl _) (Nat.le_refl _) rfl dX9_drop_34
  · have hf := br_p c8 hf
    refine lv_sipush (v := (-1001 : Int32)) C.1 C.2.1 dX9_drop_11 (by decide) ?_
    obtain ⟨rfl, rfl⟩ := Prod.mk.inj (Option.some.inj hf)
    exact KE.iret C hr hlk hK hAe hx hP hD hS (Nat.le_refl _) (Nat.le_refl _) rfl dX9_drop_14
def fc_X9_setPenalty (F : Nat) (σ : CSt) (x1 : Int32) : Option (Int32 × CSt) :=
  bd (fc_X9_isWithin F σ x1 (0 : Int32) (50 : Int32)) (fun r4 => if r4 = 0 then (some ((-1002 : Int32), σ)) else (bd (fc_X9_remember F σ) (fun σ15 => lt (cs_cp σ15) (fun x2_25 => lt (cs_cp_s σ15 x1) (fun σ31 => some (x2_25, σ31))))))
set_option maxHeartbeats 4000000 in
set_option maxRecDepth 100000 in
theorem kc_X9_setPenalty (l : Launch) (D : va_G) (cA : Nat → ClassId) (ad : Nat → Nat) (σ0 : CSt) (η0 : HS) (F : Nat) (z1 : Int32) (r : Int32) (σr : CSt) (hf : fc_X9_setPenalty F σ0 z1 = some (r, σr)) : KE l D cA ad σ0 η0 yX9_setPenalty cX9_setPenalty 3 (some .int) (rmc 4 103 0 0) [.ref (ad 0), .int z1] (some (.int r)) σr := by
  refine KE.of (by decide) (Nat.le_of_ble_eq_true rfl) ?_
  intro p e s m below meth c A hAe hA C hr hlk hK hP hD hS hZ ls hl
  have hx : ext η0 η0 := ext.rf
  have hl : lv_has ls 3 [(0, .ref (ad 0)), (1, .int z1)] := hl
  unfold fc_X9_setPenalty at hf
  refine lv_iload_n C.1 C.2.1 dX9_setPenalty_0 rfl (lv_at hl 1 rfl) ?_
  refine lv_iconst (v := (0 : Int32)) C.1 C.2.1 dX9_setPenalty_1 (by decide) ?_
  refine lv_bipush (v := (50 : Int32)) C.1 C.2.1 dX9_setPenalty_2 (by decide) ?_
  obtain ⟨r4, hc4, hf⟩ := bd_some hf
  refine cV_go (runRSc (As := [_, _, _]) C hK hP hZ hS wv_X9_74 hl (kc_X9_isWithin l D cA ad _ _ F _ _ _  r4 hc4) rfl rfl rfl (Nat.le_of_ble_eq_true rfl) ⟨Nat.le_refl _, Nat.le_refl _⟩ dX9_setPenalty_4) ?_
  refine lv_if_ne (tgt := 14) C.1 C.2.1 dX9_setPenalty_7 (by decide) (fun c7 => ?_) (fun c7 => ?_)
  · have hf := br_n c7 hf
    refine lv_aload_n C.1 C.2.1 dX9_setPenalty_14 rfl (lv_at hl 0 rfl) ?_
    obtain ⟨σ15, hc15, hf⟩ := bd_some hf
    refine callEV (As := []) C hK hP hD hA hS hZ wv_X9_63 hl (kc_X9_remember l D cA ad _ _ F   σ15 hc15) (rcC 0 9 hK hP rfl rfl) rfl rfl rfl (Nat.le_of_ble_eq_true rfl) ⟨Nat.le_refl _, Nat.le_refl _⟩ dX9_setPenalty_15 (fun η H locs hx1 hP hD hS => ?_)
    replace hx := hx.tr hx1
    refine lv_aload_n C.1 C.2.1 dX9_setPenalty_18 rfl (lv_at hl 0 rfl) ?_
    refine gc_R_canvas C hK hP wf_X9_10 dX9_setPenalty_19 ?_
    refine gc_cv_penalty C hK hP wf_X9_117 dX9_setPenalty_22 ?_
    obtain ⟨x2_25, ex2_25, hf⟩ := lt_some hf
    refine lv_tope ex2_25 ?_
    refine lv_istore_n (lv' := [(2, .int x2_25), (0, .ref (ad 0)), (1, .int z1)]) C.1 C.2.1 dX9_setPenalty_25 rfl hl (by decide) rfl (fun ls hl => ?_)
    refine lv_aload_n C.1 C.2.1 dX9_setPenalty_26 rfl (lv_at hl 1 rfl) ?_
    refine gc_R_canvas C hK hP wf_X9_10 dX9_setPenalty_27 ?_
    refine lv_iload_n C.1 C.2.1 dX9_setPenalty_30 rfl (lv_at hl 2 rfl) ?_
    replace hf := lt_e hf
    refine pc_cv_penalty C hK hP hD hS wf_X9_117 dX9_setPenalty_31 (fun H locs hP hD hS => ?_)
    refine lv_iload_n C.1 C.2.1 dX9_setPenalty_34 rfl (lv_at hl 0 rfl) ?_
    obtain ⟨rfl, rfl⟩ := Prod.mk.inj (Option.some.inj hf)
    exact KE.iret C hr hlk hK hAe hx hP hD hS (Nat.le_refl _) (Nat.le_refl _) rfl dX9_setPenalty_35
  · have hf := br_p c7 hf
    refine lv_sipush (v := (-1002 : Int32)) C.1 C.2.1 dX9_setPenalty_10 (by decide) ?_
    obtain ⟨rfl, rfl⟩ := Prod.mk.inj (Option.some.inj hf)
    exact KE.iret C hr hlk hK hAe hx hP hD hS (Nat.le_refl _) (Nat.le_refl _) rfl dX9_setPenalty_13
def fc_J7_fill_53178_24_L5_c (F : Nat) (k5 : CSt → Int32 → Int32 → Int32 → Option (CSt)) (σ : CSt) (x1 : Int32) (x2 : Int32) (x3 : Int32) : Option (CSt) :=
  if x3 ≤ x2 then (some σ) else (gd (ix x2 1296 = true) (lt (sc_frests σ x2 x1) (fun σ13 => lt (x2 + (1 : Int32)) (fun x2_14 => k5 σ13 x1 x2_14 x3))))
def fc_J7_fill_53178_24_L5 (F : Nat) (n : Nat) (σ : CSt) (x1 : Int32) (x2 : Int32) (x3 : Int32) : Option (CSt) := lpN (fun (k : CSt × Int32 × Int32 × Int32 → Option (CSt)) a => fc_J7_fill_53178_24_L5_c F (fun σ x1 x2 x3 => k (σ, x1, x2, x3)) a.1 a.2.1 a.2.2.1 a.2.2.2) n (σ, x1, x2, x3)
def fc_J7_fill_53178_24 (F : Nat) (σ : CSt) (x1 : Int32) : Option (CSt) :=
  fc_J7_fill_53178_24_L5 F F σ x1 (0 : Int32) (1296 : Int32)
set_option maxHeartbeats 4000000 in
set_option maxRecDepth 100000 in
theorem kc_J7_fill_53178_24 (l : Launch) (D : va_G) (cA : Nat → ClassId) (ad : Nat → Nat) (σ0 : CSt) (η : HS) (F : Nat) (z1 : Int32) (σr : CSt) (hf : fc_J7_fill_53178_24 F σ0 z1 = some σr) : KC l D cA ad σ0 η yJ7_fill_53178 cJ7_fill_53178 4 none (rmk 0 0) [.ref (ad 24), .int z1] none σr := by
  refine KC.of (by decide) (Nat.le_of_ble_eq_true rfl) ?_
  intro p e s m below meth c A hAe hA C hr hlk hK hP hD hS hZ ls hl
  have hl : lv_has ls 4 [(0, .ref (ad 24)), (1, .int z1)] := hl
  have hB5 : ∀ (n5 : Nat) (H : Heap) (locs : List Loc) (σ : CSt) (ls : Array Slot) (x1 : Int32) (x2 : Int32) (x3 : Int32), HC D cA ad σ η H → va_D A (wC cA ad σ η) → va_S A s.heap H locs → lv_has ls 4 [(0, .ref (ad 24)), (1, .int x1), (2, .int x2), (3, .int x3)] → fc_J7_fill_53178_24_L5 F n5 σ x1 x2 x3 = some σr → WC p l e 0 0 s m [.ref (ad 24), .int z1] below meth c none D cA ad σ0 η σr A H locs (F0 m 5 ls []) := by
    intro n5
    induction n5 with
    | zero =>
      intro H locs σ ls x1 x2 x3 hP hD hS hl hf
      cases (show (none : Option _) = _ from hf)
    | succ n5 ih5 =>
      intro H locs σ ls x1 x2 x3 hP hD hS hl hf
      have hf : fc_J7_fill_53178_24_L5_c F (fc_J7_fill_53178_24_L5 F n5) σ x1 x2 x3 = some σr := hf
      unfold fc_J7_fill_53178_24_L5_c at hf
      refine lv_iload_n C.1 C.2.1 dJ7_fill_53178_5 rfl (lv_at hl 2 rfl) ?_
      refine lv_iload_n C.1 C.2.1 dJ7_fill_53178_6 rfl (lv_at hl 3 rfl) ?_
      refine lv_icmp_ge (tgt := 20) C.1 C.2.1 dJ7_fill_53178_7 (by decide) (fun c7 => ?_) (fun c7 => ?_)
      · have hf := br_p c7 hf
        obtain rfl := Option.some.inj hf
        exact KC.vret C hr hlk hK hAe hP hD hS rfl dJ7_fill_53178_20
      · have hf := br_n c7 hf
        refine lv_aload_n C.1 C.2.1 dJ7_fill_53178_10 rfl (lv_at hl 0 rfl) ?_
        refine lv_iload_n C.1 C.2.1 dJ7_fill_53178_11 rfl (lv_at hl 2 rfl) ?_
        refine lv_iload_n C.1 C.2.1 dJ7_fill_53178_12 rfl (lv_at hl 1 rfl) ?_
        obtain ⟨hi13, hf⟩ := gd_some hf
        replace hf := lt_e hf
        refine uc_frests C hK hP hD hS hi13 dJ7_fill_53178_13 (fun H locs hP hD hS => ?_)
        obtain ⟨x2_14, ex2_14, hf⟩ := lt_some hf
        refine lv_iinc (v := x2_14) (lv' := [(2, .int x2_14), (0, .ref (ad 24)), (1, .int x1), (3, .int x3)]) C.1 C.2.1 dJ7_fill_53178_14 hl (k := 2) rfl (by rw [ex2_14]; rfl) (by decide) rfl (fun ls hl => ?_)
        refine lv_goto (tgt := 5) C.1 C.2.1 dJ7_fill_53178_17 (by decide) ?_
        exact ih5 _ _ _ ls _ _ _ hP hD hS (lv_sub hl [1, 2, 0, 3] rfl) hf
  unfold fc_J7_fill_53178_24 at hf
  refine lv_iconst (v := (0 : Int32)) C.1 C.2.1 dJ7_fill_53178_0 (by decide) ?_
  refine lv_istore_n (lv' := [(2, .int (0 : Int32)), (0, .ref (ad 24)), (1, .int z1)]) C.1 C.2.1 dJ7_fill_53178_1 rfl hl (by decide) rfl (fun ls hl => ?_)
  refine lv_aload_n C.1 C.2.1 dJ7_fill_53178_2 rfl (lv_at hl 1 rfl) ?_
  refine nc_frests C hK hP dJ7_fill_53178_3 ?_
  refine lv_istore_n (lv' := [(3, .int (1296 : Int32)), (2, .int (0 : Int32)), (0, .ref (ad 24)), (1, .int z1)]) C.1 C.2.1 dJ7_fill_53178_4 rfl hl (by decide) rfl (fun ls hl => ?_)
  exact hB5 F _ _ _ ls _ _ _ hP hD hS (lv_sub hl [2, 3, 1, 0] rfl) hf
def fc_J7_fill_53178_33_L5_c (F : Nat) (k5 : CSt → Int32 → Int32 → Int32 → Option (CSt)) (σ : CSt) (x1 : Int32) (x2 : Int32) (x3 : Int32) : Option (CSt) :=
  if x3 ≤ x2 then (some σ) else (gd (ix x2 256 = true) (lt (sc_whd σ x2 x1) (fun σ13 => lt (x2 + (1 : Int32)) (fun x2_14 => k5 σ13 x1 x2_14 x3))))
def fc_J7_fill_53178_33_L5 (F : Nat) (n : Nat) (σ : CSt) (x1 : Int32) (x2 : Int32) (x3 : Int32) : Option (CSt) := lpN (fun (k : CSt × Int32 × Int32 × Int32 → Option (CSt)) a => fc_J7_fill_53178_33_L5_c F (fun σ x1 x2 x3 => k (σ, x1, x2, x3)) a.1 a.2.1 a.2.2.1 a.2.2.2) n (σ, x1, x2, x3)
def fc_J7_fill_53178_33 (F : Nat) (σ : CSt) (x1 : Int32) : Option (CSt) :=
  fc_J7_fill_53178_33_L5 F F σ x1 (0 : Int32) (256 : Int32)
set_option maxHeartbeats 4000000 in
set_option maxRecDepth 100000 in
theorem kc_J7_fill_53178_33 (l : Launch) (D : va_G) (cA : Nat → ClassId) (ad : Nat → Nat) (σ0 : CSt) (η : HS) (F : Nat) (z1 : Int32) (σr : CSt) (hf : fc_J7_fill_53178_33 F σ0 z1 = some σr) : KC l D cA ad σ0 η yJ7_fill_53178 cJ7_fill_53178 4 none (rmk 0 0) [.ref (ad 33), .int z1] none σr := by
  refine KC.of (by decide) (Nat.le_of_ble_eq_true rfl) ?_
  intro p e s m below meth c A hAe hA C hr hlk hK hP hD hS hZ ls hl
  have hl : lv_has ls 4 [(0, .ref (ad 33)), (1, .int z1)] := hl
  have hB5 : ∀ (n5 : Nat) (H : Heap) (locs : List Loc) (σ : CSt) (ls : Array Slot) (x1 : Int32) (x2 : Int32) (x3 : Int32), HC D cA ad σ η H → va_D A (wC cA ad σ η) → va_S A s.heap H locs → lv_has ls 4 [(0, .ref (ad 33)), (1, .int x1), (2, .int x2), (3, .int x3)] → fc_J7_fill_53178_33_L5 F n5 σ x1 x2 x3 = some σr → WC p l e 0 0 s m [.ref (ad 33), .int z1] below meth c none D cA ad σ0 η σr A H locs (F0 m 5 ls []) := by
    intro n5
    induction n5 with
    | zero =>
      intro H locs σ ls x1 x2 x3 hP hD hS hl hf
      cases (show (none : Option _) = _ from hf)
    | succ n5 ih5 =>
      intro H locs σ ls x1 x2 x3 hP hD hS hl hf
      have hf : fc_J7_fill_53178_33_L5_c F (fc_J7_fill_53178_33_L5 F n5) σ x1 x2 x3 = some σr := hf
      unfold fc_J7_fill_53178_33_L5_c at hf
      refine lv_iload_n C.1 C.2.1 dJ7_fill_53178_5 rfl (lv_at hl 2 rfl) ?_
      refine lv_iload_n C.1 C.2.1 dJ7_fill_53178_6 rfl (lv_at hl 3 rfl) ?_
      refine lv_icmp_ge (tgt := 20) C.1 C.2.1 dJ7_fill_53178_7 (by decide) (fun c7 => ?_) (fun c7 => ?_)
      · have hf := br_p c7 hf
        obtain rfl := Option.some.inj hf
        exact KC.vret C hr hlk hK hAe hP hD hS rfl dJ7_fill_53178_20
      · have hf := br_n c7 hf
        refine lv_aload_n C.1 C.2.1 dJ7_fill_53178_10 rfl (lv_at hl 0 rfl) ?_
        refine lv_iload_n C.1 C.2.1 dJ7_fill_53178_11 rfl (lv_at hl 2 rfl) ?_
        refine lv_iload_n C.1 C.2.1 dJ7_fill_53178_12 rfl (lv_at hl 1 rfl) ?_
        obtain ⟨hi13, hf⟩ := gd_some hf
        replace hf := lt_e hf
        refine uc_whd C hK hP hD hS hi13 dJ7_fill_53178_13 (fun H locs hP hD hS => ?_)
        obtain ⟨x2_14, ex2_14, hf⟩ := lt_some hf
        refine lv_iinc (v := x2_14) (lv' := [(2, .int x2_14), (0, .ref (ad 33)), (1, .int x1), (3, .int x3)]) C.1 C.2.1 dJ7_fill_53178_14 hl (k := 2) rfl (by rw [ex2_14]; rfl) (by decide) rfl (fun ls hl => ?_)
        refine lv_goto (tgt := 5) C.1 C.2.1 dJ7_fill_53178_17 (by decide) ?_
        exact ih5 _ _ _ ls _ _ _ hP hD hS (lv_sub hl [1, 2, 0, 3] rfl) hf
  unfold fc_J7_fill_53178_33 at hf
  refine lv_iconst (v := (0 : Int32)) C.1 C.2.1 dJ7_fill_53178_0 (by decide) ?_
  refine lv_istore_n (lv' := [(2, .int (0 : Int32)), (0, .ref (ad 33)), (1, .int z1)]) C.1 C.2.1 dJ7_fill_53178_1 rfl hl (by decide) rfl (fun ls hl => ?_)
  refine lv_aload_n C.1 C.2.1 dJ7_fill_53178_2 rfl (lv_at hl 1 rfl) ?_
  refine nc_whd C hK hP dJ7_fill_53178_3 ?_
  refine lv_istore_n (lv' := [(3, .int (256 : Int32)), (2, .int (0 : Int32)), (0, .ref (ad 33)), (1, .int z1)]) C.1 C.2.1 dJ7_fill_53178_4 rfl hl (by decide) rfl (fun ls hl => ?_)
  exact hB5 F _ _ _ ls _ _ _ hP hD hS (lv_sub hl [2, 3, 1, 0] rfl) hf
def fc_X7_clear (F : Nat) (σ : CSt) : Option (CSt) :=
  lt (cs_wre_s σ (0 : Int32)) (fun σ2 => bd (fc_J7_fill_53178_33 F σ2 (-1 : Int32)) (fun σ10 => some σ10))
set_option maxHeartbeats 4000000 in
set_option maxRecDepth 100000 in
theorem kc_X7_clear (l : Launch) (D : va_G) (cA : Nat → ClassId) (ad : Nat → Nat) (σ0 : CSt) (η : HS) (F : Nat)  (σr : CSt) (hf : fc_X7_clear F σ0 = some σr) : KC l D cA ad σ0 η yX7_clear cX7_clear 1 none (rmk 1 23) [.ref (ad 32)] none σr := by
  refine KC.of (by decide) (Nat.le_of_ble_eq_true rfl) ?_
  intro p e s m below meth c A hAe hA C hr hlk hK hP hD hS hZ ls hl
  have hl : lv_has ls 1 [(0, .ref (ad 32))] := hl
  unfold fc_X7_clear at hf
  refine lv_aload_n C.1 C.2.1 dX7_clear_0 rfl (lv_at hl 0 rfl) ?_
  refine lv_iconst (v := (0 : Int32)) C.1 C.2.1 dX7_clear_1 (by decide) ?_
  replace hf := lt_e hf
  refine pc_wa_reached C hK hP hD hS wf_X7_21 dX7_clear_2 (fun H locs hP hD hS => ?_)
  refine lv_aload_n C.1 C.2.1 dX7_clear_5 rfl (lv_at hl 0 rfl) ?_
  refine gc_wa_heads C hK hP wf_X7_11 dX7_clear_6 ?_
  refine lv_iconst (v := (-1 : Int32)) C.1 C.2.1 dX7_clear_9 (by decide) ?_
  obtain ⟨σ10, hc10, hf⟩ := bd_some hf
  refine callCS (As := [_, _]) C hK hP hD hA hS hZ wv_X7_25 hl (kc_J7_fill_53178_33 l D cA ad _ η F _  σ10 hc10) rfl rfl rfl (Nat.le_of_ble_eq_true rfl) ⟨Nat.le_refl _, Nat.le_refl _⟩ dX7_clear_10 (fun H locs hP hD hS => ?_)
  obtain rfl := Option.some.inj hf
  exact KC.vret C hr hlk hK hAe hP hD hS rfl dX7_clear_13
def fc_X8_prepare (F : Nat) (σ : CSt) (x2 : Int32) : Option (CSt) :=
  lt (cs_fpen_s σ (cs_cp σ)) (fun σ5 => bd (fc_X1_portSide F σ5 x2 (0 : Int32)) (fun r12 => lt (cs_fss_s σ5 r12) (fun σ15 => bd (fc_X1_portSide F σ15 x2 (1 : Int32)) (fun r22 => lt (cs_fgs_s σ15 r22) (fun σ25 => bd (fc_X1_portX F σ25 x2 (0 : Int32)) (fun r31 => bd (fc_X3_stepX F σ25 (cs_fss σ25)) (fun r38 => lt (r31 + r38) (fun x3_42 => bd (fc_X1_portY F σ25 x2 (0 : Int32)) (fun r46 => bd (fc_X3_stepY F σ25 (cs_fss σ25)) (fun r53 => lt (r46 + r53) (fun x4_57 => bd (fc_X1_portX F σ25 x2 (1 : Int32)) (fun r62 => bd (fc_X3_stepX F σ25 (cs_fgs σ25)) (fun r69 => lt (r62 + r69) (fun x5_73 => bd (fc_X1_portY F σ25 x2 (1 : Int32)) (fun r78 => bd (fc_X3_stepY F σ25 (cs_fgs σ25)) (fun r85 => lt (r78 + r85) (fun x6_89 => bd (fc_X4_clear F σ25) (fun σ95 => bd (fc_X4_addLinesAround F σ95) (fun σ103 => bd (fc_X4_addLinesThrough F σ103 x3_42 x4_57) (fun σ113 => bd (fc_X4_addLinesThrough F σ113 x5_73 x6_89) (fun σ124 => bd (fc_X4_joinNodes F σ124) (fun σ132 => bd (fc_X4_nodeAt F σ132 x3_42 x4_57) (fun r143 => lt (cs_fstart_s σ132 r143) (fun σ146 => bd (fc_X4_nodeAt F σ146 x5_73 x6_89) (fun r158 => lt (cs_fgoal_s σ146 r158) (fun σ161 => bd (fc_J7_fill_53178_24 F σ161 (1000000 : Int32)) (fun σ170 => bd (fc_X7_clear F σ170) (fun σ177 => some σ177))))))))))))))))))))))))))))
set_option maxHeartbeats 4000000 in
set_option maxRecDepth 100000 in
theorem kc_X8_prepare (l : Launch) (D : va_G) (cA : Nat → ClassId) (ad : Nat → Nat) (σ0 : CSt) (η : HS) (F : Nat) (z2 : Int32) (σr : CSt) (hf : fc_X8_prepare F σ0 z2 = some σr) : KC l D cA ad σ0 η yX8_prepare cX8_prepare 7 none (rmk 3 85) [.ref (ad 23), .ref (ad 1), .int z2] none σr := by
  refine KC.of (by decide) (Nat.le_of_ble_eq_true rfl) ?_
  intro p e s m below meth c A hAe hA C hr hlk hK hP hD hS hZ ls hl
  have hl : lv_has ls 7 [(0, .ref (ad 23)), (1, .ref (ad 1)), (2, .int z2)] := hl
  unfold fc_X8_prepare at hf
  refine lv_aload_n C.1 C.2.1 dX8_prepare_0 rfl (lv_at hl 0 rfl) ?_
  refine lv_aload_n C.1 C.2.1 dX8_prepare_1 rfl (lv_at hl 1 rfl) ?_
  refine gc_cv_penalty C hK hP wf_X8_73 dX8_prepare_2 ?_
  replace hf := lt_e hf
  refine pc_fi_penalty C hK hP hD hS wf_X8_78 dX8_prepare_5 (fun H locs hP hD hS => ?_)
  refine lv_aload_n C.1 C.2.1 dX8_prepare_8 rfl (lv_at hl 0 rfl) ?_
  refine lv_aload_n C.1 C.2.1 dX8_prepare_9 rfl (lv_at hl 1 rfl) ?_
  refine lv_iload_n C.1 C.2.1 dX8_prepare_10 rfl (lv_at hl 2 rfl) ?_
  refine lv_iconst (v := (0 : Int32)) C.1 C.2.1 dX8_prepare_11 (by decide) ?_
  obtain ⟨r12, hc12, hf⟩ := bd_some hf
  refine cV_go (runRVc (As := [_, _]) C hK hP hZ hS wv_X8_79 hl (kc_X1_portSide l D cA ad _ η F _ _  r12 hc12) (rcC 1 2 hK hP rfl rfl) rfl rfl rfl (Nat.le_of_ble_eq_true rfl) ⟨Nat.le_refl _, Nat.le_refl _⟩ dX8_prepare_12) ?_
  replace hf := lt_e hf
  refine pc_fi_startSide C hK hP hD hS wf_X8_47 dX8_prepare_15 (fun H locs hP hD hS => ?_)
  refine lv_aload_n C.1 C.2.1 dX8_prepare_18 rfl (lv_at hl 0 rfl) ?_
  refine lv_aload_n C.1 C.2.1 dX8_prepare_19 rfl (lv_at hl 1 rfl) ?_
  refine lv_iload_n C.1 C.2.1 dX8_prepare_20 rfl (lv_at hl 2 rfl) ?_
  refine lv_iconst (v := (1 : Int32)) C.1 C.2.1 dX8_prepare_21 (by decide) ?_
  obtain ⟨r22, hc22, hf⟩ := bd_some hf
  refine cV_go (runRVc (As := [_, _]) C hK hP hZ hS wv_X8_79 hl (kc_X1_portSide l D cA ad _ η F _ _  r22 hc22) (rcC 1 2 hK hP rfl rfl) rfl rfl rfl (Nat.le_of_ble_eq_true rfl) ⟨Nat.le_refl _, Nat.le_refl _⟩ dX8_prepare_22) ?_
  replace hf := lt_e hf
  refine pc_fi_goalSide C hK hP hD hS wf_X8_82 dX8_prepare_25 (fun H locs hP hD hS => ?_)
  refine lv_aload_n C.1 C.2.1 dX8_prepare_28 rfl (lv_at hl 1 rfl) ?_
  refine lv_iload_n C.1 C.2.1 dX8_prepare_29 rfl (lv_at hl 2 rfl) ?_
  refine lv_iconst (v := (0 : Int32)) C.1 C.2.1 dX8_prepare_30 (by decide) ?_
  obtain ⟨r31, hc31, hf⟩ := bd_some hf
  refine cV_go (runRVc (As := [_, _]) C hK hP hZ hS wv_X8_85 hl (kc_X1_portX l D cA ad _ η F _ _  r31 hc31) (rcC 1 2 hK hP rfl rfl) rfl rfl rfl (Nat.le_of_ble_eq_true rfl) ⟨Nat.le_refl _, Nat.le_refl _⟩ dX8_prepare_31) ?_
  refine lv_aload_n C.1 C.2.1 dX8_prepare_34 rfl (lv_at hl 0 rfl) ?_
  refine gc_fi_startSide C hK hP wf_X8_47 dX8_prepare_35 ?_
  obtain ⟨r38, hc38, hf⟩ := bd_some hf
  refine cV_go (runRSc (As := [_]) C hK hP hZ hS wv_X8_88 hl (kc_X3_stepX l D cA ad _ η F _  r38 hc38) rfl rfl rfl (Nat.le_of_ble_eq_true rfl) ⟨Nat.le_refl _, Nat.le_refl _⟩ dX8_prepare_38) ?_
  refine lv_iadd C.1 C.2.1 dX8_prepare_41 ?_
  obtain ⟨x3_42, ex3_42, hf⟩ := lt_some hf
  refine lv_tope ex3_42 ?_
  refine lv_istore_n (lv' := [(3, .int x3_42), (0, .ref (ad 23)), (1, .ref (ad 1)), (2, .int z2)]) C.1 C.2.1 dX8_prepare_42 rfl hl (by decide) rfl (fun ls hl => ?_)
  refine lv_aload_n C.1 C.2.1 dX8_prepare_43 rfl (lv_at hl 2 rfl) ?_
  refine lv_iload_n C.1 C.2.1 dX8_prepare_44 rfl (lv_at hl 3 rfl) ?_
  refine lv_iconst (v := (0 : Int32)) C.1 C.2.1 dX8_prepare_45 (by decide) ?_
  obtain ⟨r46, hc46, hf⟩ := bd_some hf
  refine cV_go (runRVc (As := [_, _]) C hK hP hZ hS wv_X8_91 hl (kc_X1_portY l D cA ad _ η F _ _  r46 hc46) (rcC 1 2 hK hP rfl rfl) rfl rfl rfl (Nat.le_of_ble_eq_true rfl) ⟨Nat.le_refl _, Nat.le_refl _⟩ dX8_prepare_46) ?_
  refine lv_aload_n C.1 C.2.1 dX8_prepare_49 rfl (lv_at hl 1 rfl) ?_
  refine gc_fi_startSide C hK hP wf_X8_47 dX8_prepare_50 ?_
  obtain ⟨r53, hc53, hf⟩ := bd_some hf
  refine cV_go (runRSc (As := [_]) C hK hP hZ hS wv_X8_94 hl (kc_X3_stepY l D cA ad _ η F _  r53 hc53) rfl rfl rfl (Nat.le_of_ble_eq_true rfl) ⟨Nat.le_refl _, Nat.le_refl _⟩ dX8_prepare_53) ?_
  refine lv_iadd C.1 C.2.1 dX8_prepare_56 ?_
  obtain ⟨x4_57, ex4_57, hf⟩ := lt_some hf
  refine lv_tope ex4_57 ?_
  refine lv_istore (lv' := [(4, .int x4_57), (3, .int x3_42), (0, .ref (ad 23)), (1, .ref (ad 1)), (2, .int z2)]) C.1 C.2.1 dX8_prepare_57 hl (by decide) rfl (fun ls hl => ?_)
  refine lv_aload_n C.1 C.2.1 dX8_prepare_59 rfl (lv_at hl 3 rfl) ?_
  refine lv_iload_n C.1 C.2.1 dX8_prepare_60 rfl (lv_at hl 4 rfl) ?_
  refine lv_iconst (v := (1 : Int32)) C.1 C.2.1 dX8_prepare_61 (by decide) ?_
  obtain ⟨r62, hc62, hf⟩ := bd_some hf
  refine cV_go (runRVc (As := [_, _]) C hK hP hZ hS wv_X8_85 hl (kc_X1_portX l D cA ad _ η F _ _  r62 hc62) (rcC 1 2 hK hP rfl rfl) rfl rfl rfl (Nat.le_of_ble_eq_true rfl) ⟨Nat.le_refl _, Nat.le_refl _⟩ dX8_prepare_62) ?_
  refine lv_aload_n C.1 C.2.1 dX8_prepare_65 rfl (lv_at hl 2 rfl) ?_
  refine gc_fi_goalSide C hK hP wf_X8_82 dX8_prepare_66 ?_
  obtain ⟨r69, hc69, hf⟩ := bd_some hf
  refine cV_go (runRSc (As := [_]) C hK hP hZ hS wv_X8_88 hl (kc_X3_stepX l D cA ad _ η F _  r69 hc69) rfl rfl rfl (Nat.le_of_ble_eq_true rfl) ⟨Nat.le_refl _, Nat.le_refl _⟩ dX8_prepare_69) ?_
  refine lv_iadd C.1 C.2.1 dX8_prepare_72 ?_
  obtain ⟨x5_73, ex5_73, hf⟩ := lt_some hf
  refine lv_tope ex5_73 ?_
  refine lv_istore (lv' := [(5, .int x5_73), (4, .int x4_57), (3, .int x3_42), (0, .ref (ad 23)), (1, .ref (ad 1)), (2, .int z2)]) C.1 C.2.1 dX8_prepare_73 hl (by decide) rfl (fun ls hl => ?_)
  refine lv_aload_n C.1 C.2.1 dX8_prepare_75 rfl (lv_at hl 4 rfl) ?_
  refine lv_iload_n C.1 C.2.1 dX8_prepare_76 rfl (lv_at hl 5 rfl) ?_
  refine lv_iconst (v := (1 : Int32)) C.1 C.2.1 dX8_prepare_77 (by decide) ?_
  obtain ⟨r78, hc78, hf⟩ := bd_some hf
  refine cV_go (runRVc (As := [_, _]) C hK hP hZ hS wv_X8_91 hl (kc_X1_portY l D cA ad _ η F _ _  r78 hc78) (rcC 1 2 hK hP rfl rfl) rfl rfl rfl (Nat.le_of_ble_eq_true rfl) ⟨Nat.le_refl _, Nat.le_refl _⟩ dX8_prepare_78) ?_
  refine lv_aload_n C.1 C.2.1 dX8_prepare_81 rfl (lv_at hl 3 rfl) ?_
  refine gc_fi_goalSide C hK hP wf_X8_82 dX8_prepare_82 ?_
  obtain ⟨r85, hc85, hf⟩ := bd_some hf
  refine cV_go (runRSc (As := [_]) C hK hP hZ hS wv_X8_94 hl (kc_X3_stepY l D cA ad _ η F _  r85 hc85) rfl rfl rfl (Nat.le_of_ble_eq_true rfl) ⟨Nat.le_refl _, Nat.le_refl _⟩ dX8_prepare_85) ?_
  refine lv_iadd C.1 C.2.1 dX8_prepare_88 ?_
  obtain ⟨x6_89, ex6_89, hf⟩ := lt_some hf
  refine lv_tope ex6_89 ?_
  refine lv_istore (lv' := [(6, .int x6_89), (5, .int x5_73), (4, .int x4_57), (3, .int x3_42), (0, .ref (ad 23)), (1, .ref (ad 1)), (2, .int z2)]) C.1 C.2.1 dX8_prepare_89 hl (by decide) rfl (fun ls hl => ?_)
  refine lv_aload_n C.1 C.2.1 dX8_prepare_91 rfl (lv_at hl 4 rfl) ?_
  refine gc_fi_grid C hK hP wf_X8_14 dX8_prepare_92 ?_
  obtain ⟨σ95, hc95, hf⟩ := bd_some hf
  refine callCV (As := []) C hK hP hD hA hS hZ wv_X8_97 hl (kc_X4_clear l D cA ad _ η F   σ95 hc95) (rcC 27 4 hK hP rfl rfl) rfl rfl rfl (Nat.le_of_ble_eq_true rfl) ⟨Nat.le_refl _, Nat.le_refl _⟩ dX8_prepare_95 (fun H locs hP hD hS => ?_)
  refine lv_aload_n C.1 C.2.1 dX8_prepare_98 rfl (lv_at hl 4 rfl) ?_
  refine gc_fi_grid C hK hP wf_X8_14 dX8_prepare_99 ?_
  refine lv_aload_n C.1 C.2.1 dX8_prepare_102 rfl (lv_at hl 5 rfl) ?_
  obtain ⟨σ103, hc103, hf⟩ := bd_some hf
  refine callCV (As := [_]) C hK hP hD hA hS hZ wv_X8_100 hl (kc_X4_addLinesAround l D cA ad _ η F   σ103 hc103) (rcC 27 4 hK hP rfl rfl) rfl rfl rfl (Nat.le_of_ble_eq_true rfl) ⟨Nat.le_refl _, Nat.le_refl _⟩ dX8_prepare_103 (fun H locs hP hD hS => ?_)
  refine lv_aload_n C.1 C.2.1 dX8_prepare_106 rfl (lv_at hl 4 rfl) ?_
  refine gc_fi_grid C hK hP wf_X8_14 dX8_prepare_107 ?_
  refine lv_iload_n C.1 C.2.1 dX8_prepare_110 rfl (lv_at hl 3 rfl) ?_
  refine lv_iload C.1 C.2.1 dX8_prepare_111 (lv_at hl 2 rfl) ?_
  obtain ⟨σ113, hc113, hf⟩ := bd_some hf
  refine callCV (As := [_, _]) C hK hP hD hA hS hZ wv_X8_104 hl (kc_X4_addLinesThrough l D cA ad _ η F _ _  σ113 hc113) (rcC 27 4 hK hP rfl rfl) rfl rfl rfl (Nat.le_of_ble_eq_true rfl) ⟨Nat.le_refl _, Nat.le_refl _⟩ dX8_prepare_113 (fun H locs hP hD hS => ?_)
  refine lv_aload_n C.1 C.2.1 dX8_prepare_116 rfl (lv_at hl 4 rfl) ?_
  refine gc_fi_grid C hK hP wf_X8_14 dX8_prepare_117 ?_
  refine lv_iload C.1 C.2.1 dX8_prepare_120 (lv_at hl 1 rfl) ?_
  refine lv_iload C.1 C.2.1 dX8_prepare_122 (lv_at hl 0 rfl) ?_
  obtain ⟨σ124, hc124, hf⟩ := bd_some hf
  refine callCV (As := [_, _]) C hK hP hD hA hS hZ wv_X8_104 hl (kc_X4_addLinesThrough l D cA ad _ η F _ _  σ124 hc124) (rcC 27 4 hK hP rfl rfl) rfl rfl rfl (Nat.le_of_ble_eq_true rfl) ⟨Nat.le_refl _, Nat.le_refl _⟩ dX8_prepare_124 (fun H locs hP hD hS => ?_)
  refine lv_aload_n C.1 C.2.1 dX8_prepare_127 rfl (lv_at hl 4 rfl) ?_
  refine gc_fi_grid C hK hP wf_X8_14 dX8_prepare_128 ?_
  refine lv_aload_n C.1 C.2.1 dX8_prepare_131 rfl (lv_at hl 5 rfl) ?_
  obtain ⟨σ132, hc132, hf⟩ := bd_some hf
  refine callCV (As := [_]) C hK hP hD hA hS hZ wv_X8_107 hl (kc_X4_joinNodes l D cA ad _ η F   σ132 hc132) (rcC 27 4 hK hP rfl rfl) rfl rfl rfl (Nat.le_of_ble_eq_true rfl) ⟨Nat.le_refl _, Nat.le_refl _⟩ dX8_prepare_132 (fun H locs hP hD hS => ?_)
  refine lv_aload_n C.1 C.2.1 dX8_prepare_135 rfl (lv_at hl 4 rfl) ?_
  refine lv_aload_n C.1 C.2.1 dX8_prepare_136 rfl (lv_at hl 4 rfl) ?_
  refine gc_fi_grid C hK hP wf_X8_14 dX8_prepare_137 ?_
  refine lv_iload_n C.1 C.2.1 dX8_prepare_140 rfl (lv_at hl 3 rfl) ?_
  refine lv_iload C.1 C.2.1 dX8_prepare_141 (lv_at hl 2 rfl) ?_
  obtain ⟨r143, hc143, hf⟩ := bd_some hf
  refine cV_go (runRVc (As := [_, _]) C hK hP hZ hS wv_X8_110 hl (kc_X4_nodeAt l D cA ad _ η F _ _  r143 hc143) (rcC 27 4 hK hP rfl rfl) rfl rfl rfl (Nat.le_of_ble_eq_true rfl) ⟨Nat.le_refl _, Nat.le_refl _⟩ dX8_prepare_143) ?_
  replace hf := lt_e hf
  refine pc_fi_start C hK hP hD hS wf_X8_43 dX8_prepare_146 (fun H locs hP hD hS => ?_)
  refine lv_aload_n C.1 C.2.1 dX8_prepare_149 rfl (lv_at hl 4 rfl) ?_
  refine lv_aload_n C.1 C.2.1 dX8_prepare_150 rfl (lv_at hl 4 rfl) ?_
  refine gc_fi_grid C hK hP wf_X8_14 dX8_prepare_151 ?_
  refine lv_iload C.1 C.2.1 dX8_prepare_154 (lv_at hl 1 rfl) ?_
  refine lv_iload C.1 C.2.1 dX8_prepare_156 (lv_at hl 0 rfl) ?_
  obtain ⟨r158, hc158, hf⟩ := bd_some hf
  refine cV_go (runRVc (As := [_, _]) C hK hP hZ hS wv_X8_110 hl (kc_X4_nodeAt l D cA ad _ η F _ _  r158 hc158) (rcC 27 4 hK hP rfl rfl) rfl rfl rfl (Nat.le_of_ble_eq_true rfl) ⟨Nat.le_refl _, Nat.le_refl _⟩ dX8_prepare_158) ?_
  replace hf := lt_e hf
  refine pc_fi_goal C hK hP hD hS wf_X8_54 dX8_prepare_161 (fun H locs hP hD hS => ?_)
  refine lv_aload_n C.1 C.2.1 dX8_prepare_164 rfl (lv_at hl 4 rfl) ?_
  refine gc_fi_rests C hK hP wf_X8_29 dX8_prepare_165 ?_
  refine lv_ldc (v := (1000000 : Int32)) C.1 C.2.1 C.2.2.2.1 (C.2.2.2.2 _ wc_X8_72) dX8_prepare_168 ?_
  obtain ⟨σ170, hc170, hf⟩ := bd_some hf
  refine callCS (As := [_, _]) C hK hP hD hA hS hZ wv_X8_113 hl (kc_J7_fill_53178_24 l D cA ad _ η F _  σ170 hc170) rfl rfl rfl (Nat.le_of_ble_eq_true rfl) ⟨Nat.le_refl _, Nat.le_refl _⟩ dX8_prepare_170 (fun H locs hP hD hS => ?_)
  refine lv_aload_n C.1 C.2.1 dX8_prepare_173 rfl (lv_at hl 4 rfl) ?_
  refine gc_fi_waiting C hK hP wf_X8_25 dX8_prepare_174 ?_
  obtain ⟨σ177, hc177, hf⟩ := bd_some hf
  refine callCV (As := []) C hK hP hD hA hS hZ wv_X8_119 hl (kc_X7_clear l D cA ad _ η F   σ177 hc177) (rcC 32 7 hK hP rfl rfl) rfl rfl rfl (Nat.le_of_ble_eq_true rfl) ⟨Nat.le_refl _, Nat.le_refl _⟩ dX8_prepare_177 (fun H locs hP hD hS => ?_)
  obtain rfl := Option.some.inj hf
  exact KC.vret C hr hlk hK hAe hP hD hS rfl dX8_prepare_180
def fc_X8_findCost_L124 (F : Nat) (σ : CSt) (s0 : Int32) : Option (Int32 × CSt) :=
  some (s0, σ)
def fc_X8_findCost_L99 (F : Nat) (σ : CSt) (x3 : Int32) : Option (Int32 × CSt) :=
  gd (ix x3 1296 = true) (if (cs_frests σ x3.toNatClampNeg) < (1000000 : Int32) then (gd (ix x3 1296 = true) (fc_X8_findCost_L124 F σ ((2 : Int32) + (cs_frests σ x3.toNatClampNeg)))) else (fc_X8_findCost_L124 F σ (-1000 : Int32)))
def fc_X8_findCost_L55_c (F : Nat) (k55 : CSt → Int32 → Int32 → Option (Int32 × CSt)) (σ : CSt) (x3 : Int32) (x4 : Int32) : Option (Int32 × CSt) :=
  if (1296 : Int32) ≤ x4 then (fc_X8_findCost_L99 F σ x3) else (bd2 (fc_X7_takeCheapest F σ) (fun r67 σ67 => if r67 = (-1 : Int32) then (fc_X8_findCost_L99 F σ67 x3) else (if r67 = x3 then (fc_X8_findCost_L99 F σ67 x3) else (bd (fc_X8_goBackFrom F σ67 r67) (fun σ90 => lt (x4 + (1 : Int32)) (fun x4_93 => k55 σ90 x3 x4_93))))))
def fc_X8_findCost_L55 (F : Nat) (n : Nat) (σ : CSt) (x3 : Int32) (x4 : Int32) : Option (Int32 × CSt) := lpN (fun (k : CSt × Int32 × Int32 → Option (Int32 × CSt)) a => fc_X8_findCost_L55_c F (fun σ x3 x4 => k (σ, x3, x4)) a.1 a.2.1 a.2.2) n (σ, x3, x4)
def fc_X8_findCost_L21_c (F : Nat) (k21 : CSt → Int32 → Int32 → Option (Int32 × CSt)) (σ : CSt) (x3 : Int32) (x4 : Int32) : Option (Int32 × CSt) :=
  if (4 : Int32) ≤ x4 then (fc_X8_findCost_L55 F F σ x3 (0 : Int32)) else (bd (fc_X8_stateOf F σ (cs_fgoal σ) x4) (fun r34 => bd (fc_X8_restAtGoal F σ x4) (fun r40 => bd (fc_X8_offer F σ r34 r40) (fun σ43 => lt (x4 + (1 : Int32)) (fun x4_46 => k21 σ43 x3 x4_46)))))
def fc_X8_findCost_L21 (F : Nat) (n : Nat) (σ : CSt) (x3 : Int32) (x4 : Int32) : Option (Int32 × CSt) := lpN (fun (k : CSt × Int32 × Int32 → Option (Int32 × CSt)) a => fc_X8_findCost_L21_c F (fun σ x3 x4 => k (σ, x3, x4)) a.1 a.2.1 a.2.2) n (σ, x3, x4)
def fc_X8_findCost (F : Nat) (σ : CSt) (x2 : Int32) : Option (Int32 × CSt) :=
  bd (fc_X8_prepare F σ x2) (fun σ3 => bd (fc_X8_stateOf F σ3 (cs_fstart σ3) (cs_fss σ3)) (fun r14 => fc_X8_findCost_L21 F F σ3 r14 (0 : Int32)))
set_option maxHeartbeats 4000000 in
set_option maxRecDepth 100000 in
theorem kc_X8_findCost (l : Launch) (D : va_G) (cA : Nat → ClassId) (ad : Nat → Nat) (σ0 : CSt) (η : HS) (F : Nat) (z2 : Int32) (r : Int32) (σr : CSt) (hf : fc_X8_findCost F σ0 z2 = some (r, σr)) : KC l D cA ad σ0 η yX8_findCost cX8_findCost 6 (some .int) (rmk 4 111) [.ref (ad 23), .ref (ad 1), .int z2] (some (.int r)) σr := by
  refine KC.of (by decide) (Nat.le_of_ble_eq_true rfl) ?_
  intro p e s m below meth c A hAe hA C hr hlk hK hP hD hS hZ ls hl
  have hl : lv_has ls 6 [(0, .ref (ad 23)), (1, .ref (ad 1)), (2, .int z2)] := hl
  have hB124 : ∀ (H : Heap) (locs : List Loc) (σ : CSt) (ls : Array Slot) (s0 : Int32), HC D cA ad σ η H → va_D A (wC cA ad σ η) → va_S A s.heap H locs → lv_has ls 6 [] → fc_X8_findCost_L124 F σ s0 = some (r, σr) → WC p l e 4 111 s m [.ref (ad 23), .ref (ad 1), .int z2] below meth c (some (.int r)) D cA ad σ0 η σr A H locs (F0 m 124 ls [.int s0]) := by
    intro H locs σ ls s0 hP hD hS hl hf
    unfold fc_X8_findCost_L124 at hf
    obtain ⟨rfl, rfl⟩ := Prod.mk.inj (Option.some.inj hf)
    exact KC.iret C hr hlk hK hAe hP hD hS rfl dX8_findCost_124
  have hB99 : ∀ (H : Heap) (locs : List Loc) (σ : CSt) (ls : Array Slot) (x3 : Int32), HC D cA ad σ η H → va_D A (wC cA ad σ η) → va_S A s.heap H locs → lv_has ls 6 [(0, .ref (ad 23)), (3, .int x3)] → fc_X8_findCost_L99 F σ x3 = some (r, σr) → WC p l e 4 111 s m [.ref (ad 23), .ref (ad 1), .int z2] below meth c (some (.int r)) D cA ad σ0 η σr A H locs (F0 m 99 ls []) := by
    intro H locs σ ls x3 hP hD hS hl hf
    unfold fc_X8_findCost_L99 at hf
    refine lv_aload_n C.1 C.2.1 dX8_findCost_99 rfl (lv_at hl 0 rfl) ?_
    refine gc_fi_rests C hK hP wf_X8_29 dX8_findCost_100 ?_
    refine lv_iload_n C.1 C.2.1 dX8_findCost_103 rfl (lv_at hl 1 rfl) ?_
    obtain ⟨hi104, hf⟩ := gd_some hf
    refine lc_frests C hK hP hi104 dX8_findCost_104 ?_
    refine lv_ldc (v := (1000000 : Int32)) C.1 C.2.1 C.2.2.2.1 (C.2.2.2.2 _ wc_X8_72) dX8_findCost_105 ?_
    refine lv_icmp_lt (tgt := 116) C.1 C.2.1 dX8_findCost_107 (by decide) (fun c107 => ?_) (fun c107 => ?_)
    · have hf := br_p c107 hf
      refine lv_iconst (v := (2 : Int32)) C.1 C.2.1 dX8_findCost_116 (by decide) ?_
      refine lv_aload_n C.1 C.2.1 dX8_findCost_117 rfl (lv_at hl 0 rfl) ?_
      refine gc_fi_rests C hK hP wf_X8_29 dX8_findCost_118 ?_
      refine lv_iload_n C.1 C.2.1 dX8_findCost_121 rfl (lv_at hl 1 rfl) ?_
      obtain ⟨hi122, hf⟩ := gd_some hf
      refine lc_frests C hK hP hi122 dX8_findCost_122 ?_
      refine lv_iadd C.1 C.2.1 dX8_findCost_123 ?_
      exact hB124 _ _ _ ls _ hP hD hS (lv_sub hl [] rfl) hf
    · have hf := br_n c107 hf
      refine lv_sipush (v := (-1000 : Int32)) C.1 C.2.1 dX8_findCost_110 (by decide) ?_
      refine lv_goto (tgt := 124) C.1 C.2.1 dX8_findCost_113 (by decide) ?_
      exact hB124 _ _ _ ls _ hP hD hS (lv_sub hl [] rfl) hf
  have hB55 : ∀ (n55 : Nat) (H : Heap) (locs : List Loc) (σ : CSt) (ls : Array Slot) (x3 : Int32) (x4 : Int32), HC D cA ad σ η H → va_D A (wC cA ad σ η) → va_S A s.heap H locs → lv_has ls 6 [(0, .ref (ad 23)), (3, .int x3), (4, .int x4)] → fc_X8_findCost_L55 F n55 σ x3 x4 = some (r, σr) → WC p l e 4 111 s m [.ref (ad 23), .ref (ad 1), .int z2] below meth c (some (.int r)) D cA ad σ0 η σr A H locs (F0 m 55 ls []) := by
    intro n55
    induction n55 with
    | zero =>
      intro H locs σ ls x3 x4 hP hD hS hl hf
      cases (show (none : Option _) = _ from hf)
    | succ n55 ih55 =>
      intro H locs σ ls x3 x4 hP hD hS hl hf
      have hf : fc_X8_findCost_L55_c F (fc_X8_findCost_L55 F n55) σ x3 x4 = some (r, σr) := hf
      unfold fc_X8_findCost_L55_c at hf
      refine lv_iload C.1 C.2.1 dX8_findCost_55 (lv_at hl 2 rfl) ?_
      refine lv_sipush (v := (1296 : Int32)) C.1 C.2.1 dX8_findCost_57 (by decide) ?_
      refine lv_icmp_ge (tgt := 99) C.1 C.2.1 dX8_findCost_60 (by decide) (fun c60 => ?_) (fun c60 => ?_)
      · have hf := br_p c60 hf
        exact hB99 _ _ _ ls _ hP hD hS (lv_sub hl [0, 1] rfl) hf
      · have hf := br_n c60 hf
        refine lv_aload_n C.1 C.2.1 dX8_findCost_63 rfl (lv_at hl 0 rfl) ?_
        refine gc_fi_waiting C hK hP wf_X8_25 dX8_findCost_64 ?_
        obtain ⟨r67, σ67, hc67, hf⟩ := bd2_some hf
        refine callCV (As := []) C hK hP hD hA hS hZ wv_X8_65 hl (kc_X7_takeCheapest l D cA ad _ η F   r67 σ67 hc67) (rcC 32 7 hK hP rfl rfl) rfl rfl rfl (Nat.le_of_ble_eq_true rfl) ⟨Nat.le_refl _, Nat.le_refl _⟩ dX8_findCost_67 (fun H locs hP hD hS => ?_)
        refine lv_istore (lv' := [(5, .int r67), (0, .ref (ad 23)), (3, .int x3), (4, .int x4)]) C.1 C.2.1 dX8_findCost_70 hl (by decide) rfl (fun ls hl => ?_)
        refine lv_iload C.1 C.2.1 dX8_findCost_72 (lv_at hl 0 rfl) ?_
        refine lv_iconst (v := (-1 : Int32)) C.1 C.2.1 dX8_findCost_74 (by decide) ?_
        refine lv_icmp_eq (tgt := 99) C.1 C.2.1 dX8_findCost_75 (by decide) (fun c75 => ?_) (fun c75 => ?_)
        · have hf := br_p c75 hf
          exact hB99 _ _ _ ls _ hP hD hS (lv_sub hl [1, 2] rfl) hf
        · have hf := br_n c75 hf
          refine lv_iload C.1 C.2.1 dX8_findCost_78 (lv_at hl 0 rfl) ?_
          refine lv_iload_n C.1 C.2.1 dX8_findCost_80 rfl (lv_at hl 2 rfl) ?_
          refine lv_icmp_ne (tgt := 87) C.1 C.2.1 dX8_findCost_81 (by decide) (fun c81 => ?_) (fun c81 => ?_)
          · have hf := br_n c81 hf
            refine lv_aload_n C.1 C.2.1 dX8_findCost_87 rfl (lv_at hl 1 rfl) ?_
            refine lv_iload C.1 C.2.1 dX8_findCost_88 (lv_at hl 0 rfl) ?_
            obtain ⟨σ90, hc90, hf⟩ := bd_some hf
            refine callCV (As := [_]) C hK hP hD hA hS hZ wv_X8_69 hl (kc_X8_goBackFrom l D cA ad _ η F _  σ90 hc90) (rcC 23 8 hK hP rfl rfl) rfl rfl rfl (Nat.le_of_ble_eq_true rfl) ⟨Nat.le_refl _, Nat.le_refl _⟩ dX8_findCost_90 (fun H locs hP hD hS => ?_)
            obtain ⟨x4_93, ex4_93, hf⟩ := lt_some hf
            refine lv_iinc (v := x4_93) (lv' := [(4, .int x4_93), (5, .int r67), (0, .ref (ad 23)), (3, .int x3)]) C.1 C.2.1 dX8_findCost_93 hl (k := 3) rfl (by rw [ex4_93]; rfl) (by decide) rfl (fun ls hl => ?_)
            refine lv_goto (tgt := 55) C.1 C.2.1 dX8_findCost_96 (by decide) ?_
            exact ih55 _ _ _ ls _ _ hP hD hS (lv_sub hl [2, 3, 0] rfl) hf
          · have hf := br_p c81 hf
            refine lv_goto (tgt := 99) C.1 C.2.1 dX8_findCost_84 (by decide) ?_
            exact hB99 _ _ _ ls _ hP hD hS (lv_sub hl [1, 2] rfl) hf
  have hB21 : ∀ (n21 : Nat) (H : Heap) (locs : List Loc) (σ : CSt) (ls : Array Slot) (x3 : Int32) (x4 : Int32), HC D cA ad σ η H → va_D A (wC cA ad σ η) → va_S A s.heap H locs → lv_has ls 6 [(0, .ref (ad 23)), (3, .int x3), (4, .int x4)] → fc_X8_findCost_L21 F n21 σ x3 x4 = some (r, σr) → WC p l e 4 111 s m [.ref (ad 23), .ref (ad 1), .int z2] below meth c (some (.int r)) D cA ad σ0 η σr A H locs (F0 m 21 ls []) := by
    intro n21
    induction n21 with
    | zero =>
      intro H locs σ ls x3 x4 hP hD hS hl hf
      cases (show (none : Option _) = _ from hf)
    | succ n21 ih21 =>
      intro H locs σ ls x3 x4 hP hD hS hl hf
      have hf : fc_X8_findCost_L21_c F (fc_X8_findCost_L21 F n21) σ x3 x4 = some (r, σr) := hf
      unfold fc_X8_findCost_L21_c at hf
      refine lv_iload C.1 C.2.1 dX8_findCost_21 (lv_at hl 2 rfl) ?_
      refine lv_iconst (v := (4 : Int32)) C.1 C.2.1 dX8_findCost_23 (by decide) ?_
      refine lv_icmp_ge (tgt := 52) C.1 C.2.1 dX8_findCost_24 (by decide) (fun c24 => ?_) (fun c24 => ?_)
      · have hf := br_p c24 hf
        refine lv_iconst (v := (0 : Int32)) C.1 C.2.1 dX8_findCost_52 (by decide) ?_
        refine lv_istore (lv' := [(4, .int (0 : Int32)), (0, .ref (ad 23)), (3, .int x3)]) C.1 C.2.1 dX8_findCost_53 hl (by decide) rfl (fun ls hl => ?_)
        exact hB55 F _ _ _ ls _ _ hP hD hS (lv_sub hl [1, 2, 0] rfl) hf
      · have hf := br_n c24 hf
        refine lv_aload_n C.1 C.2.1 dX8_findCost_27 rfl (lv_at hl 0 rfl) ?_
        refine lv_aload_n C.1 C.2.1 dX8_findCost_28 rfl (lv_at hl 0 rfl) ?_
        refine gc_fi_goal C hK hP wf_X8_54 dX8_findCost_29 ?_
        refine lv_iload C.1 C.2.1 dX8_findCost_32 (lv_at hl 2 rfl) ?_
        obtain ⟨r34, hc34, hf⟩ := bd_some hf
        refine cV_go (runRSc (As := [_, _]) C hK hP hZ hS wv_X8_50 hl (kc_X8_stateOf l D cA ad _ η F _ _  r34 hc34) rfl rfl rfl (Nat.le_of_ble_eq_true rfl) ⟨Nat.le_refl _, Nat.le_refl _⟩ dX8_findCost_34) ?_
        refine lv_aload_n C.1 C.2.1 dX8_findCost_37 rfl (lv_at hl 0 rfl) ?_
        refine lv_iload C.1 C.2.1 dX8_findCost_38 (lv_at hl 2 rfl) ?_
        obtain ⟨r40, hc40, hf⟩ := bd_some hf
        refine cV_go (runRVc (As := [_]) C hK hP hZ hS wv_X8_57 hl (kc_X8_restAtGoal l D cA ad _ η F _  r40 hc40) (rcC 23 8 hK hP rfl rfl) rfl rfl rfl (Nat.le_of_ble_eq_true rfl) ⟨Nat.le_refl _, Nat.le_refl _⟩ dX8_findCost_40) ?_
        obtain ⟨σ43, hc43, hf⟩ := bd_some hf
        refine callCV (As := [_, _]) C hK hP hD hA hS hZ wv_X8_61 hl (kc_X8_offer l D cA ad _ η F _ _  σ43 hc43) (rcC 23 8 hK hP rfl rfl) rfl rfl rfl (Nat.le_of_ble_eq_true rfl) ⟨Nat.le_refl _, Nat.le_refl _⟩ dX8_findCost_43 (fun H locs hP hD hS => ?_)
        obtain ⟨x4_46, ex4_46, hf⟩ := lt_some hf
        refine lv_iinc (v := x4_46) (lv' := [(4, .int x4_46), (0, .ref (ad 23)), (3, .int x3)]) C.1 C.2.1 dX8_findCost_46 hl (k := 2) rfl (by rw [ex4_46]; rfl) (by decide) rfl (fun ls hl => ?_)
        refine lv_goto (tgt := 21) C.1 C.2.1 dX8_findCost_49 (by decide) ?_
        exact ih21 _ _ _ ls _ _ hP hD hS (lv_sub hl [1, 2, 0] rfl) hf
  unfold fc_X8_findCost at hf
  refine lv_aload_n C.1 C.2.1 dX8_findCost_0 rfl (lv_at hl 0 rfl) ?_
  refine lv_aload_n C.1 C.2.1 dX8_findCost_1 rfl (lv_at hl 1 rfl) ?_
  refine lv_iload_n C.1 C.2.1 dX8_findCost_2 rfl (lv_at hl 2 rfl) ?_
  obtain ⟨σ3, hc3, hf⟩ := bd_some hf
  refine callCV (As := [_, _]) C hK hP hD hA hS hZ wv_X8_39 hl (kc_X8_prepare l D cA ad _ η F _  σ3 hc3) (rcC 23 8 hK hP rfl rfl) rfl rfl rfl (Nat.le_of_ble_eq_true rfl) ⟨Nat.le_refl _, Nat.le_refl _⟩ dX8_findCost_3 (fun H locs hP hD hS => ?_)
  refine lv_aload_n C.1 C.2.1 dX8_findCost_6 rfl (lv_at hl 0 rfl) ?_
  refine gc_fi_start C hK hP wf_X8_43 dX8_findCost_7 ?_
  refine lv_aload_n C.1 C.2.1 dX8_findCost_10 rfl (lv_at hl 0 rfl) ?_
  refine gc_fi_startSide C hK hP wf_X8_47 dX8_findCost_11 ?_
  obtain ⟨r14, hc14, hf⟩ := bd_some hf
  refine cV_go (runRSc (As := [_, _]) C hK hP hZ hS wv_X8_50 hl (kc_X8_stateOf l D cA ad _ η F _ _  r14 hc14) rfl rfl rfl (Nat.le_of_ble_eq_true rfl) ⟨Nat.le_refl _, Nat.le_refl _⟩ dX8_findCost_14) ?_
  refine lv_istore_n (lv' := [(3, .int r14), (0, .ref (ad 23)), (1, .ref (ad 1)), (2, .int z2)]) C.1 C.2.1 dX8_findCost_17 rfl hl (by decide) rfl (fun ls hl => ?_)
  refine lv_iconst (v := (0 : Int32)) C.1 C.2.1 dX8_findCost_18 (by decide) ?_
  refine lv_istore (lv' := [(4, .int (0 : Int32)), (3, .int r14), (0, .ref (ad 23)), (1, .ref (ad 1)), (2, .int z2)]) C.1 C.2.1 dX8_findCost_19 hl (by decide) rfl (fun ls hl => ?_)
  exact hB21 F _ _ _ ls _ _ hP hD hS (lv_sub hl [2, 1, 0] rfl) hf
def fc_X9_best (F : Nat) (σ : CSt) (x1 : Int32) : Option (Int32 × CSt) :=
  bd (fc_X1_hasConnector F σ x1) (fun r5 => if r5 = 0 then (some ((-1001 : Int32), σ)) else (bd2 (fc_X8_findCost F σ x1) (fun r24 σ24 => some (r24, σ24))))
set_option maxHeartbeats 4000000 in
set_option maxRecDepth 100000 in
theorem kc_X9_best (l : Launch) (D : va_G) (cA : Nat → ClassId) (ad : Nat → Nat) (σ0 : CSt) (η : HS) (F : Nat) (z1 : Int32) (r : Int32) (σr : CSt) (hf : fc_X9_best F σ0 z1 = some (r, σr)) : KC l D cA ad σ0 η yX9_best cX9_best 2 (some .int) (rmk 5 136) [.ref (ad 0), .int z1] (some (.int r)) σr := by
  refine KC.of (by decide) (Nat.le_of_ble_eq_true rfl) ?_
  intro p e s m below meth c A hAe hA C hr hlk hK hP hD hS hZ ls hl
  have hl : lv_has ls 2 [(0, .ref (ad 0)), (1, .int z1)] := hl
  unfold fc_X9_best at hf
  refine lv_aload_n C.1 C.2.1 dX9_best_0 rfl (lv_at hl 0 rfl) ?_
  refine gc_R_canvas C hK hP wf_X9_10 dX9_best_1 ?_
  refine lv_iload_n C.1 C.2.1 dX9_best_4 rfl (lv_at hl 1 rfl) ?_
  obtain ⟨r5, hc5, hf⟩ := bd_some hf
  refine cV_go (runRVc (As := [_]) C hK hP hZ hS wv_X9_110 hl (kc_X1_hasConnector l D cA ad _ η F _  r5 hc5) (rcC 1 2 hK hP rfl rfl) rfl rfl rfl (Nat.le_of_ble_eq_true rfl) ⟨Nat.le_refl _, Nat.le_refl _⟩ dX9_best_5) ?_
  refine lv_if_ne (tgt := 15) C.1 C.2.1 dX9_best_8 (by decide) (fun c8 => ?_) (fun c8 => ?_)
  · have hf := br_n c8 hf
    refine lv_aload_n C.1 C.2.1 dX9_best_15 rfl (lv_at hl 0 rfl) ?_
    refine gc_R_finder C hK hP wf_X9_26 dX9_best_16 ?_
    refine lv_aload_n C.1 C.2.1 dX9_best_19 rfl (lv_at hl 0 rfl) ?_
    refine gc_R_canvas C hK hP wf_X9_10 dX9_best_20 ?_
    refine lv_iload_n C.1 C.2.1 dX9_best_23 rfl (lv_at hl 1 rfl) ?_
    obtain ⟨r24, σ24, hc24, hf⟩ := bd2_some hf
    refine callCV (As := [_, _]) C hK hP hD hA hS hZ wv_X9_138 hl (kc_X8_findCost l D cA ad _ η F _  r24 σ24 hc24) (rcC 23 8 hK hP rfl rfl) rfl rfl rfl (Nat.le_of_ble_eq_true rfl) ⟨Nat.le_refl _, Nat.le_refl _⟩ dX9_best_24 (fun H locs hP hD hS => ?_)
    obtain ⟨rfl, rfl⟩ := Prod.mk.inj (Option.some.inj hf)
    exact KC.iret C hr hlk hK hAe hP hD hS rfl dX9_best_27
  · have hf := br_p c8 hf
    refine lv_sipush (v := (-1001 : Int32)) C.1 C.2.1 dX9_best_11 (by decide) ?_
    obtain ⟨rfl, rfl⟩ := Prod.mk.inj (Option.some.inj hf)
    exact KC.iret C hr hlk hK hAe hP hD hS rfl dX9_best_14
def fc_J3_checkIndex_8e157_n_L9 (F : Nat) (σ : CSt) (x0 : Int32) (x1 : Int32) : Option (Int32) :=
  none
def fc_J3_checkIndex_8e157_n (F : Nat) (σ : CSt) (x0 : Int32) (x1 : Int32) : Option (Int32) :=
  if x0 < 0 then (fc_J3_checkIndex_8e157_n_L9 F σ x0 x1) else (if x0 < x1 then (some x0) else (fc_J3_checkIndex_8e157_n_L9 F σ x0 x1))
set_option maxHeartbeats 4000000 in
set_option maxRecDepth 100000 in
theorem kc_J3_checkIndex_8e157_n (l : Launch) (D : va_G) (cA : Nat → ClassId) (ad : Nat → Nat) (σ : CSt) (η : HS) (F : Nat) (z0 : Int32) (z1 : Int32) (r : Int32) (hf : fc_J3_checkIndex_8e157_n F σ z0 z1 = some r) : KRc l D cA ad σ η yJ3_checkIndex_8e157 cJ3_checkIndex_8e157 3 (some .int) (rmk 0 0) [.int z0, .int z1, .null] (QcV (.int r)) := by
  refine KRc.of (by decide) (Nat.le_of_ble_eq_true rfl) ?_
  intro p e s m below meth c C hr hlk hK hP hZ ls hl
  have hS : va_S NoA s.heap s.heap [] := va_S.rf
  have hl : lv_has ls 3 [(0, .int z0), (1, .int z1), (2, .null)] := hl
  have hB9 : ∀ (ls : Array Slot) (x0 : Int32) (x1 : Int32), lv_has ls 3 [(0, .int x0), (1, .int x1), (2, .null)] → fc_J3_checkIndex_8e157_n_L9 F σ x0 x1 = some r → WRc p l e 0 0 s m [.int z0, .int z1, .null] below meth c (QcV (.int r)) (F0 m 9 ls []) := by
    intro ls x0 x1 hl hf
    unfold fc_J3_checkIndex_8e157_n_L9 at hf
    refine lv_aload_nN C.1 C.2.1 dJ3_checkIndex_8e157_9 rfl (lv_at hl 2 rfl) ?_
    refine lv_iload_n C.1 C.2.1 dJ3_checkIndex_8e157_10 rfl (lv_at hl 0 rfl) ?_
    refine lv_iload_n C.1 C.2.1 dJ3_checkIndex_8e157_11 rfl (lv_at hl 1 rfl) ?_
    cases hf
  unfold fc_J3_checkIndex_8e157_n at hf
  refine lv_iload_n C.1 C.2.1 dJ3_checkIndex_8e157_0 rfl (lv_at hl 0 rfl) ?_
  refine lv_if_lt (tgt := 9) C.1 C.2.1 dJ3_checkIndex_8e157_1 (by decide) (fun c1 => ?_) (fun c1 => ?_)
  · have hf := br_p c1 hf
    exact hB9 ls _ _ (lv_sub hl [0, 1, 2] rfl) hf
  · have hf := br_n c1 hf
    refine lv_iload_n C.1 C.2.1 dJ3_checkIndex_8e157_4 rfl (lv_at hl 0 rfl) ?_
    refine lv_iload_n C.1 C.2.1 dJ3_checkIndex_8e157_5 rfl (lv_at hl 1 rfl) ?_
    refine lv_icmp_lt (tgt := 16) C.1 C.2.1 dJ3_checkIndex_8e157_6 (by decide) (fun c6 => ?_) (fun c6 => ?_)
    · have hf := br_p c6 hf
      refine lv_iload_n C.1 C.2.1 dJ3_checkIndex_8e157_16 rfl (lv_at hl 0 rfl) ?_
      exact KRc.iret C hr hlk (Option.some.inj hf) dJ3_checkIndex_8e157_17
    · have hf := br_n c6 hf
      exact hB9 ls _ _ (lv_sub hl [0, 1, 2] rfl) hf
set_option maxHeartbeats 4000000 in
set_option maxRecDepth 100000 in
theorem kc_J3_checkIndex_8e157_q (l : Launch) (D : va_G) (cA : Nat → ClassId) (ad : Nat → Nat) (σ : CSt) (η : HS) (F : Nat) (z0 : Int32) (z1 : Int32) (az2 : Nat) (r : Int32) (hf : fc_J3_checkIndex_8e157_n F σ z0 z1 = some r) : KRc l D cA ad σ η yJ3_checkIndex_8e157 cJ3_checkIndex_8e157 3 (some .int) (rmk 0 0) [.int z0, .int z1, .ref az2] (QcV (.int r)) := by
  refine KRc.of (by decide) (Nat.le_of_ble_eq_true rfl) ?_
  intro p e s m below meth c C hr hlk hK hP hZ ls hl
  have hS : va_S NoA s.heap s.heap [] := va_S.rf
  have hl : lv_has ls 3 [(0, .int z0), (1, .int z1), (2, .ref az2)] := hl
  have hB9 : ∀ (ls : Array Slot) (x0 : Int32) (x1 : Int32) (ax2 : Nat), lv_has ls 3 [(0, .int x0), (1, .int x1), (2, .ref ax2)] → fc_J3_checkIndex_8e157_n_L9 F σ x0 x1 = some r → WRc p l e 0 0 s m [.int z0, .int z1, .ref az2] below meth c (QcV (.int r)) (F0 m 9 ls []) := by
    intro ls x0 x1 ax2 hl hf
    unfold fc_J3_checkIndex_8e157_n_L9 at hf
    refine lv_aload_n C.1 C.2.1 dJ3_checkIndex_8e157_9 rfl (lv_at hl 2 rfl) ?_
    refine lv_iload_n C.1 C.2.1 dJ3_checkIndex_8e157_10 rfl (lv_at hl 0 rfl) ?_
    refine lv_iload_n C.1 C.2.1 dJ3_checkIndex_8e157_11 rfl (lv_at hl 1 rfl) ?_
    cases hf
  unfold fc_J3_checkIndex_8e157_n at hf
  refine lv_iload_n C.1 C.2.1 dJ3_checkIndex_8e157_0 rfl (lv_at hl 0 rfl) ?_
  refine lv_if_lt (tgt := 9) C.1 C.2.1 dJ3_checkIndex_8e157_1 (by decide) (fun c1 => ?_) (fun c1 => ?_)
  · have hf := br_p c1 hf
    exact hB9 ls _ _ _ (lv_sub hl [0, 1, 2] rfl) hf
  · have hf := br_n c1 hf
    refine lv_iload_n C.1 C.2.1 dJ3_checkIndex_8e157_4 rfl (lv_at hl 0 rfl) ?_
    refine lv_iload_n C.1 C.2.1 dJ3_checkIndex_8e157_5 rfl (lv_at hl 1 rfl) ?_
    refine lv_icmp_lt (tgt := 16) C.1 C.2.1 dJ3_checkIndex_8e157_6 (by decide) (fun c6 => ?_) (fun c6 => ?_)
    · have hf := br_p c6 hf
      refine lv_iload_n C.1 C.2.1 dJ3_checkIndex_8e157_16 rfl (lv_at hl 0 rfl) ?_
      exact KRc.iret C hr hlk (Option.some.inj hf) dJ3_checkIndex_8e157_17
    · have hf := br_n c6 hf
      exact hB9 ls _ _ _ (lv_sub hl [0, 1, 2] rfl) hf
def fc_J0_checkIndex_df160 (F : Nat) (σ : CSt) (x0 : Int32) (x1 : Int32) : Option (Unit) :=
  bd (fc_J3_checkIndex_8e157_n F σ x0 x1) (fun r5 => some ())
set_option maxHeartbeats 4000000 in
set_option maxRecDepth 100000 in
theorem kc_J0_checkIndex_df160 (l : Launch) (D : va_G) (cA : Nat → ClassId) (ad : Nat → Nat) (σ : CSt) (η : HS) (F : Nat) (z0 : Int32) (z1 : Int32) (r : Unit) (hf : fc_J0_checkIndex_df160 F σ z0 z1 = some r) : KRc l D cA ad σ η yJ0_checkIndex_df160 cJ0_checkIndex_df160 2 none (rmk 1 22) [.int z0, .int z1] QcN := by
  refine KRc.of (by decide) (Nat.le_of_ble_eq_true rfl) ?_
  intro p e s m below meth c C hr hlk hK hP hZ ls hl
  have hS : va_S NoA s.heap s.heap [] := va_S.rf
  have hl : lv_has ls 2 [(0, .int z0), (1, .int z1)] := hl
  unfold fc_J0_checkIndex_df160 at hf
  refine lv_iload_n C.1 C.2.1 dJ0_checkIndex_df160_0 rfl (lv_at hl 0 rfl) ?_
  refine lv_iload_n C.1 C.2.1 dJ0_checkIndex_df160_1 rfl (lv_at hl 1 rfl) ?_
  rcases hZ.2.2.2.2.2.2.1 with hz2 | ⟨t2, hz2⟩
  · refine va_gets C.1 C.2.1 hz2 hS C.2.2.2.1 (C.2.2.2.2 _ wf_J0_1053) (fun _ h9 => h9) dJ0_checkIndex_df160_2 ?_
    obtain ⟨r5, hc5, hf⟩ := bd_some hf
    refine cV_go (runRSc (As := [_, _, _]) C hK hP hZ hS wv_J0_1059 hl (kc_J3_checkIndex_8e157_n l D cA ad _ η F _ _  r5 hc5) rfl rfl rfl (Nat.le_of_ble_eq_true rfl) ⟨Nat.le_refl _, Nat.le_refl _⟩ dJ0_checkIndex_df160_5) ?_
    refine lv_pop C.1 C.2.1 dJ0_checkIndex_df160_8 rfl ?_
    exact KRc.nret C hr hlk dJ0_checkIndex_df160_9
  · refine va_gets C.1 C.2.1 hz2 hS C.2.2.2.1 (C.2.2.2.2 _ wf_J0_1053) (fun _ h9 => h9) dJ0_checkIndex_df160_2 ?_
    obtain ⟨r5, hc5, hf⟩ := bd_some hf
    refine cV_go (runRSc (As := [_, _, _]) C hK hP hZ hS wv_J0_1059 hl (kc_J3_checkIndex_8e157_q l D cA ad _ η F _ _ _  r5 hc5) rfl rfl rfl (Nat.le_of_ble_eq_true rfl) ⟨Nat.le_refl _, Nat.le_refl _⟩ dJ0_checkIndex_df160_5) ?_
    refine lv_pop C.1 C.2.1 dJ0_checkIndex_df160_8 rfl ?_
    exact KRc.nret C hr hlk dJ0_checkIndex_df160_9
def fc_J0_coder_7d493_L14 (F : Nat) (σ : CSt) (j9 : Nat) (s0 : Int32) : Option (Int32) :=
  gd (vp_nar .byte s0 = s0) (some s0)
def fc_J0_coder_7d493 (F : Nat) (σ : CSt) (j9 : Nat) : Option (Int32) :=
  if (1 : Int32) = 0 then (fc_J0_coder_7d493_L14 F σ j9 (1 : Int32)) else (fc_J0_coder_7d493_L14 F σ j9 (0 : Int32))
set_option maxHeartbeats 4000000 in
set_option maxRecDepth 100000 in
theorem kc_J0_coder_7d493 (l : Launch) (D : va_G) (cA : Nat → ClassId) (ad : Nat → Nat) (σ : CSt) (η : HS) (F : Nat) (j9 : Nat) (hj9 : j9 < 6) (r : Int32) (hf : fc_J0_coder_7d493 F σ j9 = some r) : KRc l D cA ad σ η yJ0_coder_7d493 cJ0_coder_7d493 1 (some .byte) (rmk 0 0) [.ref (ad (60 + j9))] (QcV (.int r)) := by
  refine KRc.of (by decide) (Nat.le_of_ble_eq_true rfl) ?_
  intro p e s m below meth c C hr hlk hK hP hZ ls hl
  have hS : va_S NoA s.heap s.heap [] := va_S.rf
  have hl : lv_has ls 1 [(0, .ref (ad (60 + j9)))] := hl
  have hB14 : ∀ (ls : Array Slot) (s0 : Int32), lv_has ls 1 [] → fc_J0_coder_7d493_L14 F σ j9 s0 = some r → WRc p l e 0 0 s m [.ref (ad (60 + j9))] below meth c (QcV (.int r)) (F0 m 14 ls [.int s0]) := by
    intro ls s0 hl hf
    unfold fc_J0_coder_7d493_L14 at hf
    obtain ⟨hz14, hf⟩ := gd_some hf
    exact KRc.bret C hr hlk hz14 (Option.some.inj hf) dJ0_coder_7d493_14
  unfold fc_J0_coder_7d493 at hf
  refine va_gets C.1 C.2.1 hZ.2.2.2.1 hS C.2.2.2.1 (C.2.2.2.2 _ wf_J0_38) (fun _ h9 => h9) dJ0_coder_7d493_0 ?_
  refine lv_if_eq (tgt := 13) C.1 C.2.1 dJ0_coder_7d493_3 (by decide) (fun c3 => ?_) (fun c3 => ?_)
  · have hf := br_p c3 hf
    refine lv_iconst (v := (1 : Int32)) C.1 C.2.1 dJ0_coder_7d493_13 (by decide) ?_
    exact hB14 ls _ (lv_sub hl [] rfl) hf
  · have hf := br_n c3 hf
    refine lv_aload_n C.1 C.2.1 dJ0_coder_7d493_6 rfl (lv_at hl 0 rfl) ?_
    refine vk_getf C.1 C.2.1 (hZ.2.2.2.2.2.2.2.1.1 j9 hj9).2.1 hS C.2.2.2.1 (C.2.2.2.2 _ wf_J0_15) (fun _ h9 => h9) dJ0_coder_7d493_7 ?_
    refine lv_goto (tgt := 14) C.1 C.2.1 dJ0_coder_7d493_10 (by decide) ?_
    exact hB14 ls _ (lv_sub hl [] rfl) hf
def fc_J0_length_8abf5 (F : Nat) (σ : CSt) (j9 : Nat) : Option (Int32) :=
  bd (fc_J0_coder_7d493 F σ j9) (fun r6 => some ((nI (sLn j9)) >>> (r6 &&& 31)))
set_option maxHeartbeats 4000000 in
set_option maxRecDepth 100000 in
theorem kc_J0_length_8abf5 (l : Launch) (D : va_G) (cA : Nat → ClassId) (ad : Nat → Nat) (σ : CSt) (η : HS) (F : Nat) (j9 : Nat) (hj9 : j9 < 6) (r : Int32) (hf : fc_J0_length_8abf5 F σ j9 = some r) : KRc l D cA ad σ η yJ0_length_8abf5 cJ0_length_8abf5 1 (some .int) (rmk 1 20) [.ref (ad (60 + j9))] (QcV (.int r)) := by
  refine KRc.of (by decide) (Nat.le_of_ble_eq_true rfl) ?_
  intro p e s m below meth c C hr hlk hK hP hZ ls hl
  have hS : va_S NoA s.heap s.heap [] := va_S.rf
  have hl : lv_has ls 1 [(0, .ref (ad (60 + j9)))] := hl
  unfold fc_J0_length_8abf5 at hf
  refine lv_aload_n C.1 C.2.1 dJ0_length_8abf5_0 rfl (lv_at hl 0 rfl) ?_
  refine vk_getf C.1 C.2.1 (hZ.2.2.2.2.2.2.2.1.1 j9 hj9).2.2.1 hS C.2.2.2.1 (C.2.2.2.2 _ wf_J0_9) (fun _ h9 => h9) dJ0_length_8abf5_1 ?_
  refine va_tlen C.1 C.2.1 (hZ.2.2.2.2.2.2.2.1.1 j9 hj9).2.2.2 hS rfl dJ0_length_8abf5_4 ?_
  refine lv_aload_n C.1 C.2.1 dJ0_length_8abf5_5 rfl (lv_at hl 0 rfl) ?_
  obtain ⟨r6, hc6, hf⟩ := bd_some hf
  refine cV_go (runRVc (As := []) C hK hP hZ hS wv_J0_335 hl (kc_J0_coder_7d493 l D cA ad _ η F  j9 hj9 r6 hc6) (vk_recv (i := j9) (adK := fun i => ad (60 + i)) hZ.2.2.2.2.2.2.2.1 hj9 hS) rfl rfl rfl (Nat.le_of_ble_eq_true rfl) ⟨Nat.le_refl _, Nat.le_refl _⟩ dJ0_length_8abf5_6) ?_
  refine lv_ishr C.1 C.2.1 dJ0_length_8abf5_9 ?_
  exact KRc.iret C hr hlk (Option.some.inj hf) dJ0_length_8abf5_10
def fc_J0_isLatin1_aae02_L18 (F : Nat) (σ : CSt) (j9 : Nat) (s0 : Int32) : Option (Int32) :=
  gd (s0 = 0 ∨ s0 = 1) (some s0)
def fc_J0_isLatin1_aae02_L17 (F : Nat) (σ : CSt) (j9 : Nat) : Option (Int32) :=
  fc_J0_isLatin1_aae02_L18 F σ j9 (0 : Int32)
def fc_J0_isLatin1_aae02 (F : Nat) (σ : CSt) (j9 : Nat) : Option (Int32) :=
  if (1 : Int32) = 0 then (fc_J0_isLatin1_aae02_L17 F σ j9) else (if (0 : Int32) = 0 then (fc_J0_isLatin1_aae02_L18 F σ j9 (1 : Int32)) else (fc_J0_isLatin1_aae02_L17 F σ j9))
set_option maxHeartbeats 4000000 in
set_option maxRecDepth 100000 in
theorem kc_J0_isLatin1_aae02 (l : Launch) (D : va_G) (cA : Nat → ClassId) (ad : Nat → Nat) (σ : CSt) (η : HS) (F : Nat) (j9 : Nat) (hj9 : j9 < 6) (r : Int32) (hf : fc_J0_isLatin1_aae02 F σ j9 = some r) : KRc l D cA ad σ η yJ0_isLatin1_aae02 cJ0_isLatin1_aae02 1 (some .boolean) (rmk 0 0) [.ref (ad (60 + j9))] (QcV (.int r)) := by
  refine KRc.of (by decide) (Nat.le_of_ble_eq_true rfl) ?_
  intro p e s m below meth c C hr hlk hK hP hZ ls hl
  have hS : va_S NoA s.heap s.heap [] := va_S.rf
  have hl : lv_has ls 1 [(0, .ref (ad (60 + j9)))] := hl
  have hB18 : ∀ (ls : Array Slot) (s0 : Int32), lv_has ls 1 [] → fc_J0_isLatin1_aae02_L18 F σ j9 s0 = some r → WRc p l e 0 0 s m [.ref (ad (60 + j9))] below meth c (QcV (.int r)) (F0 m 18 ls [.int s0]) := by
    intro ls s0 hl hf
    unfold fc_J0_isLatin1_aae02_L18 at hf
    obtain ⟨hz18, hf⟩ := gd_some hf
    exact KRc.zret C hr hlk hz18 (Option.some.inj hf) dJ0_isLatin1_aae02_18
  have hB17 : ∀ (ls : Array Slot), lv_has ls 1 [] → fc_J0_isLatin1_aae02_L17 F σ j9 = some r → WRc p l e 0 0 s m [.ref (ad (60 + j9))] below meth c (QcV (.int r)) (F0 m 17 ls []) := by
    intro ls hl hf
    unfold fc_J0_isLatin1_aae02_L17 at hf
    refine lv_iconst (v := (0 : Int32)) C.1 C.2.1 dJ0_isLatin1_aae02_17 (by decide) ?_
    exact hB18 ls _ (lv_sub hl [] rfl) hf
  unfold fc_J0_isLatin1_aae02 at hf
  refine va_gets C.1 C.2.1 hZ.2.2.2.1 hS C.2.2.2.1 (C.2.2.2.2 _ wf_J0_38) (fun _ h9 => h9) dJ0_isLatin1_aae02_0 ?_
  refine lv_if_eq (tgt := 17) C.1 C.2.1 dJ0_isLatin1_aae02_3 (by decide) (fun c3 => ?_) (fun c3 => ?_)
  · have hf := br_p c3 hf
    exact hB17 ls (lv_sub hl [] rfl) hf
  · have hf := br_n c3 hf
    refine lv_aload_n C.1 C.2.1 dJ0_isLatin1_aae02_6 rfl (lv_at hl 0 rfl) ?_
    refine vk_getf C.1 C.2.1 (hZ.2.2.2.2.2.2.2.1.1 j9 hj9).2.1 hS C.2.2.2.1 (C.2.2.2.2 _ wf_J0_15) (fun _ h9 => h9) dJ0_isLatin1_aae02_7 ?_
    refine lv_if_ne (tgt := 17) C.1 C.2.1 dJ0_isLatin1_aae02_10 (by decide) (fun c10 => ?_) (fun c10 => ?_)
    · have hf := br_n c10 hf
      exact hB17 ls (lv_sub hl [] rfl) hf
    · have hf := br_p c10 hf
      refine lv_iconst (v := (1 : Int32)) C.1 C.2.1 dJ0_isLatin1_aae02_13 (by decide) ?_
      refine lv_goto (tgt := 18) C.1 C.2.1 dJ0_isLatin1_aae02_14 (by decide) ?_
      exact hB18 ls _ (lv_sub hl [] rfl) hf
def fc_J1_charAt_3b067 (F : Nat) (σ : CSt) (j9 : Nat) (x1 : Int32) : Option (Int32) :=
  bd (fc_J0_checkIndex_df160 F σ x1 (nI (sLn j9))) (fun r3 => gd (ix x1 (sLn j9) = true) (gd (vp_nar .char ((((sBy j9 x1.toNatClampNeg) &&& (255 : Int32)).toUInt32 % 65536).toInt32) = (((sBy j9 x1.toNatClampNeg) &&& (255 : Int32)).toUInt32 % 65536).toInt32) (some ((((sBy j9 x1.toNatClampNeg) &&& (255 : Int32)).toUInt32 % 65536).toInt32))))
set_option maxHeartbeats 4000000 in
set_option maxRecDepth 100000 in
theorem kc_J1_charAt_3b067 (l : Launch) (D : va_G) (cA : Nat → ClassId) (ad : Nat → Nat) (σ : CSt) (η : HS) (F : Nat) (z1 : Int32) (j9 : Nat) (hj9 : j9 < 6) (r : Int32) (hf : fc_J1_charAt_3b067 F σ j9 z1 = some r) : KRc l D cA ad σ η yJ1_charAt_3b067 cJ1_charAt_3b067 2 (some .char) (rmk 2 43) [.ref (ad (70 + j9)), .int z1] (QcV (.int r)) := by
  refine KRc.of (by decide) (Nat.le_of_ble_eq_true rfl) ?_
  intro p e s m below meth c C hr hlk hK hP hZ ls hl
  have hS : va_S NoA s.heap s.heap [] := va_S.rf
  have hl : lv_has ls 2 [(0, .ref (ad (70 + j9))), (1, .int z1)] := hl
  unfold fc_J1_charAt_3b067 at hf
  refine lv_iload_n C.1 C.2.1 dJ1_charAt_3b067_0 rfl (lv_at hl 1 rfl) ?_
  refine lv_aload_n C.1 C.2.1 dJ1_charAt_3b067_1 rfl (lv_at hl 0 rfl) ?_
  refine va_tlen C.1 C.2.1 (hZ.2.2.2.2.2.2.2.1.1 j9 hj9).2.2.2 hS rfl dJ1_charAt_3b067_2 ?_
  obtain ⟨r3, hc3, hf⟩ := bd_some hf
  refine cN_go (runRSc (As := [_, _]) C hK hP hZ hS wv_J1_9 hl (kc_J0_checkIndex_df160 l D cA ad _ η F _ _  r3 hc3) rfl rfl rfl (Nat.le_of_ble_eq_true rfl) ⟨Nat.le_refl _, Nat.le_refl _⟩ dJ1_charAt_3b067_3) ?_
  refine lv_aload_n C.1 C.2.1 dJ1_charAt_3b067_6 rfl (lv_at hl 0 rfl) ?_
  refine lv_iload_n C.1 C.2.1 dJ1_charAt_3b067_7 rfl (lv_at hl 1 rfl) ?_
  obtain ⟨hi8, hf⟩ := gd_some hf
  refine va_tb C.1 C.2.1 (hZ.2.2.2.2.2.2.2.1.1 j9 hj9).2.2.2 hS (ix_in hi8) rfl dJ1_charAt_3b067_8 ?_
  refine lv_sipush (v := (255 : Int32)) C.1 C.2.1 dJ1_charAt_3b067_9 (by decide) ?_
  refine lv_iand C.1 C.2.1 dJ1_charAt_3b067_12 ?_
  refine lv_i2c C.1 C.2.1 dJ1_charAt_3b067_13 rfl ?_
  obtain ⟨hz14, hf⟩ := gd_some hf
  exact KRc.cret C hr hlk hz14 (Option.some.inj hf) dJ1_charAt_3b067_14
def fc_J0_charAt_5068e (F : Nat) (σ : CSt) (j9 : Nat) (x1 : Int32) : Option (Int32) :=
  bd (fc_J0_isLatin1_aae02 F σ j9) (fun r1 => if r1 = 0 then none else (bd (fc_J1_charAt_3b067 F σ j9 x1) (fun r12 => gd (vp_nar .char r12 = r12) (some r12))))
set_option maxHeartbeats 4000000 in
set_option maxRecDepth 100000 in
theorem kc_J0_charAt_5068e (l : Launch) (D : va_G) (cA : Nat → ClassId) (ad : Nat → Nat) (σ : CSt) (η : HS) (F : Nat) (z1 : Int32) (j9 : Nat) (hj9 : j9 < 6) (r : Int32) (hf : fc_J0_charAt_5068e F σ j9 z1 = some r) : KRc l D cA ad σ η yJ0_charAt_5068e cJ0_charAt_5068e 2 (some .char) (rmk 3 64) [.ref (ad (60 + j9)), .int z1] (QcV (.int r)) := by
  refine KRc.of (by decide) (Nat.le_of_ble_eq_true rfl) ?_
  intro p e s m below meth c C hr hlk hK hP hZ ls hl
  have hS : va_S NoA s.heap s.heap [] := va_S.rf
  have hl : lv_has ls 2 [(0, .ref (ad (60 + j9))), (1, .int z1)] := hl
  unfold fc_J0_charAt_5068e at hf
  refine lv_aload_n C.1 C.2.1 dJ0_charAt_5068e_0 rfl (lv_at hl 0 rfl) ?_
  obtain ⟨r1, hc1, hf⟩ := bd_some hf
  refine cV_go (runRVc (As := []) C hK hP hZ hS wv_J0_492 hl (kc_J0_isLatin1_aae02 l D cA ad _ η F  j9 hj9 r1 hc1) (vk_recv (i := j9) (adK := fun i => ad (60 + i)) hZ.2.2.2.2.2.2.2.1 hj9 hS) rfl rfl rfl (Nat.le_of_ble_eq_true rfl) ⟨Nat.le_refl _, Nat.le_refl _⟩ dJ0_charAt_5068e_1) ?_
  refine lv_if_eq (tgt := 16) C.1 C.2.1 dJ0_charAt_5068e_4 (by decide) (fun c4 => ?_) (fun c4 => ?_)
  · have hf := br_p c4 hf
    refine lv_aload_n C.1 C.2.1 dJ0_charAt_5068e_16 rfl (lv_at hl 0 rfl) ?_
    refine vk_getf C.1 C.2.1 (hZ.2.2.2.2.2.2.2.1.1 j9 hj9).2.2.1 hS C.2.2.2.1 (C.2.2.2.2 _ wf_J0_9) (fun _ h9 => h9) dJ0_charAt_5068e_17 ?_
    refine lv_iload_n C.1 C.2.1 dJ0_charAt_5068e_20 rfl (lv_at hl 1 rfl) ?_
    cases hf
  · have hf := br_n c4 hf
    refine lv_aload_n C.1 C.2.1 dJ0_charAt_5068e_7 rfl (lv_at hl 0 rfl) ?_
    refine vk_getf C.1 C.2.1 (hZ.2.2.2.2.2.2.2.1.1 j9 hj9).2.2.1 hS C.2.2.2.1 (C.2.2.2.2 _ wf_J0_9) (fun _ h9 => h9) dJ0_charAt_5068e_8 ?_
    refine lv_iload_n C.1 C.2.1 dJ0_charAt_5068e_11 rfl (lv_at hl 1 rfl) ?_
    obtain ⟨r12, hc12, hf⟩ := bd_some hf
    refine cV_go (runRSc (As := [_, _]) C hK hP hZ hS wv_J0_495 hl (kc_J1_charAt_3b067 l D cA ad _ η F _ j9 hj9 r12 hc12) rfl rfl rfl (Nat.le_of_ble_eq_true rfl) ⟨Nat.le_refl _, Nat.le_refl _⟩ dJ0_charAt_5068e_12) ?_
    obtain ⟨hz15, hf⟩ := gd_some hf
    exact KRc.cret C hr hlk hz15 (Option.some.inj hf) dJ0_charAt_5068e_15
def fc_X2_spells_L17_c (F : Nat) (σ : CSt) (j9 : Nat) (k17 : Int32 → Int32 → Option (Int32)) (x2 : Int32) (x3 : Int32) : Option (Int32) :=
  bd (fc_J0_length_8abf5 F σ j9) (fun r19 => if r19 ≤ x3 then (some (1 : Int32)) else (gd (ix (x2 + x3) 120 = true) (bd (fc_J0_charAt_5068e F σ j9 x3) (fun r35 => if (cs_tb σ (x2 + x3).toNatClampNeg) = r35 then (lt (x3 + (1 : Int32)) (fun x3_43 => k17 x2 x3_43)) else (some (0 : Int32))))))
def fc_X2_spells_L17 (F : Nat) (σ : CSt) (j9 : Nat) (n : Nat) (x2 : Int32) (x3 : Int32) : Option (Int32) := lpN (fun (k : Int32 × Int32 → Option (Int32)) a => fc_X2_spells_L17_c F σ j9 (fun x2 x3 => k (x2, x3)) a.1 a.2) n (x2, x3)
def fc_X2_spells (F : Nat) (σ : CSt) (j9 : Nat) (x2 : Int32) : Option (Int32) :=
  bd (fc_J0_length_8abf5 F σ j9) (fun r7 => if ((cs_tc σ) - x2) = r7 then (fc_X2_spells_L17 F σ j9 F x2 (0 : Int32)) else (some (0 : Int32)))
set_option maxHeartbeats 4000000 in
set_option maxRecDepth 100000 in
theorem kc_X2_spells (l : Launch) (D : va_G) (cA : Nat → ClassId) (ad : Nat → Nat) (σ : CSt) (η : HS) (F : Nat) (z2 : Int32) (j9 : Nat) (hj9 : j9 < 6) (r : Int32) (hf : fc_X2_spells F σ j9 z2 = some r) : KRc l D cA ad σ η yX2_spells cX2_spells 4 (some .boolean) (rmk 4 85) [.ref (ad 42), .ref (ad (60 + j9)), .int z2] (QcV (.int r)) := by
  refine KRc.of (by decide) (Nat.le_of_ble_eq_true rfl) ?_
  intro p e s m below meth c C hr hlk hK hP hZ ls hl
  have hS : va_S NoA s.heap s.heap [] := va_S.rf
  have hl : lv_has ls 4 [(0, .ref (ad 42)), (1, .ref (ad (60 + j9))), (2, .int z2)] := hl
  have hB17 : ∀ (n17 : Nat) (ls : Array Slot) (x2 : Int32) (x3 : Int32), lv_has ls 4 [(0, .ref (ad 42)), (1, .ref (ad (60 + j9))), (2, .int x2), (3, .int x3)] → fc_X2_spells_L17 F σ j9 n17 x2 x3 = some r → WRc p l e 4 85 s m [.ref (ad 42), .ref (ad (60 + j9)), .int z2] below meth c (QcV (.int r)) (F0 m 17 ls []) := by
    intro n17
    induction n17 with
    | zero =>
      intro ls x2 x3 hl hf
      cases (show (none : Option _) = _ from hf)
    | succ n17 ih17 =>
      intro ls x2 x3 hl hf
      have hf : fc_X2_spells_L17_c F σ j9 (fc_X2_spells_L17 F σ j9 n17) x2 x3 = some r := hf
      unfold fc_X2_spells_L17_c at hf
      refine lv_iload_n C.1 C.2.1 dX2_spells_17 rfl (lv_at hl 3 rfl) ?_
      refine lv_aload_n C.1 C.2.1 dX2_spells_18 rfl (lv_at hl 1 rfl) ?_
      obtain ⟨r19, hc19, hf⟩ := bd_some hf
      refine cV_go (runRVc (As := []) C hK hP hZ hS wv_X2_78 hl (kc_J0_length_8abf5 l D cA ad _ η F  j9 hj9 r19 hc19) (vk_recv (i := j9) (adK := fun i => ad (60 + i)) hZ.2.2.2.2.2.2.2.1 hj9 hS) rfl rfl rfl (Nat.le_of_ble_eq_true rfl) ⟨Nat.le_refl _, Nat.le_refl _⟩ dX2_spells_19) ?_
      refine lv_icmp_ge (tgt := 49) C.1 C.2.1 dX2_spells_22 (by decide) (fun c22 => ?_) (fun c22 => ?_)
      · have hf := br_p c22 hf
        refine lv_iconst (v := (1 : Int32)) C.1 C.2.1 dX2_spells_49 (by decide) ?_
        exact KRc.zret C hr hlk (by decide) (Option.some.inj hf) dX2_spells_50
      · have hf := br_n c22 hf
        refine lv_aload_n C.1 C.2.1 dX2_spells_25 rfl (lv_at hl 0 rfl) ?_
        refine gc_tx_bytes C hK hP wf_X2_11 dX2_spells_26 ?_
        refine lv_iload_n C.1 C.2.1 dX2_spells_29 rfl (lv_at hl 2 rfl) ?_
        refine lv_iload_n C.1 C.2.1 dX2_spells_30 rfl (lv_at hl 3 rfl) ?_
        refine lv_iadd C.1 C.2.1 dX2_spells_31 ?_
        obtain ⟨hi32, hf⟩ := gd_some hf
        refine lc_tb C hK hP hi32 dX2_spells_32 ?_
        refine lv_aload_n C.1 C.2.1 dX2_spells_33 rfl (lv_at hl 1 rfl) ?_
        refine lv_iload_n C.1 C.2.1 dX2_spells_34 rfl (lv_at hl 3 rfl) ?_
        obtain ⟨r35, hc35, hf⟩ := bd_some hf
        refine cV_go (runRVc (As := [_]) C hK hP hZ hS wv_X2_82 hl (kc_J0_charAt_5068e l D cA ad _ η F _ j9 hj9 r35 hc35) (vk_recv (i := j9) (adK := fun i => ad (60 + i)) hZ.2.2.2.2.2.2.2.1 hj9 hS) rfl rfl rfl (Nat.le_of_ble_eq_true rfl) ⟨Nat.le_refl _, Nat.le_refl _⟩ dX2_spells_35) ?_
        refine lv_icmp_eq (tgt := 43) C.1 C.2.1 dX2_spells_38 (by decide) (fun c38 => ?_) (fun c38 => ?_)
        · have hf := br_p c38 hf
          obtain ⟨x3_43, ex3_43, hf⟩ := lt_some hf
          refine lv_iinc (v := x3_43) (lv' := [(3, .int x3_43), (0, .ref (ad 42)), (1, .ref (ad (60 + j9))), (2, .int x2)]) C.1 C.2.1 dX2_spells_43 hl (k := 3) rfl (by rw [ex3_43]; rfl) (by decide) rfl (fun ls hl => ?_)
          refine lv_goto (tgt := 17) C.1 C.2.1 dX2_spells_46 (by decide) ?_
          exact ih17 ls _ _ (lv_sub hl [1, 2, 3, 0] rfl) hf
        · have hf := br_n c38 hf
          refine lv_iconst (v := (0 : Int32)) C.1 C.2.1 dX2_spells_41 (by decide) ?_
          exact KRc.zret C hr hlk (by decide) (Option.some.inj hf) dX2_spells_42
  unfold fc_X2_spells at hf
  refine lv_aload_n C.1 C.2.1 dX2_spells_0 rfl (lv_at hl 0 rfl) ?_
  refine gc_tx_cursor C hK hP wf_X2_32 dX2_spells_1 ?_
  refine lv_iload_n C.1 C.2.1 dX2_spells_4 rfl (lv_at hl 2 rfl) ?_
  refine lv_isub C.1 C.2.1 dX2_spells_5 ?_
  refine lv_aload_n C.1 C.2.1 dX2_spells_6 rfl (lv_at hl 1 rfl) ?_
  obtain ⟨r7, hc7, hf⟩ := bd_some hf
  refine cV_go (runRVc (As := []) C hK hP hZ hS wv_X2_78 hl (kc_J0_length_8abf5 l D cA ad _ η F  j9 hj9 r7 hc7) (vk_recv (i := j9) (adK := fun i => ad (60 + i)) hZ.2.2.2.2.2.2.2.1 hj9 hS) rfl rfl rfl (Nat.le_of_ble_eq_true rfl) ⟨Nat.le_refl _, Nat.le_refl _⟩ dX2_spells_7) ?_
  refine lv_icmp_eq (tgt := 15) C.1 C.2.1 dX2_spells_10 (by decide) (fun c10 => ?_) (fun c10 => ?_)
  · have hf := br_p c10 hf
    refine lv_iconst (v := (0 : Int32)) C.1 C.2.1 dX2_spells_15 (by decide) ?_
    refine lv_istore_n (lv' := [(3, .int (0 : Int32)), (0, .ref (ad 42)), (1, .ref (ad (60 + j9))), (2, .int z2)]) C.1 C.2.1 dX2_spells_16 rfl hl (by decide) rfl (fun ls hl => ?_)
    exact hB17 F ls _ _ (lv_sub hl [1, 2, 3, 0] rfl) hf
  · have hf := br_n c10 hf
    refine lv_iconst (v := (0 : Int32)) C.1 C.2.1 dX2_spells_13 (by decide) ?_
    exact KRc.zret C hr hlk (by decide) (Option.some.inj hf) dX2_spells_14
def fc_X2_wordFrom_L75 (F : Nat) (σ : CSt) (s0 : Int32) : Option (Int32) :=
  some s0
def fc_X2_wordFrom (F : Nat) (σ : CSt) (x1 : Int32) : Option (Int32) :=
  bd (fc_X2_spells F σ (0) x1) (fun r4 => if r4 = 0 then (bd (fc_X2_spells F σ (1) x1) (fun r16 => if r16 = 0 then (bd (fc_X2_spells F σ (2) x1) (fun r28 => if r28 = 0 then (bd (fc_X2_spells F σ (3) x1) (fun r40 => if r40 = 0 then (bd (fc_X2_spells F σ (4) x1) (fun r52 => if r52 = 0 then (bd (fc_X2_spells F σ (5) x1) (fun r64 => if r64 = 0 then (fc_X2_wordFrom_L75 F σ (-1 : Int32)) else (fc_X2_wordFrom_L75 F σ (5 : Int32)))) else (some (4 : Int32)))) else (some (3 : Int32)))) else (some (2 : Int32)))) else (some (1 : Int32)))) else (some (0 : Int32)))
set_option maxHeartbeats 4000000 in
set_option maxRecDepth 100000 in
theorem kc_X2_wordFrom (l : Launch) (D : va_G) (cA : Nat → ClassId) (ad : Nat → Nat) (σ : CSt) (η : HS) (F : Nat) (z1 : Int32) (r : Int32) (hf : fc_X2_wordFrom F σ z1 = some r) : KRc l D cA ad σ η yX2_wordFrom cX2_wordFrom 2 (some .int) (rmk 5 108) [.ref (ad 42), .int z1] (QcV (.int r)) := by
  refine KRc.of (by decide) (Nat.le_of_ble_eq_true rfl) ?_
  intro p e s m below meth c C hr hlk hK hP hZ ls hl
  have hS : va_S NoA s.heap s.heap [] := va_S.rf
  have hl : lv_has ls 2 [(0, .ref (ad 42)), (1, .int z1)] := hl
  have hB75 : ∀ (ls : Array Slot) (s0 : Int32), lv_has ls 2 [] → fc_X2_wordFrom_L75 F σ s0 = some r → WRc p l e 5 108 s m [.ref (ad 42), .int z1] below meth c (QcV (.int r)) (F0 m 75 ls [.int s0]) := by
    intro ls s0 hl hf
    unfold fc_X2_wordFrom_L75 at hf
    exact KRc.iret C hr hlk (Option.some.inj hf) dX2_wordFrom_75
  unfold fc_X2_wordFrom at hf
  refine lv_aload_n C.1 C.2.1 dX2_wordFrom_0 rfl (lv_at hl 0 rfl) ?_
  refine va_ldcS C.1 C.2.1 C.2.2.2.1 hZ.2.2.2.2.2.2.2.2.1 dX2_wordFrom_1 ?_
  refine lv_iload_n C.1 C.2.1 dX2_wordFrom_3 rfl (lv_at hl 1 rfl) ?_
  obtain ⟨r4, hc4, hf⟩ := bd_some hf
  refine cV_go (runRVc (As := [_, _]) C hK hP hZ hS wv_X2_64 hl (kc_X2_spells l D cA ad _ η F _ 0 (show 0 < 6 by decide) r4 hc4) (rcC 42 3 hK hP rfl rfl) rfl rfl rfl (Nat.le_of_ble_eq_true rfl) ⟨Nat.le_refl _, Nat.le_refl _⟩ dX2_wordFrom_4) ?_
  refine lv_if_eq (tgt := 12) C.1 C.2.1 dX2_wordFrom_7 (by decide) (fun c7 => ?_) (fun c7 => ?_)
  · have hf := br_p c7 hf
    refine lv_aload_n C.1 C.2.1 dX2_wordFrom_12 rfl (lv_at hl 0 rfl) ?_
    refine va_ldcS C.1 C.2.1 C.2.2.2.1 hZ.2.2.2.2.2.2.2.2.2.1 dX2_wordFrom_13 ?_
    refine lv_iload_n C.1 C.2.1 dX2_wordFrom_15 rfl (lv_at hl 1 rfl) ?_
    obtain ⟨r16, hc16, hf⟩ := bd_some hf
    refine cV_go (runRVc (As := [_, _]) C hK hP hZ hS wv_X2_64 hl (kc_X2_spells l D cA ad _ η F _ 1 (show 1 < 6 by decide) r16 hc16) (rcC 42 3 hK hP rfl rfl) rfl rfl rfl (Nat.le_of_ble_eq_true rfl) ⟨Nat.le_refl _, Nat.le_refl _⟩ dX2_wordFrom_16) ?_
    refine lv_if_eq (tgt := 24) C.1 C.2.1 dX2_wordFrom_19 (by decide) (fun c19 => ?_) (fun c19 => ?_)
    · have hf := br_p c19 hf
      refine lv_aload_n C.1 C.2.1 dX2_wordFrom_24 rfl (lv_at hl 0 rfl) ?_
      refine va_ldcS C.1 C.2.1 C.2.2.2.1 hZ.2.2.2.2.2.2.2.2.2.2.1 dX2_wordFrom_25 ?_
      refine lv_iload_n C.1 C.2.1 dX2_wordFrom_27 rfl (lv_at hl 1 rfl) ?_
      obtain ⟨r28, hc28, hf⟩ := bd_some hf
      refine cV_go (runRVc (As := [_, _]) C hK hP hZ hS wv_X2_64 hl (kc_X2_spells l D cA ad _ η F _ 2 (show 2 < 6 by decide) r28 hc28) (rcC 42 3 hK hP rfl rfl) rfl rfl rfl (Nat.le_of_ble_eq_true rfl) ⟨Nat.le_refl _, Nat.le_refl _⟩ dX2_wordFrom_28) ?_
      refine lv_if_eq (tgt := 36) C.1 C.2.1 dX2_wordFrom_31 (by decide) (fun c31 => ?_) (fun c31 => ?_)
      · have hf := br_p c31 hf
        refine lv_aload_n C.1 C.2.1 dX2_wordFrom_36 rfl (lv_at hl 0 rfl) ?_
        refine va_ldcS C.1 C.2.1 C.2.2.2.1 hZ.2.2.2.2.2.2.2.2.2.2.2.1 dX2_wordFrom_37 ?_
        refine lv_iload_n C.1 C.2.1 dX2_wordFrom_39 rfl (lv_at hl 1 rfl) ?_
        obtain ⟨r40, hc40, hf⟩ := bd_some hf
        refine cV_go (runRVc (As := [_, _]) C hK hP hZ hS wv_X2_64 hl (kc_X2_spells l D cA ad _ η F _ 3 (show 3 < 6 by decide) r40 hc40) (rcC 42 3 hK hP rfl rfl) rfl rfl rfl (Nat.le_of_ble_eq_true rfl) ⟨Nat.le_refl _, Nat.le_refl _⟩ dX2_wordFrom_40) ?_
        refine lv_if_eq (tgt := 48) C.1 C.2.1 dX2_wordFrom_43 (by decide) (fun c43 => ?_) (fun c43 => ?_)
        · have hf := br_p c43 hf
          refine lv_aload_n C.1 C.2.1 dX2_wordFrom_48 rfl (lv_at hl 0 rfl) ?_
          refine va_ldcS C.1 C.2.1 C.2.2.2.1 hZ.2.2.2.2.2.2.2.2.2.2.2.2.1 dX2_wordFrom_49 ?_
          refine lv_iload_n C.1 C.2.1 dX2_wordFrom_51 rfl (lv_at hl 1 rfl) ?_
          obtain ⟨r52, hc52, hf⟩ := bd_some hf
          refine cV_go (runRVc (As := [_, _]) C hK hP hZ hS wv_X2_64 hl (kc_X2_spells l D cA ad _ η F _ 4 (show 4 < 6 by decide) r52 hc52) (rcC 42 3 hK hP rfl rfl) rfl rfl rfl (Nat.le_of_ble_eq_true rfl) ⟨Nat.le_refl _, Nat.le_refl _⟩ dX2_wordFrom_52) ?_
          refine lv_if_eq (tgt := 60) C.1 C.2.1 dX2_wordFrom_55 (by decide) (fun c55 => ?_) (fun c55 => ?_)
          · have hf := br_p c55 hf
            refine lv_aload_n C.1 C.2.1 dX2_wordFrom_60 rfl (lv_at hl 0 rfl) ?_
            refine va_ldcS C.1 C.2.1 C.2.2.2.1 hZ.2.2.2.2.2.2.2.2.2.2.2.2.2 dX2_wordFrom_61 ?_
            refine lv_iload_n C.1 C.2.1 dX2_wordFrom_63 rfl (lv_at hl 1 rfl) ?_
            obtain ⟨r64, hc64, hf⟩ := bd_some hf
            refine cV_go (runRVc (As := [_, _]) C hK hP hZ hS wv_X2_64 hl (kc_X2_spells l D cA ad _ η F _ 5 (show 5 < 6 by decide) r64 hc64) (rcC 42 3 hK hP rfl rfl) rfl rfl rfl (Nat.le_of_ble_eq_true rfl) ⟨Nat.le_refl _, Nat.le_refl _⟩ dX2_wordFrom_64) ?_
            refine lv_if_eq (tgt := 74) C.1 C.2.1 dX2_wordFrom_67 (by decide) (fun c67 => ?_) (fun c67 => ?_)
            · have hf := br_p c67 hf
              refine lv_iconst (v := (-1 : Int32)) C.1 C.2.1 dX2_wordFrom_74 (by decide) ?_
              exact hB75 ls _ (lv_sub hl [] rfl) hf
            · have hf := br_n c67 hf
              refine lv_iconst (v := (5 : Int32)) C.1 C.2.1 dX2_wordFrom_70 (by decide) ?_
              refine lv_goto (tgt := 75) C.1 C.2.1 dX2_wordFrom_71 (by decide) ?_
              exact hB75 ls _ (lv_sub hl [] rfl) hf
          · have hf := br_n c55 hf
            refine lv_iconst (v := (4 : Int32)) C.1 C.2.1 dX2_wordFrom_58 (by decide) ?_
            exact KRc.iret C hr hlk (Option.some.inj hf) dX2_wordFrom_59
        · have hf := br_n c43 hf
          refine lv_iconst (v := (3 : Int32)) C.1 C.2.1 dX2_wordFrom_46 (by decide) ?_
          exact KRc.iret C hr hlk (Option.some.inj hf) dX2_wordFrom_47
      · have hf := br_n c31 hf
        refine lv_iconst (v := (2 : Int32)) C.1 C.2.1 dX2_wordFrom_34 (by decide) ?_
        exact KRc.iret C hr hlk (Option.some.inj hf) dX2_wordFrom_35
    · have hf := br_n c19 hf
      refine lv_iconst (v := (1 : Int32)) C.1 C.2.1 dX2_wordFrom_22 (by decide) ?_
      exact KRc.iret C hr hlk (Option.some.inj hf) dX2_wordFrom_23
  · have hf := br_n c7 hf
    refine lv_iconst (v := (0 : Int32)) C.1 C.2.1 dX2_wordFrom_10 (by decide) ?_
    exact KRc.iret C hr hlk (Option.some.inj hf) dX2_wordFrom_11
def fc_X2_readWord_L77 (F : Nat) (σ : CSt) (x2 : Int32) : Option (Int32 × CSt) :=
  some (x2, σ)
def fc_X2_readWord_L61 (F : Nat) (σ : CSt) (x1 : Int32) : Option (Int32 × CSt) :=
  bd (fc_X2_wordFrom F σ x1) (fun r63 => if r63 = (-1 : Int32) then (lt (cs_tf_s σ x1) (fun σ74 => fc_X2_readWord_L77 F σ74 r63)) else (fc_X2_readWord_L77 F σ r63))
def fc_X2_readWord_L9_c (F : Nat) (k9 : CSt → Int32 → Option (Int32 × CSt)) (σ : CSt) (x1 : Int32) : Option (Int32 × CSt) :=
  if (cs_tl σ) ≤ (cs_tc σ) then (fc_X2_readWord_L61 F σ x1) else (gd (ix (cs_tc σ) 120 = true) (if (cs_tb σ (cs_tc σ).toNatClampNeg) < (97 : Int32) then (fc_X2_readWord_L61 F σ x1) else (gd (ix (cs_tc σ) 120 = true) (if (122 : Int32) < (cs_tb σ (cs_tc σ).toNatClampNeg) then (fc_X2_readWord_L61 F σ x1) else (lt (cs_tc_s σ ((cs_tc σ) + (1 : Int32))) (fun σ55 => k9 σ55 x1))))))
def fc_X2_readWord_L9 (F : Nat) (n : Nat) (σ : CSt) (x1 : Int32) : Option (Int32 × CSt) := lpN (fun (k : CSt × Int32 → Option (Int32 × CSt)) a => fc_X2_readWord_L9_c F (fun σ x1 => k (σ, x1)) a.1 a.2) n (σ, x1)
def fc_X2_readWord (F : Nat) (σ : CSt) : Option (Int32 × CSt) :=
  bd (fc_X2_skipBlanks F σ) (fun σ1 => lt (cs_tc σ1) (fun x1_8 => fc_X2_readWord_L9 F F σ1 x1_8))
set_option maxHeartbeats 4000000 in
set_option maxRecDepth 100000 in
theorem kc_X2_readWord (l : Launch) (D : va_G) (cA : Nat → ClassId) (ad : Nat → Nat) (σ0 : CSt) (η : HS) (F : Nat)  (r : Int32) (σr : CSt) (hf : fc_X2_readWord F σ0 = some (r, σr)) : KC l D cA ad σ0 η yX2_readWord cX2_readWord 3 (some .int) (rmk 6 129) [.ref (ad 42)] (some (.int r)) σr := by
  refine KC.of (by decide) (Nat.le_of_ble_eq_true rfl) ?_
  intro p e s m below meth c A hAe hA C hr hlk hK hP hD hS hZ ls hl
  have hl : lv_has ls 3 [(0, .ref (ad 42))] := hl
  have hB77 : ∀ (H : Heap) (locs : List Loc) (σ : CSt) (ls : Array Slot) (x2 : Int32), HC D cA ad σ η H → va_D A (wC cA ad σ η) → va_S A s.heap H locs → lv_has ls 3 [(2, .int x2)] → fc_X2_readWord_L77 F σ x2 = some (r, σr) → WC p l e 6 129 s m [.ref (ad 42)] below meth c (some (.int r)) D cA ad σ0 η σr A H locs (F0 m 77 ls []) := by
    intro H locs σ ls x2 hP hD hS hl hf
    unfold fc_X2_readWord_L77 at hf
    refine lv_iload_n C.1 C.2.1 dX2_readWord_77 rfl (lv_at hl 0 rfl) ?_
    obtain ⟨rfl, rfl⟩ := Prod.mk.inj (Option.some.inj hf)
    exact KC.iret C hr hlk hK hAe hP hD hS rfl dX2_readWord_78
  have hB61 : ∀ (H : Heap) (locs : List Loc) (σ : CSt) (ls : Array Slot) (x1 : Int32), HC D cA ad σ η H → va_D A (wC cA ad σ η) → va_S A s.heap H locs → lv_has ls 3 [(0, .ref (ad 42)), (1, .int x1)] → fc_X2_readWord_L61 F σ x1 = some (r, σr) → WC p l e 6 129 s m [.ref (ad 42)] below meth c (some (.int r)) D cA ad σ0 η σr A H locs (F0 m 61 ls []) := by
    intro H locs σ ls x1 hP hD hS hl hf
    unfold fc_X2_readWord_L61 at hf
    refine lv_aload_n C.1 C.2.1 dX2_readWord_61 rfl (lv_at hl 0 rfl) ?_
    refine lv_iload_n C.1 C.2.1 dX2_readWord_62 rfl (lv_at hl 1 rfl) ?_
    obtain ⟨r63, hc63, hf⟩ := bd_some hf
    refine cV_go (runRVc (As := [_]) C hK hP hZ hS wv_X2_58 hl (kc_X2_wordFrom l D cA ad _ η F _  r63 hc63) (rcC 42 3 hK hP rfl rfl) rfl rfl rfl (Nat.le_of_ble_eq_true rfl) ⟨Nat.le_refl _, Nat.le_refl _⟩ dX2_readWord_63) ?_
    refine lv_istore_n (lv' := [(2, .int r63), (0, .ref (ad 42)), (1, .int x1)]) C.1 C.2.1 dX2_readWord_66 rfl hl (by decide) rfl (fun ls hl => ?_)
    refine lv_iload_n C.1 C.2.1 dX2_readWord_67 rfl (lv_at hl 0 rfl) ?_
    refine lv_iconst (v := (-1 : Int32)) C.1 C.2.1 dX2_readWord_68 (by decide) ?_
    refine lv_icmp_ne (tgt := 77) C.1 C.2.1 dX2_readWord_69 (by decide) (fun c69 => ?_) (fun c69 => ?_)
    · have hf := br_n c69 hf
      exact hB77 _ _ _ ls _ hP hD hS (lv_sub hl [0] rfl) hf
    · have hf := br_p c69 hf
      refine lv_aload_n C.1 C.2.1 dX2_readWord_72 rfl (lv_at hl 1 rfl) ?_
      refine lv_iload_n C.1 C.2.1 dX2_readWord_73 rfl (lv_at hl 2 rfl) ?_
      replace hf := lt_e hf
      refine pc_tx_fault C hK hP hD hS wf_X2_29 dX2_readWord_74 (fun H locs hP hD hS => ?_)
      exact hB77 _ _ _ ls _ hP hD hS (lv_sub hl [0] rfl) hf
  have hB9 : ∀ (n9 : Nat) (H : Heap) (locs : List Loc) (σ : CSt) (ls : Array Slot) (x1 : Int32), HC D cA ad σ η H → va_D A (wC cA ad σ η) → va_S A s.heap H locs → lv_has ls 3 [(0, .ref (ad 42)), (1, .int x1)] → fc_X2_readWord_L9 F n9 σ x1 = some (r, σr) → WC p l e 6 129 s m [.ref (ad 42)] below meth c (some (.int r)) D cA ad σ0 η σr A H locs (F0 m 9 ls []) := by
    intro n9
    induction n9 with
    | zero =>
      intro H locs σ ls x1 hP hD hS hl hf
      cases (show (none : Option _) = _ from hf)
    | succ n9 ih9 =>
      intro H locs σ ls x1 hP hD hS hl hf
      have hf : fc_X2_readWord_L9_c F (fc_X2_readWord_L9 F n9) σ x1 = some (r, σr) := hf
      unfold fc_X2_readWord_L9_c at hf
      refine lv_aload_n C.1 C.2.1 dX2_readWord_9 rfl (lv_at hl 0 rfl) ?_
      refine gc_tx_cursor C hK hP wf_X2_32 dX2_readWord_10 ?_
      refine lv_aload_n C.1 C.2.1 dX2_readWord_13 rfl (lv_at hl 0 rfl) ?_
      refine gc_tx_length C hK hP wf_X2_18 dX2_readWord_14 ?_
      refine lv_icmp_ge (tgt := 61) C.1 C.2.1 dX2_readWord_17 (by decide) (fun c17 => ?_) (fun c17 => ?_)
      · have hf := br_p c17 hf
        exact hB61 _ _ _ ls _ hP hD hS (lv_sub hl [0, 1] rfl) hf
      · have hf := br_n c17 hf
        refine lv_aload_n C.1 C.2.1 dX2_readWord_20 rfl (lv_at hl 0 rfl) ?_
        refine gc_tx_bytes C hK hP wf_X2_11 dX2_readWord_21 ?_
        refine lv_aload_n C.1 C.2.1 dX2_readWord_24 rfl (lv_at hl 0 rfl) ?_
        refine gc_tx_cursor C hK hP wf_X2_32 dX2_readWord_25 ?_
        obtain ⟨hi28, hf⟩ := gd_some hf
        refine lc_tb C hK hP hi28 dX2_readWord_28 ?_
        refine lv_bipush (v := (97 : Int32)) C.1 C.2.1 dX2_readWord_29 (by decide) ?_
        refine lv_icmp_lt (tgt := 61) C.1 C.2.1 dX2_readWord_31 (by decide) (fun c31 => ?_) (fun c31 => ?_)
        · have hf := br_p c31 hf
          exact hB61 _ _ _ ls _ hP hD hS (lv_sub hl [0, 1] rfl) hf
        · have hf := br_n c31 hf
          refine lv_aload_n C.1 C.2.1 dX2_readWord_34 rfl (lv_at hl 0 rfl) ?_
          refine gc_tx_bytes C hK hP wf_X2_11 dX2_readWord_35 ?_
          refine lv_aload_n C.1 C.2.1 dX2_readWord_38 rfl (lv_at hl 0 rfl) ?_
          refine gc_tx_cursor C hK hP wf_X2_32 dX2_readWord_39 ?_
          obtain ⟨hi42, hf⟩ := gd_some hf
          refine lc_tb C hK hP hi42 dX2_readWord_42 ?_
          refine lv_bipush (v := (122 : Int32)) C.1 C.2.1 dX2_readWord_43 (by decide) ?_
          refine lv_icmp_gt (tgt := 61) C.1 C.2.1 dX2_readWord_45 (by decide) (fun c45 => ?_) (fun c45 => ?_)
          · have hf := br_p c45 hf
            exact hB61 _ _ _ ls _ hP hD hS (lv_sub hl [0, 1] rfl) hf
          · have hf := br_n c45 hf
            refine lv_aload_n C.1 C.2.1 dX2_readWord_48 rfl (lv_at hl 0 rfl) ?_
            refine lv_dup C.1 C.2.1 dX2_readWord_49 rfl ?_
            refine gc_tx_cursor C hK hP wf_X2_32 dX2_readWord_50 ?_
            refine lv_iconst (v := (1 : Int32)) C.1 C.2.1 dX2_readWord_53 (by decide) ?_
            refine lv_iadd C.1 C.2.1 dX2_readWord_54 ?_
            replace hf := lt_e hf
            refine pc_tx_cursor C hK hP hD hS wf_X2_32 dX2_readWord_55 (fun H locs hP hD hS => ?_)
            refine lv_goto (tgt := 9) C.1 C.2.1 dX2_readWord_58 (by decide) ?_
            exact ih9 _ _ _ ls _ hP hD hS (lv_sub hl [0, 1] rfl) hf
  unfold fc_X2_readWord at hf
  refine lv_aload_n C.1 C.2.1 dX2_readWord_0 rfl (lv_at hl 0 rfl) ?_
  obtain ⟨σ1, hc1, hf⟩ := bd_some hf
  refine callCV (As := []) C hK hP hD hA hS hZ wv_X2_55 hl (kc_X2_skipBlanks l D cA ad _ η F   σ1 hc1) (rcC 42 3 hK hP rfl rfl) rfl rfl rfl (Nat.le_of_ble_eq_true rfl) ⟨Nat.le_refl _, Nat.le_refl _⟩ dX2_readWord_1 (fun H locs hP hD hS => ?_)
  refine lv_aload_n C.1 C.2.1 dX2_readWord_4 rfl (lv_at hl 0 rfl) ?_
  refine gc_tx_cursor C hK hP wf_X2_32 dX2_readWord_5 ?_
  obtain ⟨x1_8, ex1_8, hf⟩ := lt_some hf
  refine lv_tope ex1_8 ?_
  refine lv_istore_n (lv' := [(1, .int x1_8), (0, .ref (ad 42))]) C.1 C.2.1 dX2_readWord_8 rfl hl (by decide) rfl (fun ls hl => ?_)
  exact hB9 F _ _ _ ls _ hP hD hS (lv_sub hl [1, 0] rfl) hf
def fc_X2_readCommand_L29_c (F : Nat) (k29 : CSt → Int32 → Option (Int32 × CSt)) (σ : CSt) (x1 : Int32) : Option (Int32 × CSt) :=
  gd (ix (cs_tw σ) 6 = true) (if (tNW (cs_tw σ).toNatClampNeg) ≤ x1 then (bd2 (fc_X2_readSeparator F σ) (fun r70 σ70 => gd (r70 = 0 ∨ r70 = 1) (some (r70, σ70)))) else (bd2 (fc_X2_readNumber F σ) (fun r47 σ47 => gd (ix x1 6 = true) (lt (sc_tn σ47 x1 r47) (fun σ50 => gd (ix x1 6 = true) (if (cs_tn σ50 x1.toNatClampNeg) = (-1 : Int32) then (some ((0 : Int32), σ50)) else (lt (x1 + (1 : Int32)) (fun x1_63 => k29 σ50 x1_63))))))))
def fc_X2_readCommand_L29 (F : Nat) (n : Nat) (σ : CSt) (x1 : Int32) : Option (Int32 × CSt) := lpN (fun (k : CSt × Int32 → Option (Int32 × CSt)) a => fc_X2_readCommand_L29_c F (fun σ x1 => k (σ, x1)) a.1 a.2) n (σ, x1)
def fc_X2_readCommand (F : Nat) (σ : CSt) : Option (Int32 × CSt) :=
  if (cs_te σ) = 0 then (bd2 (fc_X2_readWord F σ) (fun r11 σ11 => lt (cs_tw_s σ11 r11) (fun σ14 => if (cs_tw σ14) = (-1 : Int32) then (some ((0 : Int32), σ14)) else (fc_X2_readCommand_L29 F F σ14 (0 : Int32))))) else (some ((0 : Int32), σ))
set_option maxHeartbeats 4000000 in
set_option maxRecDepth 100000 in
theorem kc_X2_readCommand (l : Launch) (D : va_G) (cA : Nat → ClassId) (ad : Nat → Nat) (σ0 : CSt) (η : HS) (F : Nat)  (r : Int32) (σr : CSt) (hf : fc_X2_readCommand F σ0 = some (r, σr)) : KC l D cA ad σ0 η yX2_readCommand cX2_readCommand 2 (some .boolean) (rmk 7 151) [.ref (ad 42)] (some (.int r)) σr := by
  refine KC.of (by decide) (Nat.le_of_ble_eq_true rfl) ?_
  intro p e s m below meth c A hAe hA C hr hlk hK hP hD hS hZ ls hl
  have hl : lv_has ls 2 [(0, .ref (ad 42))] := hl
  have hB29 : ∀ (n29 : Nat) (H : Heap) (locs : List Loc) (σ : CSt) (ls : Array Slot) (x1 : Int32), HC D cA ad σ η H → va_D A (wC cA ad σ η) → va_S A s.heap H locs → lv_has ls 2 [(0, .ref (ad 42)), (1, .int x1)] → fc_X2_readCommand_L29 F n29 σ x1 = some (r, σr) → WC p l e 7 151 s m [.ref (ad 42)] below meth c (some (.int r)) D cA ad σ0 η σr A H locs (F0 m 29 ls []) := by
    intro n29
    induction n29 with
    | zero =>
      intro H locs σ ls x1 hP hD hS hl hf
      cases (show (none : Option _) = _ from hf)
    | succ n29 ih29 =>
      intro H locs σ ls x1 hP hD hS hl hf
      have hf : fc_X2_readCommand_L29_c F (fc_X2_readCommand_L29 F n29) σ x1 = some (r, σr) := hf
      unfold fc_X2_readCommand_L29_c at hf
      refine lv_iload_n C.1 C.2.1 dX2_readCommand_29 rfl (lv_at hl 1 rfl) ?_
      refine va_gets C.1 C.2.1 hZ.2.2.1.1 hS C.2.2.2.1 (C.2.2.2.2 _ wf_X2_46) (fun _ h9 => h9) dX2_readCommand_30 ?_
      refine lv_aload_n C.1 C.2.1 dX2_readCommand_33 rfl (lv_at hl 0 rfl) ?_
      refine gc_tx_word C hK hP wf_X2_43 dX2_readCommand_34 ?_
      obtain ⟨hi37, hf⟩ := gd_some hf
      refine va_ti C.1 C.2.1 hZ.2.2.1.2 hS (ix_in hi37) rfl dX2_readCommand_37 ?_
      refine lv_icmp_ge (tgt := 69) C.1 C.2.1 dX2_readCommand_38 (by decide) (fun c38 => ?_) (fun c38 => ?_)
      · have hf := br_p c38 hf
        refine lv_aload_n C.1 C.2.1 dX2_readCommand_69 rfl (lv_at hl 0 rfl) ?_
        obtain ⟨r70, σ70, hc70, hf⟩ := bd2_some hf
        refine callCV (As := []) C hK hP hD hA hS hZ wv_X2_52 hl (kc_X2_readSeparator l D cA ad _ η F   r70 σ70 hc70) (rcC 42 3 hK hP rfl rfl) rfl rfl rfl (Nat.le_of_ble_eq_true rfl) ⟨Nat.le_refl _, Nat.le_refl _⟩ dX2_readCommand_70 (fun H locs hP hD hS => ?_)
        obtain ⟨hz73, hf⟩ := gd_some hf
        obtain ⟨rfl, rfl⟩ := Prod.mk.inj (Option.some.inj hf)
        exact KC.zret C hr hlk hK hAe hP hD hS hz73 rfl dX2_readCommand_73
      · have hf := br_n c38 hf
        refine lv_aload_n C.1 C.2.1 dX2_readCommand_41 rfl (lv_at hl 0 rfl) ?_
        refine gc_tx_numbers C hK hP wf_X2_15 dX2_readCommand_42 ?_
        refine lv_iload_n C.1 C.2.1 dX2_readCommand_45 rfl (lv_at hl 1 rfl) ?_
        refine lv_aload_n C.1 C.2.1 dX2_readCommand_46 rfl (lv_at hl 0 rfl) ?_
        obtain ⟨r47, σ47, hc47, hf⟩ := bd2_some hf
        refine callCV (As := []) C hK hP hD hA hS hZ wv_X2_49 hl (kc_X2_readNumber l D cA ad _ η F   r47 σ47 hc47) (rcC 42 3 hK hP rfl rfl) rfl rfl rfl (Nat.le_of_ble_eq_true rfl) ⟨Nat.le_refl _, Nat.le_refl _⟩ dX2_readCommand_47 (fun H locs hP hD hS => ?_)
        obtain ⟨hi50, hf⟩ := gd_some hf
        replace hf := lt_e hf
        refine uc_tn C hK hP hD hS hi50 dX2_readCommand_50 (fun H locs hP hD hS => ?_)
        refine lv_aload_n C.1 C.2.1 dX2_readCommand_51 rfl (lv_at hl 0 rfl) ?_
        refine gc_tx_numbers C hK hP wf_X2_15 dX2_readCommand_52 ?_
        refine lv_iload_n C.1 C.2.1 dX2_readCommand_55 rfl (lv_at hl 1 rfl) ?_
        obtain ⟨hi56, hf⟩ := gd_some hf
        refine lc_tn C hK hP hi56 dX2_readCommand_56 ?_
        refine lv_iconst (v := (-1 : Int32)) C.1 C.2.1 dX2_readCommand_57 (by decide) ?_
        refine lv_icmp_ne (tgt := 63) C.1 C.2.1 dX2_readCommand_58 (by decide) (fun c58 => ?_) (fun c58 => ?_)
        · have hf := br_n c58 hf
          obtain ⟨x1_63, ex1_63, hf⟩ := lt_some hf
          refine lv_iinc (v := x1_63) (lv' := [(1, .int x1_63), (0, .ref (ad 42))]) C.1 C.2.1 dX2_readCommand_63 hl (k := 1) rfl (by rw [ex1_63]; rfl) (by decide) rfl (fun ls hl => ?_)
          refine lv_goto (tgt := 29) C.1 C.2.1 dX2_readCommand_66 (by decide) ?_
          exact ih29 _ _ _ ls _ hP hD hS (lv_sub hl [1, 0] rfl) hf
        · have hf := br_p c58 hf
          refine lv_iconst (v := (0 : Int32)) C.1 C.2.1 dX2_readCommand_61 (by decide) ?_
          obtain ⟨rfl, rfl⟩ := Prod.mk.inj (Option.some.inj hf)
          exact KC.zret C hr hlk hK hAe hP hD hS (by decide) rfl dX2_readCommand_62
  unfold fc_X2_readCommand at hf
  refine lv_aload_n C.1 C.2.1 dX2_readCommand_0 rfl (lv_at hl 0 rfl) ?_
  refine gc_tx_hasEnded C hK hP wf_X2_35 dX2_readCommand_1 ?_
  refine lv_if_eq (tgt := 9) C.1 C.2.1 dX2_readCommand_4 (by decide) (fun c4 => ?_) (fun c4 => ?_)
  · have hf := br_p c4 hf
    refine lv_aload_n C.1 C.2.1 dX2_readCommand_9 rfl (lv_at hl 0 rfl) ?_
    refine lv_aload_n C.1 C.2.1 dX2_readCommand_10 rfl (lv_at hl 0 rfl) ?_
    obtain ⟨r11, σ11, hc11, hf⟩ := bd2_some hf
    refine callCV (As := []) C hK hP hD hA hS hZ wv_X2_39 hl (kc_X2_readWord l D cA ad _ η F   r11 σ11 hc11) (rcC 42 3 hK hP rfl rfl) rfl rfl rfl (Nat.le_of_ble_eq_true rfl) ⟨Nat.le_refl _, Nat.le_refl _⟩ dX2_readCommand_11 (fun H locs hP hD hS => ?_)
    replace hf := lt_e hf
    refine pc_tx_word C hK hP hD hS wf_X2_43 dX2_readCommand_14 (fun H locs hP hD hS => ?_)
    refine lv_aload_n C.1 C.2.1 dX2_readCommand_17 rfl (lv_at hl 0 rfl) ?_
    refine gc_tx_word C hK hP wf_X2_43 dX2_readCommand_18 ?_
    refine lv_iconst (v := (-1 : Int32)) C.1 C.2.1 dX2_readCommand_21 (by decide) ?_
    refine lv_icmp_ne (tgt := 27) C.1 C.2.1 dX2_readCommand_22 (by decide) (fun c22 => ?_) (fun c22 => ?_)
    · have hf := br_n c22 hf
      refine lv_iconst (v := (0 : Int32)) C.1 C.2.1 dX2_readCommand_27 (by decide) ?_
      refine lv_istore_n (lv' := [(1, .int (0 : Int32)), (0, .ref (ad 42))]) C.1 C.2.1 dX2_readCommand_28 rfl hl (by decide) rfl (fun ls hl => ?_)
      exact hB29 F _ _ _ ls _ hP hD hS (lv_sub hl [1, 0] rfl) hf
    · have hf := br_p c22 hf
      refine lv_iconst (v := (0 : Int32)) C.1 C.2.1 dX2_readCommand_25 (by decide) ?_
      obtain ⟨rfl, rfl⟩ := Prod.mk.inj (Option.some.inj hf)
      exact KC.zret C hr hlk hK hAe hP hD hS (by decide) rfl dX2_readCommand_26
  · have hf := br_n c4 hf
    refine lv_iconst (v := (0 : Int32)) C.1 C.2.1 dX2_readCommand_7 (by decide) ?_
    obtain ⟨rfl, rfl⟩ := Prod.mk.inj (Option.some.inj hf)
    exact KC.zret C hr hlk hK hAe hP hD hS (by decide) rfl dX2_readCommand_8
def fc_X2_findFault_L29 (F : Nat) (σ : CSt) : Option (Int32 × CSt) :=
  some ((cs_tf σ), σ)
def fc_X2_findFault_L8_c (F : Nat) (k8 : CSt → Int32 → Int32 → Option (Int32 × CSt)) (σ : CSt) (x1 : Int32) (x2 : Int32) : Option (Int32 × CSt) :=
  if (120 : Int32) ≤ x2 then (fc_X2_findFault_L29 F σ) else (if x1 = 0 then (fc_X2_findFault_L29 F σ) else (bd2 (fc_X2_readCommand F σ) (fun r19 σ19 => lt (x2 + (1 : Int32)) (fun x2_23 => k8 σ19 r19 x2_23))))
def fc_X2_findFault_L8 (F : Nat) (n : Nat) (σ : CSt) (x1 : Int32) (x2 : Int32) : Option (Int32 × CSt) := lpN (fun (k : CSt × Int32 × Int32 → Option (Int32 × CSt)) a => fc_X2_findFault_L8_c F (fun σ x1 x2 => k (σ, x1, x2)) a.1 a.2.1 a.2.2) n (σ, x1, x2)
def fc_X2_findFault (F : Nat) (σ : CSt) : Option (Int32 × CSt) :=
  bd (fc_X2_rewind F σ) (fun σ1 => fc_X2_findFault_L8 F F σ1 (1 : Int32) (0 : Int32))
set_option maxHeartbeats 4000000 in
set_option maxRecDepth 100000 in
theorem kc_X2_findFault (l : Launch) (D : va_G) (cA : Nat → ClassId) (ad : Nat → Nat) (σ0 : CSt) (η : HS) (F : Nat)  (r : Int32) (σr : CSt) (hf : fc_X2_findFault F σ0 = some (r, σr)) : KC l D cA ad σ0 η yX2_findFault cX2_findFault 3 (some .int) (rmk 8 172) [.ref (ad 42)] (some (.int r)) σr := by
  refine KC.of (by decide) (Nat.le_of_ble_eq_true rfl) ?_
  intro p e s m below meth c A hAe hA C hr hlk hK hP hD hS hZ ls hl
  have hl : lv_has ls 3 [(0, .ref (ad 42))] := hl
  have hB29 : ∀ (H : Heap) (locs : List Loc) (σ : CSt) (ls : Array Slot), HC D cA ad σ η H → va_D A (wC cA ad σ η) → va_S A s.heap H locs → lv_has ls 3 [(0, .ref (ad 42))] → fc_X2_findFault_L29 F σ = some (r, σr) → WC p l e 8 172 s m [.ref (ad 42)] below meth c (some (.int r)) D cA ad σ0 η σr A H locs (F0 m 29 ls []) := by
    intro H locs σ ls hP hD hS hl hf
    unfold fc_X2_findFault_L29 at hf
    refine lv_aload_n C.1 C.2.1 dX2_findFault_29 rfl (lv_at hl 0 rfl) ?_
    refine gc_tx_fault C hK hP wf_X2_29 dX2_findFault_30 ?_
    obtain ⟨rfl, rfl⟩ := Prod.mk.inj (Option.some.inj hf)
    exact KC.iret C hr hlk hK hAe hP hD hS rfl dX2_findFault_33
  have hB8 : ∀ (n8 : Nat) (H : Heap) (locs : List Loc) (σ : CSt) (ls : Array Slot) (x1 : Int32) (x2 : Int32), HC D cA ad σ η H → va_D A (wC cA ad σ η) → va_S A s.heap H locs → lv_has ls 3 [(0, .ref (ad 42)), (1, .int x1), (2, .int x2)] → fc_X2_findFault_L8 F n8 σ x1 x2 = some (r, σr) → WC p l e 8 172 s m [.ref (ad 42)] below meth c (some (.int r)) D cA ad σ0 η σr A H locs (F0 m 8 ls []) := by
    intro n8
    induction n8 with
    | zero =>
      intro H locs σ ls x1 x2 hP hD hS hl hf
      cases (show (none : Option _) = _ from hf)
    | succ n8 ih8 =>
      intro H locs σ ls x1 x2 hP hD hS hl hf
      have hf : fc_X2_findFault_L8_c F (fc_X2_findFault_L8 F n8) σ x1 x2 = some (r, σr) := hf
      unfold fc_X2_findFault_L8_c at hf
      refine lv_iload_n C.1 C.2.1 dX2_findFault_8 rfl (lv_at hl 2 rfl) ?_
      refine lv_bipush (v := (120 : Int32)) C.1 C.2.1 dX2_findFault_9 (by decide) ?_
      refine lv_icmp_ge (tgt := 29) C.1 C.2.1 dX2_findFault_11 (by decide) (fun c11 => ?_) (fun c11 => ?_)
      · have hf := br_p c11 hf
        exact hB29 _ _ _ ls hP hD hS (lv_sub hl [0] rfl) hf
      · have hf := br_n c11 hf
        refine lv_iload_n C.1 C.2.1 dX2_findFault_14 rfl (lv_at hl 1 rfl) ?_
        refine lv_if_eq (tgt := 29) C.1 C.2.1 dX2_findFault_15 (by decide) (fun c15 => ?_) (fun c15 => ?_)
        · have hf := br_p c15 hf
          exact hB29 _ _ _ ls hP hD hS (lv_sub hl [0] rfl) hf
        · have hf := br_n c15 hf
          refine lv_aload_n C.1 C.2.1 dX2_findFault_18 rfl (lv_at hl 0 rfl) ?_
          obtain ⟨r19, σ19, hc19, hf⟩ := bd2_some hf
          refine callCV (As := []) C hK hP hD hA hS hZ wv_X2_25 hl (kc_X2_readCommand l D cA ad _ η F   r19 σ19 hc19) (rcC 42 3 hK hP rfl rfl) rfl rfl rfl (Nat.le_of_ble_eq_true rfl) ⟨Nat.le_refl _, Nat.le_refl _⟩ dX2_findFault_19 (fun H locs hP hD hS => ?_)
          refine lv_istore_n (lv' := [(1, .int r19), (0, .ref (ad 42)), (2, .int x2)]) C.1 C.2.1 dX2_findFault_22 rfl hl (by decide) rfl (fun ls hl => ?_)
          obtain ⟨x2_23, ex2_23, hf⟩ := lt_some hf
          refine lv_iinc (v := x2_23) (lv' := [(2, .int x2_23), (1, .int r19), (0, .ref (ad 42))]) C.1 C.2.1 dX2_findFault_23 hl (k := 2) rfl (by rw [ex2_23]; rfl) (by decide) rfl (fun ls hl => ?_)
          refine lv_goto (tgt := 8) C.1 C.2.1 dX2_findFault_26 (by decide) ?_
          exact ih8 _ _ _ ls _ _ hP hD hS (lv_sub hl [2, 1, 0] rfl) hf
  unfold fc_X2_findFault at hf
  refine lv_aload_n C.1 C.2.1 dX2_findFault_0 rfl (lv_at hl 0 rfl) ?_
  obtain ⟨σ1, hc1, hf⟩ := bd_some hf
  refine callCV (As := []) C hK hP hD hA hS hZ wv_X2_22 hl (kc_X2_rewind l D cA ad _ η F   σ1 hc1) (rcC 42 3 hK hP rfl rfl) rfl rfl rfl (Nat.le_of_ble_eq_true rfl) ⟨Nat.le_refl _, Nat.le_refl _⟩ dX2_findFault_1 (fun H locs hP hD hS => ?_)
  refine lv_iconst (v := (1 : Int32)) C.1 C.2.1 dX2_findFault_4 (by decide) ?_
  refine lv_istore_n (lv' := [(1, .int (1 : Int32)), (0, .ref (ad 42))]) C.1 C.2.1 dX2_findFault_5 rfl hl (by decide) rfl (fun ls hl => ?_)
  refine lv_iconst (v := (0 : Int32)) C.1 C.2.1 dX2_findFault_6 (by decide) ?_
  refine lv_istore_n (lv' := [(2, .int (0 : Int32)), (1, .int (1 : Int32)), (0, .ref (ad 42))]) C.1 C.2.1 dX2_findFault_7 rfl hl (by decide) rfl (fun ls hl => ?_)
  exact hB8 F _ _ _ ls _ _ hP hD hS (lv_sub hl [2, 1, 0] rfl) hf
