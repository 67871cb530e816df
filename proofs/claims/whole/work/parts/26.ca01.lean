def fc_X9_takeWay_L84 (F : Nat) (σ : CSt) : Option (Int32 × CSt) :=
  some ((0 : Int32), σ)
def fc_X9_takeWay_L32 (F : Nat) (σ : CSt) (x1 : Int32) (x2 : Int32) : Option (Int32 × CSt) :=
  bd2 (fc_X8_makeRoute F σ x2) (fun v45 σ45 => gd (ix x1 10 = true) (lt (cs_cr_s σ45 (va_up (cs_cr σ45) x1.toNatClampNeg (some v45))) (fun σ48 => some ((1 : Int32), σ48))))
def fc_X9_takeWay (F : Nat) (σ : CSt) (x1 : Int32) (x2 : Int32) : Option (Int32 × CSt) :=
  bd (fc_X8_walk F σ) (fun σ4 => gd (ix x1 10 = true) (mo (cs_cr σ4 x1.toNatClampNeg) (fc_X9_takeWay_L32 F σ4 x1 x2) (fun v15 => bd (fc_X8_walkedAlong F σ4 v15) (fun r26 => if r26 = 0 then (fc_X9_takeWay_L32 F σ4 x1 x2) else (if v15.1 = x2 then (fc_X9_takeWay_L84 F σ4) else (lt (bump σ4 1 3) (fun σ67 => gd (ix x1 10 = true) (lt (cs_cr_s σ67 (va_up (cs_cr σ67) x1.toNatClampNeg (some (x2, v15.2.1, v15.2.2.1, v15.2.2.2)))) (fun σ83 => fc_X9_takeWay_L84 F σ83)))))))))
theorem mo_X9_takeWay_L84 {F : Nat} {σ : CSt} {r : Int32} {σr : CSt}  (h : fc_X9_takeWay_L84 F σ = some (r, σr)) : Mo σ σr := by
  unfold fc_X9_takeWay_L84 at h
  obtain ⟨-, rfl⟩ := Prod.mk.inj (Option.some.inj h)
  exact Mo.rf
theorem mo_X9_takeWay_L32 {F : Nat} {σ : CSt} {x1 : Int32} {x2 : Int32} {r : Int32} {σr : CSt}  (h : fc_X9_takeWay_L32 F σ x1 x2 = some (r, σr)) : Mo σ σr := by
  unfold fc_X9_takeWay_L32 at h
  obtain ⟨v45, σ45, hd1, h⟩ := bd2_some h
  have g1 : Mo σ σ45 := mo_X8_makeRoute hd1
  obtain ⟨-, h⟩ := gd_some h
  obtain ⟨σ48, he2, h⟩ := lt_some h
  have g2 : Mo σ45 σ48 := by rw [he2]; exact (Mo.rf : Mo σ45 σ45)
  obtain ⟨-, rfl⟩ := Prod.mk.inj (Option.some.inj h)
  exact Mo.tr (g1) g2
theorem mo_X9_takeWay {F : Nat} {σ : CSt} {x1 : Int32} {x2 : Int32} {r : Int32} {σr : CSt}  (h : fc_X9_takeWay F σ x1 x2 = some (r, σr)) : Mo σ σr := by
  unfold fc_X9_takeWay at h
  obtain ⟨σ4, hd1, h⟩ := bd_some h
  have g1 : Mo σ σ4 := mo_X8_walk hd1
  obtain ⟨-, h⟩ := gd_some h
  rcases mo_any h with h | ⟨v15, h⟩
  · exact Mo.tr (g1) (mo_X9_takeWay_L32  h)
  · obtain ⟨r26, hd2, h⟩ := bd_some h
    rcases br_any h with h | h
    · exact Mo.tr (g1) (mo_X9_takeWay_L32  h)
    · rcases br_any h with h | h
      · exact Mo.tr (g1) (mo_X9_takeWay_L84  h)
      · obtain ⟨σ67, he3, h⟩ := lt_some h
        have g3 : Mo σ4 σ67 := by rw [he3]; exact Mo.bump _ _ _
        obtain ⟨-, h⟩ := gd_some h
        obtain ⟨σ83, he4, h⟩ := lt_some h
        have g4 : Mo σ67 σ83 := by rw [he4]; exact (Mo.rf : Mo σ67 σ67)
        exact Mo.tr (Mo.tr (Mo.tr (g1) g3) g4) (mo_X9_takeWay_L84  h)
set_option maxHeartbeats 4000000 in
set_option maxRecDepth 100000 in
theorem kc_X9_takeWay (l : Launch) (D : va_G) (cA : Nat → ClassId) (ad : Nat → Nat) (σ0 : CSt) (η0 : HS) (F : Nat) (z1 : Int32) (z2 : Int32) (r : Int32) (σr : CSt) (hf : fc_X9_takeWay F σ0 z1 z2 = some (r, σr)) : KE l D cA ad σ0 η0 yX9_takeWay cX9_takeWay 4 (some .boolean) (rmc 4 95 (cs_nc σr - cs_nc σ0) (cs_ns σr - cs_ns σ0)) [.ref (ad 0), .int z1, .int z2] (some (.int r)) σr := by
  refine KE.of (by decide) (Nat.le_of_ble_eq_true rfl) ?_
  intro p e s m below meth c A hAe hA C hr hlk hK hP hD hS hZ ls hl
  have hx : ext η0 η0 := ext.rf
  have hcc : CC 0 0 σ0 σ0 := CC.z
  have hcl : 0 ≤ cs_nc σr - cs_nc σ0 ∧ 0 ≤ cs_ns σr - cs_ns σ0 := ⟨Nat.zero_le _, Nat.zero_le _⟩
  have hl : lv_has ls 4 [(0, .ref (ad 0)), (1, .int z1), (2, .int z2)] := hl
  have hB84 : ∀ (η : HS) (H : Heap) (locs : List Loc) (σ : CSt) (ls : Array Slot), ext η0 η → HC D cA ad σ η H → va_D A (wC cA ad σ η) → va_S A s.heap H locs → Mo σ0 σ → lv_has ls 4 [] → fc_X9_takeWay_L84 F σ = some (r, σr) → WE p l e 4 95 (cs_nc σr - cs_nc σ0) (cs_ns σr - cs_ns σ0) s m [.ref (ad 0), .int z1, .int z2] below meth c (some (.int r)) D cA ad σ0 η0 σr A H locs (cs_nc σ - cs_nc σ0) (cs_ns σ - cs_ns σ0) (F0 m 84 ls []) := by
    intro η H locs σ ls hx hP hD hS hM0 hl hf
    have hcc := CC.lab hM0
    have hcl := hcc.le (mo_X9_takeWay_L84  hf)
    unfold fc_X9_takeWay_L84 at hf
    refine lv_iconst (v := (0 : Int32)) C.1 C.2.1 dX9_takeWay_84 (by decide) ?_
    obtain ⟨rfl, rfl⟩ := Prod.mk.inj (Option.some.inj hf)
    exact KE.zret C hr hlk hK hAe hx hP hD hS (hcc.le Mo.rf).1 (hcc.le Mo.rf).2 (by decide) rfl dX9_takeWay_85
  have hB32 : ∀ (η : HS) (H : Heap) (locs : List Loc) (σ : CSt) (ls : Array Slot) (x1 : Int32) (x2 : Int32), ext η0 η → HC D cA ad σ η H → va_D A (wC cA ad σ η) → va_S A s.heap H locs → Mo σ0 σ → lv_has ls 4 [(0, .ref (ad 0)), (1, .int x1), (2, .int x2)] → fc_X9_takeWay_L32 F σ x1 x2 = some (r, σr) → WE p l e 4 95 (cs_nc σr - cs_nc σ0) (cs_ns σr - cs_ns σ0) s m [.ref (ad 0), .int z1, .int z2] below meth c (some (.int r)) D cA ad σ0 η0 σr A H locs (cs_nc σ - cs_nc σ0) (cs_ns σ - cs_ns σ0) (F0 m 32 ls []) := by
    intro η H locs σ ls x1 x2 hx hP hD hS hM0 hl hf
    have hcc := CC.lab hM0
    have hcl := hcc.le (mo_X9_takeWay_L32  hf)
    unfold fc_X9_takeWay_L32 at hf
    refine lv_aload_n C.1 C.2.1 dX9_takeWay_32 rfl (lv_at hl 0 rfl) ?_
    refine gc_R_canvas C hK hP wf_X9_10 dX9_takeWay_33 ?_
    refine gc_cv_routes C hK hP wf_X9_103 dX9_takeWay_36 ?_
    refine lv_iload_n C.1 C.2.1 dX9_takeWay_39 rfl (lv_at hl 1 rfl) ?_
    refine lv_aload_n C.1 C.2.1 dX9_takeWay_40 rfl (lv_at hl 0 rfl) ?_
    refine gc_R_finder C hK hP wf_X9_26 dX9_takeWay_41 ?_
    refine lv_iload_n C.1 C.2.1 dX9_takeWay_44 rfl (lv_at hl 2 rfl) ?_
    obtain ⟨v45, σ45, hc45, hf⟩ := bd2_some hf
    have hcc := CC.add2 (mo_X8_makeRoute hc45) hcc
    have hcl := CC.le (σr := σr) hcc (by
      have h := hf
      obtain ⟨-, h⟩ := gd_some h
      obtain ⟨σ48, he1, h⟩ := lt_some h
      have g1 : Mo σ45 σ48 := by rw [he1]; exact (Mo.rf : Mo σ45 σ45)
      obtain ⟨-, rfl⟩ := Prod.mk.inj (Option.some.inj h)
      exact g1)
    refine callMV (As := [_]) C hK hP hD hA hS hZ wv_X9_280 hl (kc_X8_makeRoute l D cA ad _ _ F _  v45 σ45 hc45) (rcC 23 8 hK hP rfl rfl) rfl rfl rfl (Nat.le_of_ble_eq_true rfl) hcl dX9_takeWay_45 (fun a45 η H locs hx1 hv45 hP hD hS => ?_)
    replace hx := hx.tr hx1
    obtain ⟨hi48, hf⟩ := gd_some hf
    replace hf := lt_e hf
    refine sr_crs C hK hP hD hS hv45 hi48 dX9_takeWay_48 (fun η H locs hx1 hP hD hS => ?_)
    replace hx := hx.tr hx1
    refine lv_iconst (v := (1 : Int32)) C.1 C.2.1 dX9_takeWay_49 (by decide) ?_
    obtain ⟨rfl, rfl⟩ := Prod.mk.inj (Option.some.inj hf)
    exact KE.zret C hr hlk hK hAe hx hP hD hS (hcc.le Mo.rf).1 (hcc.le Mo.rf).2 (by decide) rfl dX9_takeWay_50
  unfold fc_X9_takeWay at hf
  refine lv_aload_n C.1 C.2.1 dX9_takeWay_0 rfl (lv_at hl 0 rfl) ?_
  refine gc_R_finder C hK hP wf_X9_26 dX9_takeWay_1 ?_
  obtain ⟨σ4, hc4, hf⟩ := bd_some hf
  refine callCV (As := []) C hK hP hD hA hS hZ wv_X9_273 hl (kc_X8_walk l D cA ad _ _ F   σ4 hc4) (rcC 23 8 hK hP rfl rfl) rfl rfl rfl (Nat.le_of_ble_eq_true rfl) hcl dX9_takeWay_4 (fun H locs hP hD hS => ?_)
  replace hcc := CC.mo2 (mo_X8_walk hc4) hcc
  refine lv_aload_n C.1 C.2.1 dX9_takeWay_7 rfl (lv_at hl 0 rfl) ?_
  refine gc_R_canvas C hK hP wf_X9_10 dX9_takeWay_8 ?_
  refine gc_cv_routes C hK hP wf_X9_103 dX9_takeWay_11 ?_
  refine lv_iload_n C.1 C.2.1 dX9_takeWay_14 rfl (lv_at hl 1 rfl) ?_
  obtain ⟨hi15, hf⟩ := gd_some hf
  refine lr_cr C hK hP hi15 dX9_takeWay_15 (fun hn15 => ?_) (fun a15 v15 he15 hv15 => ?_)
  · have hf := mo_n hn15 hf
    refine lv_astore_nN (lv' := [(3, .null), (0, .ref (ad 0)), (1, .int z1), (2, .int z2)]) C.1 C.2.1 dX9_takeWay_16 rfl hl (by decide) rfl (fun ls hl => ?_)
    refine lv_aload_nN C.1 C.2.1 dX9_takeWay_17 rfl (lv_at hl 0 rfl) ?_
    refine lv_ifnullN (tgt := 32) C.1 C.2.1 dX9_takeWay_18 (by decide) ?_
    have hcw := CC.le hcc Mo.rf
    refine W.widen ?_ ?_ (hB32 _ _ _ _ ls _ _ hx hP hD hS hcc.M (lv_sub hl [1, 2, 3] rfl) hf)
    · exact hcw.1
    · exact hcw.2
  · have hf := mo_s he15 hf
    refine lv_astore_n (lv' := [(3, .ref a15), (0, .ref (ad 0)), (1, .int z1), (2, .int z2)]) C.1 C.2.1 dX9_takeWay_16 rfl hl (by decide) rfl (fun ls hl => ?_)
    refine lv_aload_n C.1 C.2.1 dX9_takeWay_17 rfl (lv_at hl 0 rfl) ?_
    refine lv_ifnull C.1 C.2.1 dX9_takeWay_18 ?_
    refine lv_aload_n C.1 C.2.1 dX9_takeWay_21 rfl (lv_at hl 1 rfl) ?_
    refine gc_R_finder C hK hP wf_X9_26 dX9_takeWay_22 ?_
    refine lv_aload_n C.1 C.2.1 dX9_takeWay_25 rfl (lv_at hl 0 rfl) ?_
    obtain ⟨r26, hc26, hf⟩ := bd_some hf
    refine cV_go (runRVc (As := [_]) C hK hP hZ hS wv_X9_276 hl (kc_X8_walkedAlong l D cA ad _ _ F _ _ hv15 r26 hc26) (rcC 23 8 hK hP rfl rfl) rfl rfl rfl (Nat.le_of_ble_eq_true rfl) hcl dX9_takeWay_26) ?_
    refine lv_if_ne (tgt := 51) C.1 C.2.1 dX9_takeWay_29 (by decide) (fun c29 => ?_) (fun c29 => ?_)
    · have hf := br_n c29 hf
      refine lv_aload_n C.1 C.2.1 dX9_takeWay_51 rfl (lv_at hl 0 rfl) ?_
      refine gp_cost C hK hP hv15 wf_X9_146 dX9_takeWay_52 ?_
      refine lv_iload_n C.1 C.2.1 dX9_takeWay_55 rfl (lv_at hl 3 rfl) ?_
      refine lv_icmp_eq (tgt := 84) C.1 C.2.1 dX9_takeWay_56 (by decide) (fun c56 => ?_) (fun c56 => ?_)
      · have hf := br_p c56 hf
        have hcw := CC.le hcc Mo.rf
        refine W.widen ?_ ?_ (hB84 _ _ _ _ ls hx hP hD hS hcc.M (lv_sub hl [] rfl) hf)
        · exact hcw.1
        · exact hcw.2
      · have hf := br_n c56 hf
        refine lv_aload_n C.1 C.2.1 dX9_takeWay_59 rfl (lv_at hl 1 rfl) ?_
        refine gc_R_canvas C hK hP wf_X9_10 dX9_takeWay_60 ?_
        refine gc_cv_routes C hK hP wf_X9_103 dX9_takeWay_63 ?_
        refine lv_iload_n C.1 C.2.1 dX9_takeWay_66 rfl (lv_at hl 2 rfl) ?_
        replace hf := lt_e hf
        have hcc := CC.bump 1 3 hcc
        have hcl := CC.le (σr := σr) hcc (by
          have h := hf
          obtain ⟨-, h⟩ := gd_some h
          obtain ⟨σ83, he1, h⟩ := lt_some h
          have g1 : Mo (bump σ4 1 3) σ83 := by rw [he1]; exact (Mo.rf : Mo (bump σ4 1 3) (bump σ4 1 3))
          exact Mo.tr (g1) (mo_X9_takeWay_L84  h))
        have hxB67 := hx
        refine nw_rt C hK hP hD hS hA wnr_X9_147 hcl dX9_takeWay_67 (fun q67 η H hq67 hx1 hu67 hP hD hS => ?_)
        have hxb67 := hx1
        replace hx := hx.tr hx1
        replace hv15 := hv15.ext hx1
        refine lv_dup C.1 C.2.1 dX9_takeWay_70 rfl ?_
        refine lv_iload_n C.1 C.2.1 dX9_takeWay_71 rfl (lv_at hl 3 rfl) ?_
        refine lv_aload_n C.1 C.2.1 dX9_takeWay_72 rfl (lv_at hl 0 rfl) ?_
        refine gp_xs C hK hP hv15 wf_X9_164 dX9_takeWay_73 (fun q73 hq73 => ?_)
        refine lv_aload_n C.1 C.2.1 dX9_takeWay_76 rfl (lv_at hl 0 rfl) ?_
        refine gp_ys C hK hP hv15 wf_X9_168 dX9_takeWay_77 (fun q77 hq77 => ?_)
        refine in_rt (q := q67) C hK hP hD hA hS hZ hl wri_X9_283 hu67 hxb67 hq67 hq73 hq77 rfl (Nat.le_of_ble_eq_true rfl) hcl dX9_takeWay_80 (fun η H locs hx1 hrt80 hP hD hS => ?_)
        replace hx := hxB67.tr hx1
        obtain ⟨hi83, hf⟩ := gd_some hf
        replace hf := lt_e hf
        refine sr_crs C hK hP hD hS hrt80 hi83 dX9_takeWay_83 (fun η H locs hx1 hP hD hS => ?_)
        replace hx := hx.tr hx1
        have hcw := CC.le hcc Mo.rf
        refine W.widen ?_ ?_ (hB84 _ _ _ _ ls hx hP hD hS hcc.M (lv_sub hl [] rfl) hf)
        · exact hcw.1
        · exact hcw.2
    · have hf := br_p c29 hf
      have hcw := CC.le hcc Mo.rf
      refine W.widen ?_ ?_ (hB32 _ _ _ _ ls _ _ hx hP hD hS hcc.M (lv_sub hl [1, 2, 3] rfl) hf)
      · exact hcw.1
      · exact hcw.2
def fc_X9_route_L46 (F : Nat) (σ : CSt) (x2 : Int32) : Option (Int32 × CSt) :=
  some (x2, σ)
def fc_X9_route (F : Nat) (σ : CSt) (x1 : Int32) : Option (Int32 × CSt) :=
  bd (fc_X1_hasConnector F σ x1) (fun r5 => if r5 = 0 then (some ((-1001 : Int32), σ)) else (bd (fc_X9_remember F σ) (fun σ16 => bd2 (fc_X8_findCost F σ16 x1) (fun r28 σ28 => if r28 = (-1000 : Int32) then (fc_X9_route_L46 F σ28 r28) else (bd2 (fc_X9_takeWay F σ28 x1 r28) (fun r42 σ42 => fc_X9_route_L46 F σ42 r28))))))
theorem mo_X9_route_L46 {F : Nat} {σ : CSt} {x2 : Int32} {r : Int32} {σr : CSt}  (h : fc_X9_route_L46 F σ x2 = some (r, σr)) : Mo σ σr := by
  unfold fc_X9_route_L46 at h
  obtain ⟨-, rfl⟩ := Prod.mk.inj (Option.some.inj h)
  exact Mo.rf
theorem mo_X9_route {F : Nat} {σ : CSt} {x1 : Int32} {r : Int32} {σr : CSt}  (h : fc_X9_route F σ x1 = some (r, σr)) : Mo σ σr := by
  unfold fc_X9_route at h
  obtain ⟨r5, hd1, h⟩ := bd_some h
  rcases br_any h with h | h
  · obtain ⟨-, rfl⟩ := Prod.mk.inj (Option.some.inj h)
    exact Mo.rf
  · obtain ⟨σ16, hd2, h⟩ := bd_some h
    have g2 : Mo σ σ16 := mo_X9_remember hd2
    obtain ⟨r28, σ28, hd3, h⟩ := bd2_some h
    have g3 : Mo σ16 σ28 := mo_X8_findCost hd3
    rcases br_any h with h | h
    · exact Mo.tr (Mo.tr (g2) g3) (mo_X9_route_L46  h)
    · obtain ⟨r42, σ42, hd4, h⟩ := bd2_some h
      have g4 : Mo σ28 σ42 := mo_X9_takeWay hd4
      exact Mo.tr (Mo.tr (Mo.tr (g2) g3) g4) (mo_X9_route_L46  h)
set_option maxHeartbeats 4000000 in
set_option maxRecDepth 100000 in
theorem kc_X9_route (l : Launch) (D : va_G) (cA : Nat → ClassId) (ad : Nat → Nat) (σ0 : CSt) (η0 : HS) (F : Nat) (z1 : Int32) (r : Int32) (σr : CSt) (hf : fc_X9_route F σ0 z1 = some (r, σr)) : KE l D cA ad σ0 η0 yX9_route cX9_route 3 (some .int) (rmc 5 136 (cs_nc σr - cs_nc σ0) (cs_ns σr - cs_ns σ0)) [.ref (ad 0), .int z1] (some (.int r)) σr := by
  refine KE.of (by decide) (Nat.le_of_ble_eq_true rfl) ?_
  intro p e s m below meth c A hAe hA C hr hlk hK hP hD hS hZ ls hl
  have hx : ext η0 η0 := ext.rf
  have hcc : CC 0 0 σ0 σ0 := CC.z
  have hcl : 0 ≤ cs_nc σr - cs_nc σ0 ∧ 0 ≤ cs_ns σr - cs_ns σ0 := ⟨Nat.zero_le _, Nat.zero_le _⟩
  have hl : lv_has ls 3 [(0, .ref (ad 0)), (1, .int z1)] := hl
  have hB46 : ∀ (η : HS) (H : Heap) (locs : List Loc) (σ : CSt) (ls : Array Slot) (x2 : Int32), ext η0 η → HC D cA ad σ η H → va_D A (wC cA ad σ η) → va_S A s.heap H locs → Mo σ0 σ → lv_has ls 3 [(2, .int x2)] → fc_X9_route_L46 F σ x2 = some (r, σr) → WE p l e 5 136 (cs_nc σr - cs_nc σ0) (cs_ns σr - cs_ns σ0) s m [.ref (ad 0), .int z1] below meth c (some (.int r)) D cA ad σ0 η0 σr A H locs (cs_nc σ - cs_nc σ0) (cs_ns σ - cs_ns σ0) (F0 m 46 ls []) := by
    intro η H locs σ ls x2 hx hP hD hS hM0 hl hf
    have hcc := CC.lab hM0
    have hcl := hcc.le (mo_X9_route_L46  hf)
    unfold fc_X9_route_L46 at hf
    refine lv_iload_n C.1 C.2.1 dX9_route_46 rfl (lv_at hl 0 rfl) ?_
    obtain ⟨rfl, rfl⟩ := Prod.mk.inj (Option.some.inj hf)
    exact KE.iret C hr hlk hK hAe hx hP hD hS (hcc.le Mo.rf).1 (hcc.le Mo.rf).2 rfl dX9_route_47
  unfold fc_X9_route at hf
  refine lv_aload_n C.1 C.2.1 dX9_route_0 rfl (lv_at hl 0 rfl) ?_
  refine gc_R_canvas C hK hP wf_X9_10 dX9_route_1 ?_
  refine lv_iload_n C.1 C.2.1 dX9_route_4 rfl (lv_at hl 1 rfl) ?_
  obtain ⟨r5, hc5, hf⟩ := bd_some hf
  refine cV_go (runRVc (As := [_]) C hK hP hZ hS wv_X9_110 hl (kc_X1_hasConnector l D cA ad _ _ F _  r5 hc5) (rcC 1 2 hK hP rfl rfl) rfl rfl rfl (Nat.le_of_ble_eq_true rfl) hcl dX9_route_5) ?_
  refine lv_if_ne (tgt := 15) C.1 C.2.1 dX9_route_8 (by decide) (fun c8 => ?_) (fun c8 => ?_)
  · have hf := br_n c8 hf
    refine lv_aload_n C.1 C.2.1 dX9_route_15 rfl (lv_at hl 0 rfl) ?_
    obtain ⟨σ16, hc16, hf⟩ := bd_some hf
    refine callEV (As := []) C hK hP hD hA hS hZ wv_X9_63 hl (kc_X9_remember l D cA ad _ _ F   σ16 hc16) (rcC 0 9 hK hP rfl rfl) rfl rfl rfl (Nat.le_of_ble_eq_true rfl) hcl dX9_route_16 (fun η H locs hx1 hP hD hS => ?_)
    replace hx := hx.tr hx1
    replace hcc := CC.mo2 (mo_X9_remember hc16) hcc
    refine lv_aload_n C.1 C.2.1 dX9_route_19 rfl (lv_at hl 0 rfl) ?_
    refine gc_R_finder C hK hP wf_X9_26 dX9_route_20 ?_
    refine lv_aload_n C.1 C.2.1 dX9_route_23 rfl (lv_at hl 0 rfl) ?_
    refine gc_R_canvas C hK hP wf_X9_10 dX9_route_24 ?_
    refine lv_iload_n C.1 C.2.1 dX9_route_27 rfl (lv_at hl 1 rfl) ?_
    obtain ⟨r28, σ28, hc28, hf⟩ := bd2_some hf
    refine callCV (As := [_, _]) C hK hP hD hA hS hZ wv_X9_138 hl (kc_X8_findCost l D cA ad _ _ F _  r28 σ28 hc28) (rcC 23 8 hK hP rfl rfl) rfl rfl rfl (Nat.le_of_ble_eq_true rfl) hcl dX9_route_28 (fun H locs hP hD hS => ?_)
    replace hcc := CC.mo2 (mo_X8_findCost hc28) hcc
    refine lv_istore_n (lv' := [(2, .int r28), (0, .ref (ad 0)), (1, .int z1)]) C.1 C.2.1 dX9_route_31 rfl hl (by decide) rfl (fun ls hl => ?_)
    refine lv_iload_n C.1 C.2.1 dX9_route_32 rfl (lv_at hl 0 rfl) ?_
    refine lv_sipush (v := (-1000 : Int32)) C.1 C.2.1 dX9_route_33 (by decide) ?_
    refine lv_icmp_eq (tgt := 46) C.1 C.2.1 dX9_route_36 (by decide) (fun c36 => ?_) (fun c36 => ?_)
    · have hf := br_p c36 hf
      have hcw := CC.le hcc Mo.rf
      refine W.widen ?_ ?_ (hB46 _ _ _ _ ls _ hx hP hD hS hcc.M (lv_sub hl [0] rfl) hf)
      · exact hcw.1
      · exact hcw.2
    · have hf := br_n c36 hf
      refine lv_aload_n C.1 C.2.1 dX9_route_39 rfl (lv_at hl 1 rfl) ?_
      refine lv_iload_n C.1 C.2.1 dX9_route_40 rfl (lv_at hl 2 rfl) ?_
      refine lv_iload_n C.1 C.2.1 dX9_route_41 rfl (lv_at hl 0 rfl) ?_
      obtain ⟨r42, σ42, hc42, hf⟩ := bd2_some hf
      have hcc := CC.add2 (mo_X9_takeWay hc42) hcc
      have hcl := CC.le (σr := σr) hcc (by
        have h := hf
        exact (mo_X9_route_L46  h))
      refine callEV (As := [_, _]) C hK hP hD hA hS hZ wv_X9_142 hl (kc_X9_takeWay l D cA ad _ _ F _ _  r42 σ42 hc42) (rcC 0 9 hK hP rfl rfl) rfl rfl rfl (Nat.le_of_ble_eq_true rfl) hcl dX9_route_42 (fun η H locs hx1 hP hD hS => ?_)
      replace hx := hx.tr hx1
      refine lv_pop C.1 C.2.1 dX9_route_45 rfl ?_
      have hcw := CC.le hcc Mo.rf
      refine W.widen ?_ ?_ (hB46 _ _ _ _ ls _ hx hP hD hS hcc.M (lv_sub hl [0] rfl) hf)
      · exact hcw.1
      · exact hcw.2
  · have hf := br_p c8 hf
    refine lv_sipush (v := (-1001 : Int32)) C.1 C.2.1 dX9_route_11 (by decide) ?_
    obtain ⟨rfl, rfl⟩ := Prod.mk.inj (Option.some.inj hf)
    exact KE.iret C hr hlk hK hAe hx hP hD hS (hcc.le Mo.rf).1 (hcc.le Mo.rf).2 rfl dX9_route_14
def fc_X9_routeAll_L51 (F : Nat) (k8 : CSt → Int32 → Int32 → Option (Int32 × CSt)) (σ : CSt) (x1 : Int32) (x2 : Int32) : Option (Int32 × CSt) :=
  lt (x2 + (1 : Int32)) (fun x2_51 => k8 σ x1 x2_51)
def fc_X9_routeAll_L8_c (F : Nat) (k8 : CSt → Int32 → Int32 → Option (Int32 × CSt)) (σ : CSt) (x1 : Int32) (x2 : Int32) : Option (Int32 × CSt) :=
  if (cs_cc σ) ≤ x2 then (some (x1, σ)) else (bd2 (fc_X8_findCost F σ x2) (fun r28 σ28 => if r28 = (-1000 : Int32) then (fc_X9_routeAll_L51 F k8 σ28 x1 x2) else (bd2 (fc_X9_takeWay F σ28 x2 r28) (fun r42 σ42 => if r42 = 0 then (fc_X9_routeAll_L51 F k8 σ42 x1 x2) else (lt (x1 + (1 : Int32)) (fun x1_48 => fc_X9_routeAll_L51 F k8 σ42 x1_48 x2))))))
def fc_X9_routeAll_L8 (F : Nat) (n : Nat) (σ : CSt) (x1 : Int32) (x2 : Int32) : Option (Int32 × CSt) := lpN (fun (k : CSt × Int32 × Int32 → Option (Int32 × CSt)) a => fc_X9_routeAll_L8_c F (fun σ x1 x2 => k (σ, x1, x2)) a.1 a.2.1 a.2.2) n (σ, x1, x2)
def fc_X9_routeAll (F : Nat) (σ : CSt) : Option (Int32 × CSt) :=
  bd (fc_X9_remember F σ) (fun σ1 => fc_X9_routeAll_L8 F F σ1 (0 : Int32) (0 : Int32))
theorem mo_X9_routeAll_L51 {F : Nat} {k8 : CSt → Int32 → Int32 → Option (Int32 × CSt)} {σ : CSt} {x1 : Int32} {x2 : Int32} {r : Int32} {σr : CSt} (hk8 : ∀ {y0 : CSt} {y1 : Int32} {y2 : Int32}, k8 y0 y1 y2 = some (r, σr) → Mo y0 σr) (h : fc_X9_routeAll_L51 F k8 σ x1 x2 = some (r, σr)) : Mo σ σr := by
  unfold fc_X9_routeAll_L51 at h
  replace h := lt_e h
  exact (hk8 h)
theorem mo_X9_routeAll_L8_c {F : Nat} {k8 : CSt → Int32 → Int32 → Option (Int32 × CSt)} {σ : CSt} {x1 : Int32} {x2 : Int32} {r : Int32} {σr : CSt} (hk8 : ∀ {y0 : CSt} {y1 : Int32} {y2 : Int32}, k8 y0 y1 y2 = some (r, σr) → Mo y0 σr) (h : fc_X9_routeAll_L8_c F k8 σ x1 x2 = some (r, σr)) : Mo σ σr := by
  unfold fc_X9_routeAll_L8_c at h
  rcases br_any h with h | h
  · obtain ⟨-, rfl⟩ := Prod.mk.inj (Option.some.inj h)
    exact Mo.rf
  · obtain ⟨r28, σ28, hd1, h⟩ := bd2_some h
    have g1 : Mo σ σ28 := mo_X8_findCost hd1
    rcases br_any h with h | h
    · exact Mo.tr (g1) (mo_X9_routeAll_L51 hk8 h)
    · obtain ⟨r42, σ42, hd2, h⟩ := bd2_some h
      have g2 : Mo σ28 σ42 := mo_X9_takeWay hd2
      rcases br_any h with h | h
      · exact Mo.tr (Mo.tr (g1) g2) (mo_X9_routeAll_L51 hk8 h)
      · replace h := lt_e h
        exact Mo.tr (Mo.tr (g1) g2) (mo_X9_routeAll_L51 hk8 h)
theorem mo_X9_routeAll_L8 {F : Nat} {n : Nat} {σ : CSt} {x1 : Int32} {x2 : Int32} {r : Int32} {σr : CSt}  (h : fc_X9_routeAll_L8 F n σ x1 x2 = some (r, σr)) : Mo σ σr := by
  induction n generalizing σ x1 x2 with
  | zero => cases (show (none : Option _) = _ from h)
  | succ n ih => exact mo_X9_routeAll_L8_c  (fun h9 => ih h9) (show fc_X9_routeAll_L8_c F (fc_X9_routeAll_L8 F n) σ x1 x2 = some (r, σr) from h)
theorem mo_X9_routeAll {F : Nat} {σ : CSt} {r : Int32} {σr : CSt}  (h : fc_X9_routeAll F σ = some (r, σr)) : Mo σ σr := by
  unfold fc_X9_routeAll at h
  obtain ⟨σ1, hd1, h⟩ := bd_some h
  have g1 : Mo σ σ1 := mo_X9_remember hd1
  exact Mo.tr (g1) (mo_X9_routeAll_L8  h)
set_option maxHeartbeats 4000000 in
set_option maxRecDepth 100000 in
theorem kc_X9_routeAll (l : Launch) (D : va_G) (cA : Nat → ClassId) (ad : Nat → Nat) (σ0 : CSt) (η0 : HS) (F : Nat)  (r : Int32) (σr : CSt) (hf : fc_X9_routeAll F σ0 = some (r, σr)) : KE l D cA ad σ0 η0 yX9_routeAll cX9_routeAll 4 (some .int) (rmc 5 136 (cs_nc σr - cs_nc σ0) (cs_ns σr - cs_ns σ0)) [.ref (ad 0)] (some (.int r)) σr := by
  refine KE.of (by decide) (Nat.le_of_ble_eq_true rfl) ?_
  intro p e s m below meth c A hAe hA C hr hlk hK hP hD hS hZ ls hl
  have hx : ext η0 η0 := ext.rf
  have hcc : CC 0 0 σ0 σ0 := CC.z
  have hcl : 0 ≤ cs_nc σr - cs_nc σ0 ∧ 0 ≤ cs_ns σr - cs_ns σ0 := ⟨Nat.zero_le _, Nat.zero_le _⟩
  have hl : lv_has ls 4 [(0, .ref (ad 0))] := hl
  have hB8 : ∀ (n8 : Nat) (η : HS) (H : Heap) (locs : List Loc) (σ : CSt) (ls : Array Slot) (x1 : Int32) (x2 : Int32), ext η0 η → HC D cA ad σ η H → va_D A (wC cA ad σ η) → va_S A s.heap H locs → Mo σ0 σ → lv_has ls 4 [(0, .ref (ad 0)), (1, .int x1), (2, .int x2)] → fc_X9_routeAll_L8 F n8 σ x1 x2 = some (r, σr) → WE p l e 5 136 (cs_nc σr - cs_nc σ0) (cs_ns σr - cs_ns σ0) s m [.ref (ad 0)] below meth c (some (.int r)) D cA ad σ0 η0 σr A H locs (cs_nc σ - cs_nc σ0) (cs_ns σ - cs_ns σ0) (F0 m 8 ls []) := by
    intro n8
    induction n8 with
    | zero =>
      intro η H locs σ ls x1 x2 hx hP hD hS hM0 hl hf
      cases (show (none : Option _) = _ from hf)
    | succ n8 ih8 =>
      have hB51 : ∀ (η : HS) (H : Heap) (locs : List Loc) (σ : CSt) (ls : Array Slot) (x1 : Int32) (x2 : Int32), ext η0 η → HC D cA ad σ η H → va_D A (wC cA ad σ η) → va_S A s.heap H locs → Mo σ0 σ → lv_has ls 4 [(0, .ref (ad 0)), (1, .int x1), (2, .int x2)] → fc_X9_routeAll_L51 F (fc_X9_routeAll_L8 F n8) σ x1 x2 = some (r, σr) → WE p l e 5 136 (cs_nc σr - cs_nc σ0) (cs_ns σr - cs_ns σ0) s m [.ref (ad 0)] below meth c (some (.int r)) D cA ad σ0 η0 σr A H locs (cs_nc σ - cs_nc σ0) (cs_ns σ - cs_ns σ0) (F0 m 51 ls []) := by
        intro η H locs σ ls x1 x2 hx hP hD hS hM0 hl hf
        have hcc := CC.lab hM0
        have hcl := hcc.le (mo_X9_routeAll_L51 (fun h9 => mo_X9_routeAll_L8  h9) hf)
        unfold fc_X9_routeAll_L51 at hf
        obtain ⟨x2_51, ex2_51, hf⟩ := lt_some hf
        refine lv_iinc (v := x2_51) (lv' := [(2, .int x2_51), (0, .ref (ad 0)), (1, .int x1)]) C.1 C.2.1 dX9_routeAll_51 hl (k := 2) rfl (by rw [ex2_51]; rfl) (by decide) rfl (fun ls hl => ?_)
        refine lv_goto (tgt := 8) C.1 C.2.1 dX9_routeAll_54 (by decide) ?_
        have hcw := CC.le hcc Mo.rf
        refine W.widen ?_ ?_ (ih8 _ _ _ _ ls _ _ hx hP hD hS hcc.M (lv_sub hl [1, 2, 0] rfl) hf)
        · exact hcw.1
        · exact hcw.2
      intro η H locs σ ls x1 x2 hx hP hD hS hM0 hl hf
      have hcc := CC.lab hM0
      have hcl := hcc.le (mo_X9_routeAll_L8  hf)
      have hf : fc_X9_routeAll_L8_c F (fc_X9_routeAll_L8 F n8) σ x1 x2 = some (r, σr) := hf
      unfold fc_X9_routeAll_L8_c at hf
      refine lv_iload_n C.1 C.2.1 dX9_routeAll_8 rfl (lv_at hl 2 rfl) ?_
      refine lv_aload_n C.1 C.2.1 dX9_routeAll_9 rfl (lv_at hl 0 rfl) ?_
      refine gc_R_canvas C hK hP wf_X9_10 dX9_routeAll_10 ?_
      refine gc_cv_connectors C hK hP wf_X9_100 dX9_routeAll_13 ?_
      refine lv_icmp_ge (tgt := 57) C.1 C.2.1 dX9_routeAll_16 (by decide) (fun c16 => ?_) (fun c16 => ?_)
      · have hf := br_p c16 hf
        refine lv_iload_n C.1 C.2.1 dX9_routeAll_57 rfl (lv_at hl 1 rfl) ?_
        obtain ⟨rfl, rfl⟩ := Prod.mk.inj (Option.some.inj hf)
        exact KE.iret C hr hlk hK hAe hx hP hD hS (hcc.le Mo.rf).1 (hcc.le Mo.rf).2 rfl dX9_routeAll_58
      · have hf := br_n c16 hf
        refine lv_aload_n C.1 C.2.1 dX9_routeAll_19 rfl (lv_at hl 0 rfl) ?_
        refine gc_R_finder C hK hP wf_X9_26 dX9_routeAll_20 ?_
        refine lv_aload_n C.1 C.2.1 dX9_routeAll_23 rfl (lv_at hl 0 rfl) ?_
        refine gc_R_canvas C hK hP wf_X9_10 dX9_routeAll_24 ?_
        refine lv_iload_n C.1 C.2.1 dX9_routeAll_27 rfl (lv_at hl 2 rfl) ?_
        obtain ⟨r28, σ28, hc28, hf⟩ := bd2_some hf
        refine callCV (As := [_, _]) C hK hP hD hA hS hZ wv_X9_138 hl (kc_X8_findCost l D cA ad _ _ F _  r28 σ28 hc28) (rcC 23 8 hK hP rfl rfl) rfl rfl rfl (Nat.le_of_ble_eq_true rfl) hcl dX9_routeAll_28 (fun H locs hP hD hS => ?_)
        replace hcc := CC.mo2 (mo_X8_findCost hc28) hcc
        refine lv_istore_n (lv' := [(3, .int r28), (0, .ref (ad 0)), (1, .int x1), (2, .int x2)]) C.1 C.2.1 dX9_routeAll_31 rfl hl (by decide) rfl (fun ls hl => ?_)
        refine lv_iload_n C.1 C.2.1 dX9_routeAll_32 rfl (lv_at hl 0 rfl) ?_
        refine lv_sipush (v := (-1000 : Int32)) C.1 C.2.1 dX9_routeAll_33 (by decide) ?_
        refine lv_icmp_eq (tgt := 51) C.1 C.2.1 dX9_routeAll_36 (by decide) (fun c36 => ?_) (fun c36 => ?_)
        · have hf := br_p c36 hf
          have hcw := CC.le hcc Mo.rf
          refine W.widen ?_ ?_ (hB51 _ _ _ _ ls _ _ hx hP hD hS hcc.M (lv_sub hl [1, 2, 3] rfl) hf)
          · exact hcw.1
          · exact hcw.2
        · have hf := br_n c36 hf
          refine lv_aload_n C.1 C.2.1 dX9_routeAll_39 rfl (lv_at hl 1 rfl) ?_
          refine lv_iload_n C.1 C.2.1 dX9_routeAll_40 rfl (lv_at hl 3 rfl) ?_
          refine lv_iload_n C.1 C.2.1 dX9_routeAll_41 rfl (lv_at hl 0 rfl) ?_
          obtain ⟨r42, σ42, hc42, hf⟩ := bd2_some hf
          have hcc := CC.add2 (mo_X9_takeWay hc42) hcc
          have hcl := CC.le (σr := σr) hcc (by
            have h := hf
            rcases br_any h with h | h
            · exact (mo_X9_routeAll_L51 (fun h9 => mo_X9_routeAll_L8  h9) h)
            · replace h := lt_e h
              exact (mo_X9_routeAll_L51 (fun h9 => mo_X9_routeAll_L8  h9) h))
          refine callEV (As := [_, _]) C hK hP hD hA hS hZ wv_X9_142 hl (kc_X9_takeWay l D cA ad _ _ F _ _  r42 σ42 hc42) (rcC 0 9 hK hP rfl rfl) rfl rfl rfl (Nat.le_of_ble_eq_true rfl) hcl dX9_routeAll_42 (fun η H locs hx1 hP hD hS => ?_)
          replace hx := hx.tr hx1
          refine lv_if_eq (tgt := 51) C.1 C.2.1 dX9_routeAll_45 (by decide) (fun c45 => ?_) (fun c45 => ?_)
          · have hf := br_p c45 hf
            have hcw := CC.le hcc Mo.rf
            refine W.widen ?_ ?_ (hB51 _ _ _ _ ls _ _ hx hP hD hS hcc.M (lv_sub hl [1, 2, 3] rfl) hf)
            · exact hcw.1
            · exact hcw.2
          · have hf := br_n c45 hf
            obtain ⟨x1_48, ex1_48, hf⟩ := lt_some hf
            refine lv_iinc (v := x1_48) (lv' := [(1, .int x1_48), (3, .int r28), (0, .ref (ad 0)), (2, .int x2)]) C.1 C.2.1 dX9_routeAll_48 hl (k := 2) rfl (by rw [ex1_48]; rfl) (by decide) rfl (fun ls hl => ?_)
            have hcw := CC.le hcc Mo.rf
            refine W.widen ?_ ?_ (hB51 _ _ _ _ ls _ _ hx hP hD hS hcc.M (lv_sub hl [2, 0, 3] rfl) hf)
            · exact hcw.1
            · exact hcw.2
  unfold fc_X9_routeAll at hf
  refine lv_aload_n C.1 C.2.1 dX9_routeAll_0 rfl (lv_at hl 0 rfl) ?_
  obtain ⟨σ1, hc1, hf⟩ := bd_some hf
  refine callEV (As := []) C hK hP hD hA hS hZ wv_X9_63 hl (kc_X9_remember l D cA ad _ _ F   σ1 hc1) (rcC 0 9 hK hP rfl rfl) rfl rfl rfl (Nat.le_of_ble_eq_true rfl) hcl dX9_routeAll_1 (fun η H locs hx1 hP hD hS => ?_)
  replace hx := hx.tr hx1
  replace hcc := CC.mo2 (mo_X9_remember hc1) hcc
  refine lv_iconst (v := (0 : Int32)) C.1 C.2.1 dX9_routeAll_4 (by decide) ?_
  refine lv_istore_n (lv' := [(1, .int (0 : Int32)), (0, .ref (ad 0))]) C.1 C.2.1 dX9_routeAll_5 rfl hl (by decide) rfl (fun ls hl => ?_)
  refine lv_iconst (v := (0 : Int32)) C.1 C.2.1 dX9_routeAll_6 (by decide) ?_
  refine lv_istore_n (lv' := [(2, .int (0 : Int32)), (1, .int (0 : Int32)), (0, .ref (ad 0))]) C.1 C.2.1 dX9_routeAll_7 rfl hl (by decide) rfl (fun ls hl => ?_)
  have hcw := CC.le hcc Mo.rf
  refine W.widen ?_ ?_ (hB8 F _ _ _ _ ls _ _ hx hP hD hS hcc.M (lv_sub hl [2, 1, 0] rfl) hf)
  · exact hcw.1
  · exact hcw.2
def fc_X9_reroute_L63 (F : Nat) (k8 : CSt → Int32 → Int32 → Option (Int32 × CSt)) (σ : CSt) (x1 : Int32) (x2 : Int32) : Option (Int32 × CSt) :=
  lt (x2 + (1 : Int32)) (fun x2_63 => k8 σ x1 x2_63)
def fc_X9_reroute_L8_c (F : Nat) (k8 : CSt → Int32 → Int32 → Option (Int32 × CSt)) (σ : CSt) (x1 : Int32) (x2 : Int32) : Option (Int32 × CSt) :=
  if (cs_cc σ) ≤ x2 then (some (x1, σ)) else (bd (fc_X1_isTouched F σ x2) (fun r24 => if r24 = 0 then (fc_X9_reroute_L63 F k8 σ x1 x2) else (bd2 (fc_X8_findCost F σ x2) (fun r42 σ42 => if r42 = (-1000 : Int32) then (fc_X9_reroute_L63 F k8 σ42 x1 x2) else (bd2 (fc_X9_takeWay F σ42 x2 r42) (fun r56 σ56 => lt (x1 + (1 : Int32)) (fun x1_60 => fc_X9_reroute_L63 F k8 σ56 x1_60 x2)))))))
def fc_X9_reroute_L8 (F : Nat) (n : Nat) (σ : CSt) (x1 : Int32) (x2 : Int32) : Option (Int32 × CSt) := lpN (fun (k : CSt × Int32 × Int32 → Option (Int32 × CSt)) a => fc_X9_reroute_L8_c F (fun σ x1 x2 => k (σ, x1, x2)) a.1 a.2.1 a.2.2) n (σ, x1, x2)
def fc_X9_reroute (F : Nat) (σ : CSt) : Option (Int32 × CSt) :=
  bd (fc_X9_remember F σ) (fun σ1 => fc_X9_reroute_L8 F F σ1 (0 : Int32) (0 : Int32))
theorem mo_X9_reroute_L63 {F : Nat} {k8 : CSt → Int32 → Int32 → Option (Int32 × CSt)} {σ : CSt} {x1 : Int32} {x2 : Int32} {r : Int32} {σr : CSt} (hk8 : ∀ {y0 : CSt} {y1 : Int32} {y2 : Int32}, k8 y0 y1 y2 = some (r, σr) → Mo y0 σr) (h : fc_X9_reroute_L63 F k8 σ x1 x2 = some (r, σr)) : Mo σ σr := by
  unfold fc_X9_reroute_L63 at h
  replace h := lt_e h
  exact (hk8 h)
theorem mo_X9_reroute_L8_c {F : Nat} {k8 : CSt → Int32 → Int32 → Option (Int32 × CSt)} {σ : CSt} {x1 : Int32} {x2 : Int32} {r : Int32} {σr : CSt} (hk8 : ∀ {y0 : CSt} {y1 : Int32} {y2 : Int32}, k8 y0 y1 y2 = some (r, σr) → Mo y0 σr) (h : fc_X9_reroute_L8_c F k8 σ x1 x2 = some (r, σr)) : Mo σ σr := by
  unfold fc_X9_reroute_L8_c at h
  rcases br_any h with h | h
  · obtain ⟨-, rfl⟩ := Prod.mk.inj (Option.some.inj h)
    exact Mo.rf
  · obtain ⟨r24, hd1, h⟩ := bd_some h
    rcases br_any h with h | h
    · exact (mo_X9_reroute_L63 hk8 h)
    · obtain ⟨r42, σ42, hd2, h⟩ := bd2_some h
      have g2 : Mo σ σ42 := mo_X8_findCost hd2
      rcases br_any h with h | h
      · exact Mo.tr (g2) (mo_X9_reroute_L63 hk8 h)
      · obtain ⟨r56, σ56, hd3, h⟩ := bd2_some h
        have g3 : Mo σ42 σ56 := mo_X9_takeWay hd3
        replace h := lt_e h
        exact Mo.tr (Mo.tr (g2) g3) (mo_X9_reroute_L63 hk8 h)
theorem mo_X9_reroute_L8 {F : Nat} {n : Nat} {σ : CSt} {x1 : Int32} {x2 : Int32} {r : Int32} {σr : CSt}  (h : fc_X9_reroute_L8 F n σ x1 x2 = some (r, σr)) : Mo σ σr := by
  induction n generalizing σ x1 x2 with
  | zero => cases (show (none : Option _) = _ from h)
  | succ n ih => exact mo_X9_reroute_L8_c  (fun h9 => ih h9) (show fc_X9_reroute_L8_c F (fc_X9_reroute_L8 F n) σ x1 x2 = some (r, σr) from h)
theorem mo_X9_reroute {F : Nat} {σ : CSt} {r : Int32} {σr : CSt}  (h : fc_X9_reroute F σ = some (r, σr)) : Mo σ σr := by
  unfold fc_X9_reroute at h
  obtain ⟨σ1, hd1, h⟩ := bd_some h
  have g1 : Mo σ σ1 := mo_X9_remember hd1
  exact Mo.tr (g1) (mo_X9_reroute_L8  h)
set_option maxHeartbeats 4000000 in
set_option maxRecDepth 100000 in
theorem kc_X9_reroute (l : Launch) (D : va_G) (cA : Nat → ClassId) (ad : Nat → Nat) (σ0 : CSt) (η0 : HS) (F : Nat)  (r : Int32) (σr : CSt) (hf : fc_X9_reroute F σ0 = some (r, σr)) : KE l D cA ad σ0 η0 yX9_reroute cX9_reroute 4 (some .int) (rmc 5 136 (cs_nc σr - cs_nc σ0) (cs_ns σr - cs_ns σ0)) [.ref (ad 0)] (some (.int r)) σr := by
  refine KE.of (by decide) (Nat.le_of_ble_eq_true rfl) ?_
  intro p e s m below meth c A hAe hA C hr hlk hK hP hD hS hZ ls hl
  have hx : ext η0 η0 := ext.rf
  have hcc : CC 0 0 σ0 σ0 := CC.z
  have hcl : 0 ≤ cs_nc σr - cs_nc σ0 ∧ 0 ≤ cs_ns σr - cs_ns σ0 := ⟨Nat.zero_le _, Nat.zero_le _⟩
  have hl : lv_has ls 4 [(0, .ref (ad 0))] := hl
  have hB8 : ∀ (n8 : Nat) (η : HS) (H : Heap) (locs : List Loc) (σ : CSt) (ls : Array Slot) (x1 : Int32) (x2 : Int32), ext η0 η → HC D cA ad σ η H → va_D A (wC cA ad σ η) → va_S A s.heap H locs → Mo σ0 σ → lv_has ls 4 [(0, .ref (ad 0)), (1, .int x1), (2, .int x2)] → fc_X9_reroute_L8 F n8 σ x1 x2 = some (r, σr) → WE p l e 5 136 (cs_nc σr - cs_nc σ0) (cs_ns σr - cs_ns σ0) s m [.ref (ad 0)] below meth c (some (.int r)) D cA ad σ0 η0 σr A H locs (cs_nc σ - cs_nc σ0) (cs_ns σ - cs_ns σ0) (F0 m 8 ls []) := by
    intro n8
    induction n8 with
    | zero =>
      intro η H locs σ ls x1 x2 hx hP hD hS hM0 hl hf
      cases (show (none : Option _) = _ from hf)
    | succ n8 ih8 =>
      have hB63 : ∀ (η : HS) (H : Heap) (locs : List Loc) (σ : CSt) (ls : Array Slot) (x1 : Int32) (x2 : Int32), ext η0 η → HC D cA ad σ η H → va_D A (wC cA ad σ η) → va_S A s.heap H locs → Mo σ0 σ → lv_has ls 4 [(0, .ref (ad 0)), (1, .int x1), (2, .int x2)] → fc_X9_reroute_L63 F (fc_X9_reroute_L8 F n8) σ x1 x2 = some (r, σr) → WE p l e 5 136 (cs_nc σr - cs_nc σ0) (cs_ns σr - cs_ns σ0) s m [.ref (ad 0)] below meth c (some (.int r)) D cA ad σ0 η0 σr A H locs (cs_nc σ - cs_nc σ0) (cs_ns σ - cs_ns σ0) (F0 m 63 ls []) := by
        intro η H locs σ ls x1 x2 hx hP hD hS hM0 hl hf
        have hcc := CC.lab hM0
        have hcl := hcc.le (mo_X9_reroute_L63 (fun h9 => mo_X9_reroute_L8  h9) hf)
        unfold fc_X9_reroute_L63 at hf
        obtain ⟨x2_63, ex2_63, hf⟩ := lt_some hf
        refine lv_iinc (v := x2_63) (lv' := [(2, .int x2_63), (0, .ref (ad 0)), (1, .int x1)]) C.1 C.2.1 dX9_reroute_63 hl (k := 2) rfl (by rw [ex2_63]; rfl) (by decide) rfl (fun ls hl => ?_)
        refine lv_goto (tgt := 8) C.1 C.2.1 dX9_reroute_66 (by decide) ?_
        have hcw := CC.le hcc Mo.rf
        refine W.widen ?_ ?_ (ih8 _ _ _ _ ls _ _ hx hP hD hS hcc.M (lv_sub hl [1, 2, 0] rfl) hf)
        · exact hcw.1
        · exact hcw.2
      intro η H locs σ ls x1 x2 hx hP hD hS hM0 hl hf
      have hcc := CC.lab hM0
      have hcl := hcc.le (mo_X9_reroute_L8  hf)
      have hf : fc_X9_reroute_L8_c F (fc_X9_reroute_L8 F n8) σ x1 x2 = some (r, σr) := hf
      unfold fc_X9_reroute_L8_c at hf
      refine lv_iload_n C.1 C.2.1 dX9_reroute_8 rfl (lv_at hl 2 rfl) ?_
      refine lv_aload_n C.1 C.2.1 dX9_reroute_9 rfl (lv_at hl 0 rfl) ?_
      refine gc_R_canvas C hK hP wf_X9_10 dX9_reroute_10 ?_
      refine gc_cv_connectors C hK hP wf_X9_100 dX9_reroute_13 ?_
      refine lv_icmp_ge (tgt := 69) C.1 C.2.1 dX9_reroute_16 (by decide) (fun c16 => ?_) (fun c16 => ?_)
      · have hf := br_p c16 hf
        refine lv_iload_n C.1 C.2.1 dX9_reroute_69 rfl (lv_at hl 1 rfl) ?_
        obtain ⟨rfl, rfl⟩ := Prod.mk.inj (Option.some.inj hf)
        exact KE.iret C hr hlk hK hAe hx hP hD hS (hcc.le Mo.rf).1 (hcc.le Mo.rf).2 rfl dX9_reroute_70
      · have hf := br_n c16 hf
        refine lv_aload_n C.1 C.2.1 dX9_reroute_19 rfl (lv_at hl 0 rfl) ?_
        refine gc_R_canvas C hK hP wf_X9_10 dX9_reroute_20 ?_
        refine lv_iload_n C.1 C.2.1 dX9_reroute_23 rfl (lv_at hl 2 rfl) ?_
        obtain ⟨r24, hc24, hf⟩ := bd_some hf
        refine cV_go (runRVc (As := [_]) C hK hP hZ hS wv_X9_132 hl (kc_X1_isTouched l D cA ad _ _ F _  r24 hc24) (rcC 1 2 hK hP rfl rfl) rfl rfl rfl (Nat.le_of_ble_eq_true rfl) hcl dX9_reroute_24) ?_
        refine lv_if_ne (tgt := 33) C.1 C.2.1 dX9_reroute_27 (by decide) (fun c27 => ?_) (fun c27 => ?_)
        · have hf := br_n c27 hf
          refine lv_aload_n C.1 C.2.1 dX9_reroute_33 rfl (lv_at hl 0 rfl) ?_
          refine gc_R_finder C hK hP wf_X9_26 dX9_reroute_34 ?_
          refine lv_aload_n C.1 C.2.1 dX9_reroute_37 rfl (lv_at hl 0 rfl) ?_
          refine gc_R_canvas C hK hP wf_X9_10 dX9_reroute_38 ?_
          refine lv_iload_n C.1 C.2.1 dX9_reroute_41 rfl (lv_at hl 2 rfl) ?_
          obtain ⟨r42, σ42, hc42, hf⟩ := bd2_some hf
          refine callCV (As := [_, _]) C hK hP hD hA hS hZ wv_X9_138 hl (kc_X8_findCost l D cA ad _ _ F _  r42 σ42 hc42) (rcC 23 8 hK hP rfl rfl) rfl rfl rfl (Nat.le_of_ble_eq_true rfl) hcl dX9_reroute_42 (fun H locs hP hD hS => ?_)
          replace hcc := CC.mo2 (mo_X8_findCost hc42) hcc
          refine lv_istore_n (lv' := [(3, .int r42), (0, .ref (ad 0)), (1, .int x1), (2, .int x2)]) C.1 C.2.1 dX9_reroute_45 rfl hl (by decide) rfl (fun ls hl => ?_)
          refine lv_iload_n C.1 C.2.1 dX9_reroute_46 rfl (lv_at hl 0 rfl) ?_
          refine lv_sipush (v := (-1000 : Int32)) C.1 C.2.1 dX9_reroute_47 (by decide) ?_
          refine lv_icmp_eq (tgt := 63) C.1 C.2.1 dX9_reroute_50 (by decide) (fun c50 => ?_) (fun c50 => ?_)
          · have hf := br_p c50 hf
            have hcw := CC.le hcc Mo.rf
            refine W.widen ?_ ?_ (hB63 _ _ _ _ ls _ _ hx hP hD hS hcc.M (lv_sub hl [1, 2, 3] rfl) hf)
            · exact hcw.1
            · exact hcw.2
          · have hf := br_n c50 hf
            refine lv_aload_n C.1 C.2.1 dX9_reroute_53 rfl (lv_at hl 1 rfl) ?_
            refine lv_iload_n C.1 C.2.1 dX9_reroute_54 rfl (lv_at hl 3 rfl) ?_
            refine lv_iload_n C.1 C.2.1 dX9_reroute_55 rfl (lv_at hl 0 rfl) ?_
            obtain ⟨r56, σ56, hc56, hf⟩ := bd2_some hf
            have hcc := CC.add2 (mo_X9_takeWay hc56) hcc
            have hcl := CC.le (σr := σr) hcc (by
              have h := hf
              replace h := lt_e h
              exact (mo_X9_reroute_L63 (fun h9 => mo_X9_reroute_L8  h9) h))
            refine callEV (As := [_, _]) C hK hP hD hA hS hZ wv_X9_142 hl (kc_X9_takeWay l D cA ad _ _ F _ _  r56 σ56 hc56) (rcC 0 9 hK hP rfl rfl) rfl rfl rfl (Nat.le_of_ble_eq_true rfl) hcl dX9_reroute_56 (fun η H locs hx1 hP hD hS => ?_)
            replace hx := hx.tr hx1
            refine lv_pop C.1 C.2.1 dX9_reroute_59 rfl ?_
            obtain ⟨x1_60, ex1_60, hf⟩ := lt_some hf
            refine lv_iinc (v := x1_60) (lv' := [(1, .int x1_60), (3, .int r42), (0, .ref (ad 0)), (2, .int x2)]) C.1 C.2.1 dX9_reroute_60 hl (k := 2) rfl (by rw [ex1_60]; rfl) (by decide) rfl (fun ls hl => ?_)
            have hcw := CC.le hcc Mo.rf
            refine W.widen ?_ ?_ (hB63 _ _ _ _ ls _ _ hx hP hD hS hcc.M (lv_sub hl [2, 0, 3] rfl) hf)
            · exact hcw.1
            · exact hcw.2
        · have hf := br_p c27 hf
          refine lv_goto (tgt := 63) C.1 C.2.1 dX9_reroute_30 (by decide) ?_
          have hcw := CC.le hcc Mo.rf
          refine W.widen ?_ ?_ (hB63 _ _ _ _ ls _ _ hx hP hD hS hcc.M (lv_sub hl [0, 1, 2] rfl) hf)
          · exact hcw.1
          · exact hcw.2
  unfold fc_X9_reroute at hf
  refine lv_aload_n C.1 C.2.1 dX9_reroute_0 rfl (lv_at hl 0 rfl) ?_
  obtain ⟨σ1, hc1, hf⟩ := bd_some hf
  refine callEV (As := []) C hK hP hD hA hS hZ wv_X9_63 hl (kc_X9_remember l D cA ad _ _ F   σ1 hc1) (rcC 0 9 hK hP rfl rfl) rfl rfl rfl (Nat.le_of_ble_eq_true rfl) hcl dX9_reroute_1 (fun η H locs hx1 hP hD hS => ?_)
  replace hx := hx.tr hx1
  replace hcc := CC.mo2 (mo_X9_remember hc1) hcc
  refine lv_iconst (v := (0 : Int32)) C.1 C.2.1 dX9_reroute_4 (by decide) ?_
  refine lv_istore_n (lv' := [(1, .int (0 : Int32)), (0, .ref (ad 0))]) C.1 C.2.1 dX9_reroute_5 rfl hl (by decide) rfl (fun ls hl => ?_)
  refine lv_iconst (v := (0 : Int32)) C.1 C.2.1 dX9_reroute_6 (by decide) ?_
  refine lv_istore_n (lv' := [(2, .int (0 : Int32)), (1, .int (0 : Int32)), (0, .ref (ad 0))]) C.1 C.2.1 dX9_reroute_7 rfl hl (by decide) rfl (fun ls hl => ?_)
  have hcw := CC.le hcc Mo.rf
  refine W.widen ?_ ?_ (hB8 F _ _ _ _ ls _ _ hx hP hD hS hcc.M (lv_sub hl [2, 1, 0] rfl) hf)
  · exact hcw.1
  · exact hcw.2
def fc_X9_refresh_L88 (F : Nat) (k8 : CSt → Int32 → Int32 → Option (Int32 × CSt)) (σ : CSt) (x1 : Int32) (x2 : Int32) : Option (Int32 × CSt) :=
  lt (x2 + (1 : Int32)) (fun x2_88 => k8 σ x1 x2_88)
def fc_X9_refresh_L78 (F : Nat) (k8 : CSt → Int32 → Int32 → Option (Int32 × CSt)) (σ : CSt) (x1 : Int32) (x2 : Int32) (x3 : Int32) : Option (Int32 × CSt) :=
  bd2 (fc_X9_takeWay F σ x2 x3) (fun r81 σ81 => lt (x1 + (1 : Int32)) (fun x1_85 => fc_X9_refresh_L88 F k8 σ81 x1_85 x2))
def fc_X9_refresh_L8_c (F : Nat) (k8 : CSt → Int32 → Int32 → Option (Int32 × CSt)) (σ : CSt) (x1 : Int32) (x2 : Int32) : Option (Int32 × CSt) :=
  if (cs_cc σ) ≤ x2 then (some (x1, σ)) else (bd2 (fc_X8_findCost F σ x2) (fun r28 σ28 => if r28 = (-1000 : Int32) then (fc_X9_refresh_L88 F k8 σ28 x1 x2) else (gd (ix x2 10 = true) (mo (cs_cr σ28 x2.toNatClampNeg) (fc_X9_refresh_L78 F k8 σ28 x1 x2 r28) (fun v50 => if r28 < v50.1 then (fc_X9_refresh_L78 F k8 σ28 x1 x2 r28) else (bd (fc_X1_isTouched F σ28 x2) (fun r72 => if r72 = 0 then (fc_X9_refresh_L88 F k8 σ28 x1 x2) else (fc_X9_refresh_L78 F k8 σ28 x1 x2 r28))))))))
def fc_X9_refresh_L8 (F : Nat) (n : Nat) (σ : CSt) (x1 : Int32) (x2 : Int32) : Option (Int32 × CSt) := lpN (fun (k : CSt × Int32 × Int32 → Option (Int32 × CSt)) a => fc_X9_refresh_L8_c F (fun σ x1 x2 => k (σ, x1, x2)) a.1 a.2.1 a.2.2) n (σ, x1, x2)
def fc_X9_refresh (F : Nat) (σ : CSt) : Option (Int32 × CSt) :=
  bd (fc_X9_remember F σ) (fun σ1 => fc_X9_refresh_L8 F F σ1 (0 : Int32) (0 : Int32))
theorem mo_X9_refresh_L88 {F : Nat} {k8 : CSt → Int32 → Int32 → Option (Int32 × CSt)} {σ : CSt} {x1 : Int32} {x2 : Int32} {r : Int32} {σr : CSt} (hk8 : ∀ {y0 : CSt} {y1 : Int32} {y2 : Int32}, k8 y0 y1 y2 = some (r, σr) → Mo y0 σr) (h : fc_X9_refresh_L88 F k8 σ x1 x2 = some (r, σr)) : Mo σ σr := by
  unfold fc_X9_refresh_L88 at h
  replace h := lt_e h
  exact (hk8 h)
theorem mo_X9_refresh_L78 {F : Nat} {k8 : CSt → Int32 → Int32 → Option (Int32 × CSt)} {σ : CSt} {x1 : Int32} {x2 : Int32} {x3 : Int32} {r : Int32} {σr : CSt} (hk8 : ∀ {y0 : CSt} {y1 : Int32} {y2 : Int32}, k8 y0 y1 y2 = some (r, σr) → Mo y0 σr) (h : fc_X9_refresh_L78 F k8 σ x1 x2 x3 = some (r, σr)) : Mo σ σr := by
  unfold fc_X9_refresh_L78 at h
  obtain ⟨r81, σ81, hd1, h⟩ := bd2_some h
  have g1 : Mo σ σ81 := mo_X9_takeWay hd1
  replace h := lt_e h
  exact Mo.tr (g1) (mo_X9_refresh_L88 hk8 h)
theorem mo_X9_refresh_L8_c {F : Nat} {k8 : CSt → Int32 → Int32 → Option (Int32 × CSt)} {σ : CSt} {x1 : Int32} {x2 : Int32} {r : Int32} {σr : CSt} (hk8 : ∀ {y0 : CSt} {y1 : Int32} {y2 : Int32}, k8 y0 y1 y2 = some (r, σr) → Mo y0 σr) (h : fc_X9_refresh_L8_c F k8 σ x1 x2 = some (r, σr)) : Mo σ σr := by
  unfold fc_X9_refresh_L8_c at h
  rcases br_any h with h | h
  · obtain ⟨-, rfl⟩ := Prod.mk.inj (Option.some.inj h)
    exact Mo.rf
  · obtain ⟨r28, σ28, hd1, h⟩ := bd2_some h
    have g1 : Mo σ σ28 := mo_X8_findCost hd1
    rcases br_any h with h | h
    · exact Mo.tr (g1) (mo_X9_refresh_L88 hk8 h)
    · obtain ⟨-, h⟩ := gd_some h
      rcases mo_any h with h | ⟨v50, h⟩
      · exact Mo.tr (g1) (mo_X9_refresh_L78 hk8 h)
      · rcases br_any h with h | h
        · exact Mo.tr (g1) (mo_X9_refresh_L78 hk8 h)
        · obtain ⟨r72, hd2, h⟩ := bd_some h
          rcases br_any h with h | h
          · exact Mo.tr (g1) (mo_X9_refresh_L88 hk8 h)
          · exact Mo.tr (g1) (mo_X9_refresh_L78 hk8 h)
theorem mo_X9_refresh_L8 {F : Nat} {n : Nat} {σ : CSt} {x1 : Int32} {x2 : Int32} {r : Int32} {σr : CSt}  (h : fc_X9_refresh_L8 F n σ x1 x2 = some (r, σr)) : Mo σ σr := by
  induction n generalizing σ x1 x2 with
  | zero => cases (show (none : Option _) = _ from h)
  | succ n ih => exact mo_X9_refresh_L8_c  (fun h9 => ih h9) (show fc_X9_refresh_L8_c F (fc_X9_refresh_L8 F n) σ x1 x2 = some (r, σr) from h)
theorem mo_X9_refresh {F : Nat} {σ : CSt} {r : Int32} {σr : CSt}  (h : fc_X9_refresh F σ = some (r, σr)) : Mo σ σr := by
  unfold fc_X9_refresh at h
  obtain ⟨σ1, hd1, h⟩ := bd_some h
  have g1 : Mo σ σ1 := mo_X9_remember hd1
  exact Mo.tr (g1) (mo_X9_refresh_L8  h)
set_option maxHeartbeats 4000000 in
set_option maxRecDepth 100000 in
theorem kc_X9_refresh (l : Launch) (D : va_G) (cA : Nat → ClassId) (ad : Nat → Nat) (σ0 : CSt) (η0 : HS) (F : Nat)  (r : Int32) (σr : CSt) (hf : fc_X9_refresh F σ0 = some (r, σr)) : KE l D cA ad σ0 η0 yX9_refresh cX9_refresh 5 (some .int) (rmc 5 136 (cs_nc σr - cs_nc σ0) (cs_ns σr - cs_ns σ0)) [.ref (ad 0)] (some (.int r)) σr := by
  refine KE.of (by decide) (Nat.le_of_ble_eq_true rfl) ?_
  intro p e s m below meth c A hAe hA C hr hlk hK hP hD hS hZ ls hl
  have hx : ext η0 η0 := ext.rf
  have hcc : CC 0 0 σ0 σ0 := CC.z
  have hcl : 0 ≤ cs_nc σr - cs_nc σ0 ∧ 0 ≤ cs_ns σr - cs_ns σ0 := ⟨Nat.zero_le _, Nat.zero_le _⟩
  have hl : lv_has ls 5 [(0, .ref (ad 0))] := hl
  have hB8 : ∀ (n8 : Nat) (η : HS) (H : Heap) (locs : List Loc) (σ : CSt) (ls : Array Slot) (x1 : Int32) (x2 : Int32), ext η0 η → HC D cA ad σ η H → va_D A (wC cA ad σ η) → va_S A s.heap H locs → Mo σ0 σ → lv_has ls 5 [(0, .ref (ad 0)), (1, .int x1), (2, .int x2)] → fc_X9_refresh_L8 F n8 σ x1 x2 = some (r, σr) → WE p l e 5 136 (cs_nc σr - cs_nc σ0) (cs_ns σr - cs_ns σ0) s m [.ref (ad 0)] below meth c (some (.int r)) D cA ad σ0 η0 σr A H locs (cs_nc σ - cs_nc σ0) (cs_ns σ - cs_ns σ0) (F0 m 8 ls []) := by
    intro n8
    induction n8 with
    | zero =>
      intro η H locs σ ls x1 x2 hx hP hD hS hM0 hl hf
      cases (show (none : Option _) = _ from hf)
    | succ n8 ih8 =>
      have hB88 : ∀ (η : HS) (H : Heap) (locs : List Loc) (σ : CSt) (ls : Array Slot) (x1 : Int32) (x2 : Int32), ext η0 η → HC D cA ad σ η H → va_D A (wC cA ad σ η) → va_S A s.heap H locs → Mo σ0 σ → lv_has ls 5 [(0, .ref (ad 0)), (1, .int x1), (2, .int x2)] → fc_X9_refresh_L88 F (fc_X9_refresh_L8 F n8) σ x1 x2 = some (r, σr) → WE p l e 5 136 (cs_nc σr - cs_nc σ0) (cs_ns σr - cs_ns σ0) s m [.ref (ad 0)] below meth c (some (.int r)) D cA ad σ0 η0 σr A H locs (cs_nc σ - cs_nc σ0) (cs_ns σ - cs_ns σ0) (F0 m 88 ls []) := by
        intro η H locs σ ls x1 x2 hx hP hD hS hM0 hl hf
        have hcc := CC.lab hM0
        have hcl := hcc.le (mo_X9_refresh_L88 (fun h9 => mo_X9_refresh_L8  h9) hf)
        unfold fc_X9_refresh_L88 at hf
        obtain ⟨x2_88, ex2_88, hf⟩ := lt_some hf
        refine lv_iinc (v := x2_88) (lv' := [(2, .int x2_88), (0, .ref (ad 0)), (1, .int x1)]) C.1 C.2.1 dX9_refresh_88 hl (k := 2) rfl (by rw [ex2_88]; rfl) (by decide) rfl (fun ls hl => ?_)
        refine lv_goto (tgt := 8) C.1 C.2.1 dX9_refresh_91 (by decide) ?_
        have hcw := CC.le hcc Mo.rf
        refine W.widen ?_ ?_ (ih8 _ _ _ _ ls _ _ hx hP hD hS hcc.M (lv_sub hl [1, 2, 0] rfl) hf)
        · exact hcw.1
        · exact hcw.2
      have hB78 : ∀ (η : HS) (H : Heap) (locs : List Loc) (σ : CSt) (ls : Array Slot) (x1 : Int32) (x2 : Int32) (x3 : Int32), ext η0 η → HC D cA ad σ η H → va_D A (wC cA ad σ η) → va_S A s.heap H locs → Mo σ0 σ → lv_has ls 5 [(0, .ref (ad 0)), (1, .int x1), (2, .int x2), (3, .int x3)] → fc_X9_refresh_L78 F (fc_X9_refresh_L8 F n8) σ x1 x2 x3 = some (r, σr) → WE p l e 5 136 (cs_nc σr - cs_nc σ0) (cs_ns σr - cs_ns σ0) s m [.ref (ad 0)] below meth c (some (.int r)) D cA ad σ0 η0 σr A H locs (cs_nc σ - cs_nc σ0) (cs_ns σ - cs_ns σ0) (F0 m 78 ls []) := by
        intro η H locs σ ls x1 x2 x3 hx hP hD hS hM0 hl hf
        have hcc := CC.lab hM0
        have hcl := hcc.le (mo_X9_refresh_L78 (fun h9 => mo_X9_refresh_L8  h9) hf)
        unfold fc_X9_refresh_L78 at hf
        refine lv_aload_n C.1 C.2.1 dX9_refresh_78 rfl (lv_at hl 0 rfl) ?_
        refine lv_iload_n C.1 C.2.1 dX9_refresh_79 rfl (lv_at hl 2 rfl) ?_
        refine lv_iload_n C.1 C.2.1 dX9_refresh_80 rfl (lv_at hl 3 rfl) ?_
        obtain ⟨r81, σ81, hc81, hf⟩ := bd2_some hf
        have hcc := CC.add2 (mo_X9_takeWay hc81) hcc
        have hcl := CC.le (σr := σr) hcc (by
          have h := hf
          replace h := lt_e h
          exact (mo_X9_refresh_L88 (fun h9 => mo_X9_refresh_L8  h9) h))
        refine callEV (As := [_, _]) C hK hP hD hA hS hZ wv_X9_142 hl (kc_X9_takeWay l D cA ad _ _ F _ _  r81 σ81 hc81) (rcC 0 9 hK hP rfl rfl) rfl rfl rfl (Nat.le_of_ble_eq_true rfl) hcl dX9_refresh_81 (fun η H locs hx1 hP hD hS => ?_)
        replace hx := hx.tr hx1
        refine lv_pop C.1 C.2.1 dX9_refresh_84 rfl ?_
        obtain ⟨x1_85, ex1_85, hf⟩ := lt_some hf
        refine lv_iinc (v := x1_85) (lv' := [(1, .int x1_85), (0, .ref (ad 0)), (2, .int x2), (3, .int x3)]) C.1 C.2.1 dX9_refresh_85 hl (k := 1) rfl (by rw [ex1_85]; rfl) (by decide) rfl (fun ls hl => ?_)
        have hcw := CC.le hcc Mo.rf
        refine W.widen ?_ ?_ (hB88 _ _ _ _ ls _ _ hx hP hD hS hcc.M (lv_sub hl [1, 0, 2] rfl) hf)
        · exact hcw.1
        · exact hcw.2
      intro η H locs σ ls x1 x2 hx hP hD hS hM0 hl hf
      have hcc := CC.lab hM0
      have hcl := hcc.le (mo_X9_refresh_L8  hf)
      have hf : fc_X9_refresh_L8_c F (fc_X9_refresh_L8 F n8) σ x1 x2 = some (r, σr) := hf
      unfold fc_X9_refresh_L8_c at hf
      refine lv_iload_n C.1 C.2.1 dX9_refresh_8 rfl (lv_at hl 2 rfl) ?_
      refine lv_aload_n C.1 C.2.1 dX9_refresh_9 rfl (lv_at hl 0 rfl) ?_
      refine gc_R_canvas C hK hP wf_X9_10 dX9_refresh_10 ?_
      refine gc_cv_connectors C hK hP wf_X9_100 dX9_refresh_13 ?_
      refine lv_icmp_ge (tgt := 94) C.1 C.2.1 dX9_refresh_16 (by decide) (fun c16 => ?_) (fun c16 => ?_)
      · have hf := br_p c16 hf
        refine lv_iload_n C.1 C.2.1 dX9_refresh_94 rfl (lv_at hl 1 rfl) ?_
        obtain ⟨rfl, rfl⟩ := Prod.mk.inj (Option.some.inj hf)
        exact KE.iret C hr hlk hK hAe hx hP hD hS (hcc.le Mo.rf).1 (hcc.le Mo.rf).2 rfl dX9_refresh_95
      · have hf := br_n c16 hf
        refine lv_aload_n C.1 C.2.1 dX9_refresh_19 rfl (lv_at hl 0 rfl) ?_
        refine gc_R_finder C hK hP wf_X9_26 dX9_refresh_20 ?_
        refine lv_aload_n C.1 C.2.1 dX9_refresh_23 rfl (lv_at hl 0 rfl) ?_
        refine gc_R_canvas C hK hP wf_X9_10 dX9_refresh_24 ?_
        refine lv_iload_n C.1 C.2.1 dX9_refresh_27 rfl (lv_at hl 2 rfl) ?_
        obtain ⟨r28, σ28, hc28, hf⟩ := bd2_some hf
        refine callCV (As := [_, _]) C hK hP hD hA hS hZ wv_X9_138 hl (kc_X8_findCost l D cA ad _ _ F _  r28 σ28 hc28) (rcC 23 8 hK hP rfl rfl) rfl rfl rfl (Nat.le_of_ble_eq_true rfl) hcl dX9_refresh_28 (fun H locs hP hD hS => ?_)
        replace hcc := CC.mo2 (mo_X8_findCost hc28) hcc
        refine lv_istore_n (lv' := [(3, .int r28), (0, .ref (ad 0)), (1, .int x1), (2, .int x2)]) C.1 C.2.1 dX9_refresh_31 rfl hl (by decide) rfl (fun ls hl => ?_)
        refine lv_iload_n C.1 C.2.1 dX9_refresh_32 rfl (lv_at hl 0 rfl) ?_
        refine lv_sipush (v := (-1000 : Int32)) C.1 C.2.1 dX9_refresh_33 (by decide) ?_
        refine lv_icmp_ne (tgt := 42) C.1 C.2.1 dX9_refresh_36 (by decide) (fun c36 => ?_) (fun c36 => ?_)
        · have hf := br_n c36 hf
          refine lv_aload_n C.1 C.2.1 dX9_refresh_42 rfl (lv_at hl 1 rfl) ?_
          refine gc_R_canvas C hK hP wf_X9_10 dX9_refresh_43 ?_
          refine gc_cv_routes C hK hP wf_X9_103 dX9_refresh_46 ?_
          refine lv_iload_n C.1 C.2.1 dX9_refresh_49 rfl (lv_at hl 3 rfl) ?_
          obtain ⟨hi50, hf⟩ := gd_some hf
          refine lr_cr C hK hP hi50 dX9_refresh_50 (fun hn50 => ?_) (fun a50 v50 he50 hv50 => ?_)
          · have hf := mo_n hn50 hf
            refine lv_astoreN (lv' := [(4, .null), (3, .int r28), (0, .ref (ad 0)), (1, .int x1), (2, .int x2)]) C.1 C.2.1 dX9_refresh_51 hl (by decide) rfl (fun ls hl => ?_)
            refine lv_aloadN C.1 C.2.1 dX9_refresh_53 (lv_at hl 0 rfl) ?_
            refine lv_ifnullN (tgt := 78) C.1 C.2.1 dX9_refresh_55 (by decide) ?_
            have hcw := CC.le hcc Mo.rf
            refine W.widen ?_ ?_ (hB78 _ _ _ _ ls _ _ _ hx hP hD hS hcc.M (lv_sub hl [2, 3, 4, 1] rfl) hf)
            · exact hcw.1
            · exact hcw.2
          · have hf := mo_s he50 hf
            refine lv_astore (lv' := [(4, .ref a50), (3, .int r28), (0, .ref (ad 0)), (1, .int x1), (2, .int x2)]) C.1 C.2.1 dX9_refresh_51 hl (by decide) rfl (fun ls hl => ?_)
            refine lv_aload C.1 C.2.1 dX9_refresh_53 (lv_at hl 0 rfl) ?_
            refine lv_ifnull C.1 C.2.1 dX9_refresh_55 ?_
            refine lv_aload C.1 C.2.1 dX9_refresh_58 (lv_at hl 0 rfl) ?_
            refine gp_cost C hK hP hv50 wf_X9_146 dX9_refresh_60 ?_
            refine lv_iload_n C.1 C.2.1 dX9_refresh_63 rfl (lv_at hl 1 rfl) ?_
            refine lv_icmp_gt (tgt := 78) C.1 C.2.1 dX9_refresh_64 (by decide) (fun c64 => ?_) (fun c64 => ?_)
            · have hf := br_p c64 hf
              have hcw := CC.le hcc Mo.rf
              refine W.widen ?_ ?_ (hB78 _ _ _ _ ls _ _ _ hx hP hD hS hcc.M (lv_sub hl [2, 3, 4, 1] rfl) hf)
              · exact hcw.1
              · exact hcw.2
            · have hf := br_n c64 hf
              refine lv_aload_n C.1 C.2.1 dX9_refresh_67 rfl (lv_at hl 2 rfl) ?_
              refine gc_R_canvas C hK hP wf_X9_10 dX9_refresh_68 ?_
              refine lv_iload_n C.1 C.2.1 dX9_refresh_71 rfl (lv_at hl 4 rfl) ?_
              obtain ⟨r72, hc72, hf⟩ := bd_some hf
              refine cV_go (runRVc (As := [_]) C hK hP hZ hS wv_X9_132 hl (kc_X1_isTouched l D cA ad _ _ F _  r72 hc72) (rcC 1 2 hK hP rfl rfl) rfl rfl rfl (Nat.le_of_ble_eq_true rfl) hcl dX9_refresh_72) ?_
              refine lv_if_eq (tgt := 88) C.1 C.2.1 dX9_refresh_75 (by decide) (fun c75 => ?_) (fun c75 => ?_)
              · have hf := br_p c75 hf
                have hcw := CC.le hcc Mo.rf
                refine W.widen ?_ ?_ (hB88 _ _ _ _ ls _ _ hx hP hD hS hcc.M (lv_sub hl [2, 3, 4] rfl) hf)
                · exact hcw.1
                · exact hcw.2
              · have hf := br_n c75 hf
                have hcw := CC.le hcc Mo.rf
                refine W.widen ?_ ?_ (hB78 _ _ _ _ ls _ _ _ hx hP hD hS hcc.M (lv_sub hl [2, 3, 4, 1] rfl) hf)
                · exact hcw.1
                · exact hcw.2
        · have hf := br_p c36 hf
          refine lv_goto (tgt := 88) C.1 C.2.1 dX9_refresh_39 (by decide) ?_
          have hcw := CC.le hcc Mo.rf
          refine W.widen ?_ ?_ (hB88 _ _ _ _ ls _ _ hx hP hD hS hcc.M (lv_sub hl [1, 2, 3] rfl) hf)
          · exact hcw.1
          · exact hcw.2
  unfold fc_X9_refresh at hf
  refine lv_aload_n C.1 C.2.1 dX9_refresh_0 rfl (lv_at hl 0 rfl) ?_
  obtain ⟨σ1, hc1, hf⟩ := bd_some hf
  refine callEV (As := []) C hK hP hD hA hS hZ wv_X9_63 hl (kc_X9_remember l D cA ad _ _ F   σ1 hc1) (rcC 0 9 hK hP rfl rfl) rfl rfl rfl (Nat.le_of_ble_eq_true rfl) hcl dX9_refresh_1 (fun η H locs hx1 hP hD hS => ?_)
  replace hx := hx.tr hx1
  replace hcc := CC.mo2 (mo_X9_remember hc1) hcc
  refine lv_iconst (v := (0 : Int32)) C.1 C.2.1 dX9_refresh_4 (by decide) ?_
  refine lv_istore_n (lv' := [(1, .int (0 : Int32)), (0, .ref (ad 0))]) C.1 C.2.1 dX9_refresh_5 rfl hl (by decide) rfl (fun ls hl => ?_)
  refine lv_iconst (v := (0 : Int32)) C.1 C.2.1 dX9_refresh_6 (by decide) ?_
  refine lv_istore_n (lv' := [(2, .int (0 : Int32)), (1, .int (0 : Int32)), (0, .ref (ad 0))]) C.1 C.2.1 dX9_refresh_7 rfl hl (by decide) rfl (fun ls hl => ?_)
  have hcw := CC.le hcc Mo.rf
  refine W.widen ?_ ?_ (hB8 F _ _ _ _ ls _ _ hx hP hD hS hcc.M (lv_sub hl [2, 1, 0] rfl) hf)
  · exact hcw.1
  · exact hcw.2
def fc_X9_carryOut_44 (F : Nat) (σ : CSt) (x1 : Int32) : Option (Int32 × CSt) :=
  if x1 = (0 : Int32) then (gd (ix (0 : Int32) 6 = true) (gd (ix (1 : Int32) 6 = true) (gd (ix (2 : Int32) 6 = true) (gd (ix (3 : Int32) 6 = true) (bd2 (fc_X9_addBox F σ (cs_tn σ (0 : Int32).toNatClampNeg) (cs_tn σ (1 : Int32).toNatClampNeg) (cs_tn σ (2 : Int32).toNatClampNeg) (cs_tn σ (3 : Int32).toNatClampNeg)) (fun r49 σ49 => some (r49, σ49))))))) else if x1 = (1 : Int32) then (gd (ix (0 : Int32) 6 = true) (gd (ix (1 : Int32) 6 = true) (gd (ix (2 : Int32) 6 = true) (gd (ix (3 : Int32) 6 = true) (gd (ix (4 : Int32) 6 = true) (gd (ix (5 : Int32) 6 = true) (bd2 (fc_X9_link F σ (cs_tn σ (0 : Int32).toNatClampNeg) (cs_tn σ (1 : Int32).toNatClampNeg) (cs_tn σ (2 : Int32).toNatClampNeg) (cs_tn σ (3 : Int32).toNatClampNeg) (cs_tn σ (4 : Int32).toNatClampNeg) (cs_tn σ (5 : Int32).toNatClampNeg)) (fun r72 σ72 => some (r72, σ72))))))))) else if x1 = (2 : Int32) then (gd (ix (0 : Int32) 6 = true) (bd2 (fc_X9_route F σ (cs_tn σ (0 : Int32).toNatClampNeg)) (fun r80 σ80 => some (r80, σ80)))) else if x1 = (3 : Int32) then (gd (ix (0 : Int32) 6 = true) (bd2 (fc_X9_drop F σ (cs_tn σ (0 : Int32).toNatClampNeg)) (fun r88 σ88 => some (r88, σ88)))) else if x1 = (4 : Int32) then (gd (ix (0 : Int32) 6 = true) (bd2 (fc_X9_setPenalty F σ (cs_tn σ (0 : Int32).toNatClampNeg)) (fun r96 σ96 => some (r96, σ96)))) else (bd2 (fc_X9_routeAll F σ) (fun r101 σ101 => some (r101, σ101)))
theorem mo_X9_carryOut_44 {F : Nat} {σ : CSt} {x1 : Int32} {r : Int32} {σr : CSt}  (h : fc_X9_carryOut_44 F σ x1 = some (r, σr)) : Mo σ σr := by
  unfold fc_X9_carryOut_44 at h
  rcases br_any h with h | h
  · obtain ⟨-, h⟩ := gd_some h
    obtain ⟨-, h⟩ := gd_some h
    obtain ⟨-, h⟩ := gd_some h
    obtain ⟨-, h⟩ := gd_some h
    obtain ⟨r49, σ49, hd1, h⟩ := bd2_some h
    have g1 : Mo σ σ49 := mo_X9_addBox hd1
    obtain ⟨-, rfl⟩ := Prod.mk.inj (Option.some.inj h)
    exact g1
  · rcases br_any h with h | h
    · obtain ⟨-, h⟩ := gd_some h
      obtain ⟨-, h⟩ := gd_some h
      obtain ⟨-, h⟩ := gd_some h
      obtain ⟨-, h⟩ := gd_some h
      obtain ⟨-, h⟩ := gd_some h
      obtain ⟨-, h⟩ := gd_some h
      obtain ⟨r72, σ72, hd2, h⟩ := bd2_some h
      have g2 : Mo σ σ72 := mo_X9_link hd2
      obtain ⟨-, rfl⟩ := Prod.mk.inj (Option.some.inj h)
      exact g2
    · rcases br_any h with h | h
      · obtain ⟨-, h⟩ := gd_some h
        obtain ⟨r80, σ80, hd3, h⟩ := bd2_some h
        have g3 : Mo σ σ80 := mo_X9_route hd3
        obtain ⟨-, rfl⟩ := Prod.mk.inj (Option.some.inj h)
        exact g3
      · rcases br_any h with h | h
        · obtain ⟨-, h⟩ := gd_some h
          obtain ⟨r88, σ88, hd4, h⟩ := bd2_some h
          have g4 : Mo σ σ88 := mo_X9_drop hd4
          obtain ⟨-, rfl⟩ := Prod.mk.inj (Option.some.inj h)
          exact g4
        · rcases br_any h with h | h
          · obtain ⟨-, h⟩ := gd_some h
            obtain ⟨r96, σ96, hd5, h⟩ := bd2_some h
            have g5 : Mo σ σ96 := mo_X9_setPenalty hd5
            obtain ⟨-, rfl⟩ := Prod.mk.inj (Option.some.inj h)
            exact g5
          · obtain ⟨r101, σ101, hd6, h⟩ := bd2_some h
            have g6 : Mo σ σ101 := mo_X9_routeAll hd6
            obtain ⟨-, rfl⟩ := Prod.mk.inj (Option.some.inj h)
            exact g6
set_option maxHeartbeats 4000000 in
set_option maxRecDepth 100000 in
theorem kc_X9_carryOut_44 (l : Launch) (D : va_G) (cA : Nat → ClassId) (ad : Nat → Nat) (σ0 : CSt) (η0 : HS) (F : Nat) (z1 : Int32) (r : Int32) (σr : CSt) (hf : fc_X9_carryOut_44 F σ0 z1 = some (r, σr)) : KE l D cA ad σ0 η0 yX9_carryOut cX9_carryOut 3 (some .int) (rmc 6 159 (cs_nc σr - cs_nc σ0) (cs_ns σr - cs_ns σ0)) [.ref (ad 0), .int z1, .ref (ad 44)] (some (.int r)) σr := by
  refine KE.of (by decide) (Nat.le_of_ble_eq_true rfl) ?_
  intro p e s m below meth c A hAe hA C hr hlk hK hP hD hS hZ ls hl
  have hx : ext η0 η0 := ext.rf
  have hcc : CC 0 0 σ0 σ0 := CC.z
  have hcl : 0 ≤ cs_nc σr - cs_nc σ0 ∧ 0 ≤ cs_ns σr - cs_ns σ0 := ⟨Nat.zero_le _, Nat.zero_le _⟩
  have hl : lv_has ls 3 [(0, .ref (ad 0)), (1, .int z1), (2, .ref (ad 44))] := hl
  unfold fc_X9_carryOut_44 at hf
  refine lv_iload_n C.1 C.2.1 dX9_carryOut_0 rfl (lv_at hl 1 rfl) ?_
  by_cases c1_0 : z1 = (0 : Int32)
  · have hf := br_p c1_0 hf
    refine lv_tableIn (tgt := 36) C.1 C.2.1 dX9_carryOut_1 (by rw [c1_0]; decide) (by rw [c1_0]; decide) (by rw [c1_0]; rfl) (by decide) ?_
    refine lv_aload_n C.1 C.2.1 dX9_carryOut_36 rfl (lv_at hl 0 rfl) ?_
    refine lv_aload_n C.1 C.2.1 dX9_carryOut_37 rfl (lv_at hl 2 rfl) ?_
    refine lv_iconst (v := (0 : Int32)) C.1 C.2.1 dX9_carryOut_38 (by decide) ?_
    obtain ⟨hi39, hf⟩ := gd_some hf
    refine lc_tn C hK hP hi39 dX9_carryOut_39 ?_
    refine lv_aload_n C.1 C.2.1 dX9_carryOut_40 rfl (lv_at hl 2 rfl) ?_
    refine lv_iconst (v := (1 : Int32)) C.1 C.2.1 dX9_carryOut_41 (by decide) ?_
    obtain ⟨hi42, hf⟩ := gd_some hf
    refine lc_tn C hK hP hi42 dX9_carryOut_42 ?_
    refine lv_aload_n C.1 C.2.1 dX9_carryOut_43 rfl (lv_at hl 2 rfl) ?_
    refine lv_iconst (v := (2 : Int32)) C.1 C.2.1 dX9_carryOut_44 (by decide) ?_
    obtain ⟨hi45, hf⟩ := gd_some hf
    refine lc_tn C hK hP hi45 dX9_carryOut_45 ?_
    refine lv_aload_n C.1 C.2.1 dX9_carryOut_46 rfl (lv_at hl 2 rfl) ?_
    refine lv_iconst (v := (3 : Int32)) C.1 C.2.1 dX9_carryOut_47 (by decide) ?_
    obtain ⟨hi48, hf⟩ := gd_some hf
    refine lc_tn C hK hP hi48 dX9_carryOut_48 ?_
    obtain ⟨r49, σ49, hc49, hf⟩ := bd2_some hf
    refine callEV (As := [_, _, _, _]) C hK hP hD hA hS hZ wv_X9_286 hl (kc_X9_addBox l D cA ad _ _ F _ _ _ _  r49 σ49 hc49) (rcC 0 9 hK hP rfl rfl) rfl rfl rfl (Nat.le_of_ble_eq_true rfl) hcl dX9_carryOut_49 (fun η H locs hx1 hP hD hS => ?_)
    replace hx := hx.tr hx1
    replace hcc := CC.mo2 (mo_X9_addBox hc49) hcc
    obtain ⟨rfl, rfl⟩ := Prod.mk.inj (Option.some.inj hf)
    exact KE.iret C hr hlk hK hAe hx hP hD hS (hcc.le Mo.rf).1 (hcc.le Mo.rf).2 rfl dX9_carryOut_52
  have hf := br_n c1_0 hf
  by_cases c1_1 : z1 = (1 : Int32)
  · have hf := br_p c1_1 hf
    refine lv_tableIn (tgt := 53) C.1 C.2.1 dX9_carryOut_1 (by rw [c1_1]; decide) (by rw [c1_1]; decide) (by rw [c1_1]; rfl) (by decide) ?_
    refine lv_aload_n C.1 C.2.1 dX9_carryOut_53 rfl (lv_at hl 0 rfl) ?_
    refine lv_aload_n C.1 C.2.1 dX9_carryOut_54 rfl (lv_at hl 2 rfl) ?_
    refine lv_iconst (v := (0 : Int32)) C.1 C.2.1 dX9_carryOut_55 (by decide) ?_
    obtain ⟨hi56, hf⟩ := gd_some hf
    refine lc_tn C hK hP hi56 dX9_carryOut_56 ?_
    refine lv_aload_n C.1 C.2.1 dX9_carryOut_57 rfl (lv_at hl 2 rfl) ?_
    refine lv_iconst (v := (1 : Int32)) C.1 C.2.1 dX9_carryOut_58 (by decide) ?_
    obtain ⟨hi59, hf⟩ := gd_some hf
    refine lc_tn C hK hP hi59 dX9_carryOut_59 ?_
    refine lv_aload_n C.1 C.2.1 dX9_carryOut_60 rfl (lv_at hl 2 rfl) ?_
    refine lv_iconst (v := (2 : Int32)) C.1 C.2.1 dX9_carryOut_61 (by decide) ?_
    obtain ⟨hi62, hf⟩ := gd_some hf
    refine lc_tn C hK hP hi62 dX9_carryOut_62 ?_
    refine lv_aload_n C.1 C.2.1 dX9_carryOut_63 rfl (lv_at hl 2 rfl) ?_
    refine lv_iconst (v := (3 : Int32)) C.1 C.2.1 dX9_carryOut_64 (by decide) ?_
    obtain ⟨hi65, hf⟩ := gd_some hf
    refine lc_tn C hK hP hi65 dX9_carryOut_65 ?_
    refine lv_aload_n C.1 C.2.1 dX9_carryOut_66 rfl (lv_at hl 2 rfl) ?_
    refine lv_iconst (v := (4 : Int32)) C.1 C.2.1 dX9_carryOut_67 (by decide) ?_
    obtain ⟨hi68, hf⟩ := gd_some hf
    refine lc_tn C hK hP hi68 dX9_carryOut_68 ?_
    refine lv_aload_n C.1 C.2.1 dX9_carryOut_69 rfl (lv_at hl 2 rfl) ?_
    refine lv_iconst (v := (5 : Int32)) C.1 C.2.1 dX9_carryOut_70 (by decide) ?_
    obtain ⟨hi71, hf⟩ := gd_some hf
    refine lc_tn C hK hP hi71 dX9_carryOut_71 ?_
    obtain ⟨r72, σ72, hc72, hf⟩ := bd2_some hf
    refine callEV (As := [_, _, _, _, _, _]) C hK hP hD hA hS hZ wv_X9_289 hl (kc_X9_link l D cA ad _ _ F _ _ _ _ _ _  r72 σ72 hc72) (rcC 0 9 hK hP rfl rfl) rfl rfl rfl (Nat.le_of_ble_eq_true rfl) hcl dX9_carryOut_72 (fun η H locs hx1 hP hD hS => ?_)
    replace hx := hx.tr hx1
    replace hcc := CC.mo2 (mo_X9_link hc72) hcc
    obtain ⟨rfl, rfl⟩ := Prod.mk.inj (Option.some.inj hf)
    exact KE.iret C hr hlk hK hAe hx hP hD hS (hcc.le Mo.rf).1 (hcc.le Mo.rf).2 rfl dX9_carryOut_75
  have hf := br_n c1_1 hf
  by_cases c1_2 : z1 = (2 : Int32)
  · have hf := br_p c1_2 hf
    refine lv_tableIn (tgt := 76) C.1 C.2.1 dX9_carryOut_1 (by rw [c1_2]; decide) (by rw [c1_2]; decide) (by rw [c1_2]; rfl) (by decide) ?_
    refine lv_aload_n C.1 C.2.1 dX9_carryOut_76 rfl (lv_at hl 0 rfl) ?_
    refine lv_aload_n C.1 C.2.1 dX9_carryOut_77 rfl (lv_at hl 2 rfl) ?_
    refine lv_iconst (v := (0 : Int32)) C.1 C.2.1 dX9_carryOut_78 (by decide) ?_
    obtain ⟨hi79, hf⟩ := gd_some hf
    refine lc_tn C hK hP hi79 dX9_carryOut_79 ?_
    obtain ⟨r80, σ80, hc80, hf⟩ := bd2_some hf
    have hcc := CC.add2 (mo_X9_route hc80) hcc
    have hcl := CC.le (σr := σr) hcc (by
      have h := hf
      obtain ⟨-, rfl⟩ := Prod.mk.inj (Option.some.inj h)
      exact Mo.rf)
    refine callEV (As := [_]) C hK hP hD hA hS hZ wv_X9_293 hl (kc_X9_route l D cA ad _ _ F _  r80 σ80 hc80) (rcC 0 9 hK hP rfl rfl) rfl rfl rfl (Nat.le_of_ble_eq_true rfl) hcl dX9_carryOut_80 (fun η H locs hx1 hP hD hS => ?_)
    replace hx := hx.tr hx1
    obtain ⟨rfl, rfl⟩ := Prod.mk.inj (Option.some.inj hf)
    exact KE.iret C hr hlk hK hAe hx hP hD hS (hcc.le Mo.rf).1 (hcc.le Mo.rf).2 rfl dX9_carryOut_83
  have hf := br_n c1_2 hf
  by_cases c1_3 : z1 = (3 : Int32)
  · have hf := br_p c1_3 hf
    refine lv_tableIn (tgt := 84) C.1 C.2.1 dX9_carryOut_1 (by rw [c1_3]; decide) (by rw [c1_3]; decide) (by rw [c1_3]; rfl) (by decide) ?_
    refine lv_aload_n C.1 C.2.1 dX9_carryOut_84 rfl (lv_at hl 0 rfl) ?_
    refine lv_aload_n C.1 C.2.1 dX9_carryOut_85 rfl (lv_at hl 2 rfl) ?_
    refine lv_iconst (v := (0 : Int32)) C.1 C.2.1 dX9_carryOut_86 (by decide) ?_
    obtain ⟨hi87, hf⟩ := gd_some hf
    refine lc_tn C hK hP hi87 dX9_carryOut_87 ?_
    obtain ⟨r88, σ88, hc88, hf⟩ := bd2_some hf
    refine callEV (As := [_]) C hK hP hD hA hS hZ wv_X9_296 hl (kc_X9_drop l D cA ad _ _ F _  r88 σ88 hc88) (rcC 0 9 hK hP rfl rfl) rfl rfl rfl (Nat.le_of_ble_eq_true rfl) hcl dX9_carryOut_88 (fun η H locs hx1 hP hD hS => ?_)
    replace hx := hx.tr hx1
    replace hcc := CC.mo2 (mo_X9_drop hc88) hcc
    obtain ⟨rfl, rfl⟩ := Prod.mk.inj (Option.some.inj hf)
    exact KE.iret C hr hlk hK hAe hx hP hD hS (hcc.le Mo.rf).1 (hcc.le Mo.rf).2 rfl dX9_carryOut_91
  have hf := br_n c1_3 hf
  by_cases c1_4 : z1 = (4 : Int32)
  · have hf := br_p c1_4 hf
    refine lv_tableIn (tgt := 92) C.1 C.2.1 dX9_carryOut_1 (by rw [c1_4]; decide) (by rw [c1_4]; decide) (by rw [c1_4]; rfl) (by decide) ?_
    refine lv_aload_n C.1 C.2.1 dX9_carryOut_92 rfl (lv_at hl 0 rfl) ?_
    refine lv_aload_n C.1 C.2.1 dX9_carryOut_93 rfl (lv_at hl 2 rfl) ?_
    refine lv_iconst (v := (0 : Int32)) C.1 C.2.1 dX9_carryOut_94 (by decide) ?_
    obtain ⟨hi95, hf⟩ := gd_some hf
    refine lc_tn C hK hP hi95 dX9_carryOut_95 ?_
    obtain ⟨r96, σ96, hc96, hf⟩ := bd2_some hf
    refine callEV (As := [_]) C hK hP hD hA hS hZ wv_X9_299 hl (kc_X9_setPenalty l D cA ad _ _ F _  r96 σ96 hc96) (rcC 0 9 hK hP rfl rfl) rfl rfl rfl (Nat.le_of_ble_eq_true rfl) hcl dX9_carryOut_96 (fun η H locs hx1 hP hD hS => ?_)
    replace hx := hx.tr hx1
    replace hcc := CC.mo2 (mo_X9_setPenalty hc96) hcc
    obtain ⟨rfl, rfl⟩ := Prod.mk.inj (Option.some.inj hf)
    exact KE.iret C hr hlk hK hAe hx hP hD hS (hcc.le Mo.rf).1 (hcc.le Mo.rf).2 rfl dX9_carryOut_99
  have hf := br_n c1_4 hf
  refine lv_tableOut (tgt := 100) C.1 C.2.1 dX9_carryOut_1 (by have q0 : ¬ z1.toInt = 0 := lv_neT c1_0 (by decide); have q1 : ¬ z1.toInt = 1 := lv_neT c1_1 (by decide); have q2 : ¬ z1.toInt = 2 := lv_neT c1_2 (by decide); have q3 : ¬ z1.toInt = 3 := lv_neT c1_3 (by decide); have q4 : ¬ z1.toInt = 4 := lv_neT c1_4 (by decide); omega) (by decide) ?_
  refine lv_aload_n C.1 C.2.1 dX9_carryOut_100 rfl (lv_at hl 0 rfl) ?_
  obtain ⟨r101, σ101, hc101, hf⟩ := bd2_some hf
  have hcc := CC.add2 (mo_X9_routeAll hc101) hcc
  have hcl := CC.le (σr := σr) hcc (by
    have h := hf
    obtain ⟨-, rfl⟩ := Prod.mk.inj (Option.some.inj h)
    exact Mo.rf)
  refine callEV (As := []) C hK hP hD hA hS hZ wv_X9_302 hl (kc_X9_routeAll l D cA ad _ _ F   r101 σ101 hc101) (rcC 0 9 hK hP rfl rfl) rfl rfl rfl (Nat.le_of_ble_eq_true rfl) hcl dX9_carryOut_101 (fun η H locs hx1 hP hD hS => ?_)
  replace hx := hx.tr hx1
  obtain ⟨rfl, rfl⟩ := Prod.mk.inj (Option.some.inj hf)
  exact KE.iret C hr hlk hK hAe hx hP hD hS (hcc.le Mo.rf).1 (hcc.le Mo.rf).2 rfl dX9_carryOut_104
def fc_X9_run_L89 (F : Nat) (σ : CSt) (x1 : Int32) : Option (Int32 × CSt) :=
  lt (cs_run_s σ (0 : Int32)) (fun σ91 => some (x1, σ91))
def fc_X9_run_L37_c (F : Nat) (k37 : CSt → Int32 → Int32 → Option (Int32 × CSt)) (σ : CSt) (x1 : Int32) (x2 : Int32) : Option (Int32 × CSt) :=
  if (120 : Int32) ≤ x2 then (fc_X9_run_L89 F σ x1) else (bd2 (fc_X2_readCommand F σ) (fun r47 σ47 => if r47 = 0 then (fc_X9_run_L89 F σ47 x1) else (bd2 (fc_X9_carryOut_44 F σ47 (cs_tw σ47)) (fun r68 σ68 => bd (fc_X9_isError F σ68 r68) (fun r71 => if r71 = 0 then (lt (x1 + (1 : Int32)) (fun x1_80 => lt (x2 + (1 : Int32)) (fun x2_83 => k37 σ68 x1_80 x2_83))) else (fc_X9_run_L89 F σ68 x1))))))
def fc_X9_run_L37 (F : Nat) (n : Nat) (σ : CSt) (x1 : Int32) (x2 : Int32) : Option (Int32 × CSt) := lpN (fun (k : CSt × Int32 × Int32 → Option (Int32 × CSt)) a => fc_X9_run_L37_c F (fun σ x1 x2 => k (σ, x1, x2)) a.1 a.2.1 a.2.2) n (σ, x1, x2)
def fc_X9_run (F : Nat) (σ : CSt) : Option (Int32 × CSt) :=
  bd2 (fc_X2_findFault F σ) (fun r4 σ4 => if r4 = (-1000 : Int32) then (bd (fc_X9_remember F σ4) (fun σ18 => lt (cs_run_s σ18 (1 : Int32)) (fun σ23 => bd (fc_X2_rewind F σ23) (fun σ32 => fc_X9_run_L37 F F σ32 (0 : Int32) (0 : Int32))))) else (some ((-1003 : Int32), σ4)))
theorem mo_X9_run_L89 {F : Nat} {σ : CSt} {x1 : Int32} {r : Int32} {σr : CSt}  (h : fc_X9_run_L89 F σ x1 = some (r, σr)) : Mo σ σr := by
  unfold fc_X9_run_L89 at h
  obtain ⟨σ91, he1, h⟩ := lt_some h
  have g1 : Mo σ σ91 := by rw [he1]; exact (Mo.rf : Mo σ σ)
  obtain ⟨-, rfl⟩ := Prod.mk.inj (Option.some.inj h)
  exact g1
theorem mo_X9_run_L37_c {F : Nat} {k37 : CSt → Int32 → Int32 → Option (Int32 × CSt)} {σ : CSt} {x1 : Int32} {x2 : Int32} {r : Int32} {σr : CSt} (hk37 : ∀ {y0 : CSt} {y1 : Int32} {y2 : Int32}, k37 y0 y1 y2 = some (r, σr) → Mo y0 σr) (h : fc_X9_run_L37_c F k37 σ x1 x2 = some (r, σr)) : Mo σ σr := by
  unfold fc_X9_run_L37_c at h
  rcases br_any h with h | h
  · exact (mo_X9_run_L89  h)
  · obtain ⟨r47, σ47, hd1, h⟩ := bd2_some h
    have g1 : Mo σ σ47 := mo_X2_readCommand hd1
    rcases br_any h with h | h
    · exact Mo.tr (g1) (mo_X9_run_L89  h)
    · obtain ⟨r68, σ68, hd2, h⟩ := bd2_some h
      have g2 : Mo σ47 σ68 := mo_X9_carryOut_44 hd2
      obtain ⟨r71, hd3, h⟩ := bd_some h
      rcases br_any h with h | h
      · replace h := lt_e h
        replace h := lt_e h
        exact Mo.tr (Mo.tr (g1) g2) (hk37 h)
      · exact Mo.tr (Mo.tr (g1) g2) (mo_X9_run_L89  h)
theorem mo_X9_run_L37 {F : Nat} {n : Nat} {σ : CSt} {x1 : Int32} {x2 : Int32} {r : Int32} {σr : CSt}  (h : fc_X9_run_L37 F n σ x1 x2 = some (r, σr)) : Mo σ σr := by
  induction n generalizing σ x1 x2 with
  | zero => cases (show (none : Option _) = _ from h)
  | succ n ih => exact mo_X9_run_L37_c  (fun h9 => ih h9) (show fc_X9_run_L37_c F (fc_X9_run_L37 F n) σ x1 x2 = some (r, σr) from h)
theorem mo_X9_run {F : Nat} {σ : CSt} {r : Int32} {σr : CSt}  (h : fc_X9_run F σ = some (r, σr)) : Mo σ σr := by
  unfold fc_X9_run at h
  obtain ⟨r4, σ4, hd1, h⟩ := bd2_some h
  have g1 : Mo σ σ4 := mo_X2_findFault hd1
  rcases br_any h with h | h
  · obtain ⟨σ18, hd2, h⟩ := bd_some h
    have g2 : Mo σ4 σ18 := mo_X9_remember hd2
    obtain ⟨σ23, he3, h⟩ := lt_some h
    have g3 : Mo σ18 σ23 := by rw [he3]; exact (Mo.rf : Mo σ18 σ18)
    obtain ⟨σ32, hd4, h⟩ := bd_some h
    have g4 : Mo σ23 σ32 := mo_X2_rewind hd4
    exact Mo.tr (Mo.tr (Mo.tr (Mo.tr (g1) g2) g3) g4) (mo_X9_run_L37  h)
  · obtain ⟨-, rfl⟩ := Prod.mk.inj (Option.some.inj h)
    exact g1
set_option maxHeartbeats 4000000 in
set_option maxRecDepth 100000 in
theorem kc_X9_run (l : Launch) (D : va_G) (cA : Nat → ClassId) (ad : Nat → Nat) (σ0 : CSt) (η0 : HS) (F : Nat)  (r : Int32) (σr : CSt) (hf : fc_X9_run F σ0 = some (r, σr)) : KE l D cA ad σ0 η0 yX9_run cX9_run 3 (some .int) (rmc 9 194 (cs_nc σr - cs_nc σ0) (cs_ns σr - cs_ns σ0)) [.ref (ad 0)] (some (.int r)) σr := by
  refine KE.of (by decide) (Nat.le_of_ble_eq_true rfl) ?_
  intro p e s m below meth c A hAe hA C hr hlk hK hP hD hS hZ ls hl
  have hx : ext η0 η0 := ext.rf
  have hcc : CC 0 0 σ0 σ0 := CC.z
  have hcl : 0 ≤ cs_nc σr - cs_nc σ0 ∧ 0 ≤ cs_ns σr - cs_ns σ0 := ⟨Nat.zero_le _, Nat.zero_le _⟩
  have hl : lv_has ls 3 [(0, .ref (ad 0))] := hl
  have hB89 : ∀ (η : HS) (H : Heap) (locs : List Loc) (σ : CSt) (ls : Array Slot) (x1 : Int32), ext η0 η → HC D cA ad σ η H → va_D A (wC cA ad σ η) → va_S A s.heap H locs → Mo σ0 σ → lv_has ls 3 [(0, .ref (ad 0)), (1, .int x1)] → fc_X9_run_L89 F σ x1 = some (r, σr) → WE p l e 9 194 (cs_nc σr - cs_nc σ0) (cs_ns σr - cs_ns σ0) s m [.ref (ad 0)] below meth c (some (.int r)) D cA ad σ0 η0 σr A H locs (cs_nc σ - cs_nc σ0) (cs_ns σ - cs_ns σ0) (F0 m 89 ls []) := by
    intro η H locs σ ls x1 hx hP hD hS hM0 hl hf
    have hcc := CC.lab hM0
    have hcl := hcc.le (mo_X9_run_L89  hf)
    unfold fc_X9_run_L89 at hf
    refine lv_aload_n C.1 C.2.1 dX9_run_89 rfl (lv_at hl 0 rfl) ?_
    refine lv_iconst (v := (0 : Int32)) C.1 C.2.1 dX9_run_90 (by decide) ?_
    replace hf := lt_e hf
    refine pc_R_running C hK hP hD hS (by decide) wf_X9_231 dX9_run_91 (fun H locs hP hD hS => ?_)
    refine lv_iload_n C.1 C.2.1 dX9_run_94 rfl (lv_at hl 1 rfl) ?_
    obtain ⟨rfl, rfl⟩ := Prod.mk.inj (Option.some.inj hf)
    exact KE.iret C hr hlk hK hAe hx hP hD hS (hcc.le Mo.rf).1 (hcc.le Mo.rf).2 rfl dX9_run_95
  have hB37 : ∀ (n37 : Nat) (η : HS) (H : Heap) (locs : List Loc) (σ : CSt) (ls : Array Slot) (x1 : Int32) (x2 : Int32), ext η0 η → HC D cA ad σ η H → va_D A (wC cA ad σ η) → va_S A s.heap H locs → Mo σ0 σ → lv_has ls 3 [(0, .ref (ad 0)), (1, .int x1), (2, .int x2)] → fc_X9_run_L37 F n37 σ x1 x2 = some (r, σr) → WE p l e 9 194 (cs_nc σr - cs_nc σ0) (cs_ns σr - cs_ns σ0) s m [.ref (ad 0)] below meth c (some (.int r)) D cA ad σ0 η0 σr A H locs (cs_nc σ - cs_nc σ0) (cs_ns σ - cs_ns σ0) (F0 m 37 ls []) := by
    intro n37
    induction n37 with
    | zero =>
      intro η H locs σ ls x1 x2 hx hP hD hS hM0 hl hf
      cases (show (none : Option _) = _ from hf)
    | succ n37 ih37 =>
      intro η H locs σ ls x1 x2 hx hP hD hS hM0 hl hf
      have hcc := CC.lab hM0
      have hcl := hcc.le (mo_X9_run_L37  hf)
      have hf : fc_X9_run_L37_c F (fc_X9_run_L37 F n37) σ x1 x2 = some (r, σr) := hf
      unfold fc_X9_run_L37_c at hf
      refine lv_iload_n C.1 C.2.1 dX9_run_37 rfl (lv_at hl 2 rfl) ?_
      refine lv_bipush (v := (120 : Int32)) C.1 C.2.1 dX9_run_38 (by decide) ?_
      refine lv_icmp_ge (tgt := 89) C.1 C.2.1 dX9_run_40 (by decide) (fun c40 => ?_) (fun c40 => ?_)
      · have hf := br_p c40 hf
        have hcw := CC.le hcc Mo.rf
        refine W.widen ?_ ?_ (hB89 _ _ _ _ ls _ hx hP hD hS hcc.M (lv_sub hl [0, 1] rfl) hf)
        · exact hcw.1
        · exact hcw.2
      · have hf := br_n c40 hf
        refine lv_aload_n C.1 C.2.1 dX9_run_43 rfl (lv_at hl 0 rfl) ?_
        refine gc_R_text C hK hP wf_X9_40 dX9_run_44 ?_
        obtain ⟨r47, σ47, hc47, hf⟩ := bd2_some hf
        refine callCV (As := []) C hK hP hD hA hS hZ wv_X9_238 hl (kc_X2_readCommand l D cA ad _ _ F   r47 σ47 hc47) (rcC 42 3 hK hP rfl rfl) rfl rfl rfl (Nat.le_of_ble_eq_true rfl) hcl dX9_run_47 (fun H locs hP hD hS => ?_)
        replace hcc := CC.mo2 (mo_X2_readCommand hc47) hcc
        refine lv_if_eq (tgt := 89) C.1 C.2.1 dX9_run_50 (by decide) (fun c50 => ?_) (fun c50 => ?_)
        · have hf := br_p c50 hf
          have hcw := CC.le hcc Mo.rf
          refine W.widen ?_ ?_ (hB89 _ _ _ _ ls _ hx hP hD hS hcc.M (lv_sub hl [0, 1] rfl) hf)
          · exact hcw.1
          · exact hcw.2
        · have hf := br_n c50 hf
          refine lv_aload_n C.1 C.2.1 dX9_run_53 rfl (lv_at hl 0 rfl) ?_
          refine lv_aload_n C.1 C.2.1 dX9_run_54 rfl (lv_at hl 0 rfl) ?_
          refine gc_R_text C hK hP wf_X9_40 dX9_run_55 ?_
          refine gc_tx_word C hK hP wf_X9_242 dX9_run_58 ?_
          refine lv_aload_n C.1 C.2.1 dX9_run_61 rfl (lv_at hl 0 rfl) ?_
          refine gc_R_text C hK hP wf_X9_40 dX9_run_62 ?_
          refine gc_tx_numbers C hK hP wf_X9_245 dX9_run_65 ?_
          obtain ⟨r68, σ68, hc68, hf⟩ := bd2_some hf
          have hcc := CC.add2 (mo_X9_carryOut_44 hc68) hcc
          have hcl := CC.le (σr := σr) hcc (by
            have h := hf
            obtain ⟨r71, hd1, h⟩ := bd_some h
            rcases br_any h with h | h
            · replace h := lt_e h
              replace h := lt_e h
              exact (mo_X9_run_L37  h)
            · exact (mo_X9_run_L89  h))
          refine callEV (As := [_, _]) C hK hP hD hA hS hZ wv_X9_248 hl (kc_X9_carryOut_44 l D cA ad _ _ F _  r68 σ68 hc68) (rcC 0 9 hK hP rfl rfl) rfl rfl rfl (Nat.le_of_ble_eq_true rfl) hcl dX9_run_68 (fun η H locs hx1 hP hD hS => ?_)
          replace hx := hx.tr hx1
          obtain ⟨r71, hc71, hf⟩ := bd_some hf
          refine cV_go (runRSc (As := [_]) C hK hP hZ hS wv_X9_252 hl (kc_X9_isError l D cA ad _ _ F _  r71 hc71) rfl rfl rfl (Nat.le_of_ble_eq_true rfl) hcl dX9_run_71) ?_
          refine lv_if_eq (tgt := 80) C.1 C.2.1 dX9_run_74 (by decide) (fun c74 => ?_) (fun c74 => ?_)
          · have hf := br_p c74 hf
            obtain ⟨x1_80, ex1_80, hf⟩ := lt_some hf
            refine lv_iinc (v := x1_80) (lv' := [(1, .int x1_80), (0, .ref (ad 0)), (2, .int x2)]) C.1 C.2.1 dX9_run_80 hl (k := 1) rfl (by rw [ex1_80]; rfl) (by decide) rfl (fun ls hl => ?_)
            obtain ⟨x2_83, ex2_83, hf⟩ := lt_some hf
            refine lv_iinc (v := x2_83) (lv' := [(2, .int x2_83), (1, .int x1_80), (0, .ref (ad 0))]) C.1 C.2.1 dX9_run_83 hl (k := 2) rfl (by rw [ex2_83]; rfl) (by decide) rfl (fun ls hl => ?_)
            refine lv_goto (tgt := 37) C.1 C.2.1 dX9_run_86 (by decide) ?_
            have hcw := CC.le hcc Mo.rf
            refine W.widen ?_ ?_ (ih37 _ _ _ _ ls _ _ hx hP hD hS hcc.M (lv_sub hl [2, 1, 0] rfl) hf)
            · exact hcw.1
            · exact hcw.2
          · have hf := br_n c74 hf
            refine lv_goto (tgt := 89) C.1 C.2.1 dX9_run_77 (by decide) ?_
            have hcw := CC.le hcc Mo.rf
            refine W.widen ?_ ?_ (hB89 _ _ _ _ ls _ hx hP hD hS hcc.M (lv_sub hl [0, 1] rfl) hf)
            · exact hcw.1
            · exact hcw.2
  unfold fc_X9_run at hf
  refine lv_aload_n C.1 C.2.1 dX9_run_0 rfl (lv_at hl 0 rfl) ?_
  refine gc_R_text C hK hP wf_X9_40 dX9_run_1 ?_
  obtain ⟨r4, σ4, hc4, hf⟩ := bd2_some hf
  refine callCV (As := []) C hK hP hD hA hS hZ wv_X9_228 hl (kc_X2_findFault l D cA ad _ _ F   r4 σ4 hc4) (rcC 42 3 hK hP rfl rfl) rfl rfl rfl (Nat.le_of_ble_eq_true rfl) hcl dX9_run_4 (fun H locs hP hD hS => ?_)
  replace hcc := CC.mo2 (mo_X2_findFault hc4) hcc
  refine lv_sipush (v := (-1000 : Int32)) C.1 C.2.1 dX9_run_7 (by decide) ?_
  refine lv_icmp_eq (tgt := 17) C.1 C.2.1 dX9_run_10 (by decide) (fun c10 => ?_) (fun c10 => ?_)
  · have hf := br_p c10 hf
    refine lv_aload_n C.1 C.2.1 dX9_run_17 rfl (lv_at hl 0 rfl) ?_
    obtain ⟨σ18, hc18, hf⟩ := bd_some hf
    refine callEV (As := []) C hK hP hD hA hS hZ wv_X9_63 hl (kc_X9_remember l D cA ad _ _ F   σ18 hc18) (rcC 0 9 hK hP rfl rfl) rfl rfl rfl (Nat.le_of_ble_eq_true rfl) hcl dX9_run_18 (fun η H locs hx1 hP hD hS => ?_)
    replace hx := hx.tr hx1
    replace hcc := CC.mo2 (mo_X9_remember hc18) hcc
    refine lv_aload_n C.1 C.2.1 dX9_run_21 rfl (lv_at hl 0 rfl) ?_
    refine lv_iconst (v := (1 : Int32)) C.1 C.2.1 dX9_run_22 (by decide) ?_
    replace hf := lt_e hf
    refine pc_R_running C hK hP hD hS (by decide) wf_X9_231 dX9_run_23 (fun H locs hP hD hS => ?_)
    refine lv_iconst (v := (0 : Int32)) C.1 C.2.1 dX9_run_26 (by decide) ?_
    refine lv_istore_n (lv' := [(1, .int (0 : Int32)), (0, .ref (ad 0))]) C.1 C.2.1 dX9_run_27 rfl hl (by decide) rfl (fun ls hl => ?_)
    refine lv_aload_n C.1 C.2.1 dX9_run_28 rfl (lv_at hl 1 rfl) ?_
    refine gc_R_text C hK hP wf_X9_40 dX9_run_29 ?_
    obtain ⟨σ32, hc32, hf⟩ := bd_some hf
    refine callCV (As := []) C hK hP hD hA hS hZ wv_X9_235 hl (kc_X2_rewind l D cA ad _ _ F   σ32 hc32) (rcC 42 3 hK hP rfl rfl) rfl rfl rfl (Nat.le_of_ble_eq_true rfl) hcl dX9_run_32 (fun H locs hP hD hS => ?_)
    replace hcc := CC.mo2 (mo_X2_rewind hc32) hcc
    refine lv_iconst (v := (0 : Int32)) C.1 C.2.1 dX9_run_35 (by decide) ?_
    refine lv_istore_n (lv' := [(2, .int (0 : Int32)), (1, .int (0 : Int32)), (0, .ref (ad 0))]) C.1 C.2.1 dX9_run_36 rfl hl (by decide) rfl (fun ls hl => ?_)
    have hcw := CC.le hcc Mo.rf
    refine W.widen ?_ ?_ (hB37 F _ _ _ _ ls _ _ hx hP hD hS hcc.M (lv_sub hl [2, 1, 0] rfl) hf)
    · exact hcw.1
    · exact hcw.2
  · have hf := br_n c10 hf
    refine lv_sipush (v := (-1003 : Int32)) C.1 C.2.1 dX9_run_13 (by decide) ?_
    obtain ⟨rfl, rfl⟩ := Prod.mk.inj (Option.some.inj hf)
    exact KE.iret C hr hlk hK hAe hx hP hD hS (hcc.le Mo.rf).1 (hcc.le Mo.rf).2 rfl dX9_run_16
